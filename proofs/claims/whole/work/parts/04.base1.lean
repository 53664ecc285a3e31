/-! BASE 1: values as (kind, Int), one memory for all objects, the judgement WP over the kit's W, and its rows for locals, stack, arithmetic, branches -/
abbrev AV : Type := Nat × Int
abbrev Mem : Type := Int → Int → Int
abbrev MD : Type := MethodName × ByteArray × Nat × Option FieldType
/-- base, classes' numbers and slots, array classes' numbers, texts' cells, their bytes' cells, the script's cell, a static of the JDK -/
abbrev GW : Type := Nat × va_G × (Nat → ClassId) × (Nat → Nat) × (Nat → Nat) × Nat × Option Nat
/-- kinds of the objects; of a class's field that is told once for all, how far from its object what it refers to lies; the script's length, its ints -/
abbrev Wd : Type := List (Nat × Nat) × (Nat → Nat → Option Int) × Nat × (Int → Int)
abbrev i32 (x : Int) : Prop := -2147483648 ≤ x ∧ x < 2147483648
abbrev i64 (x : Int) : Prop := -9223372036854775808 ≤ x ∧ x < 9223372036854775808
def val (g : GW) (v : AV) : Value := match v.1 with
  | 0 => .int (Int32.ofInt v.2)
  | 1 => .long (Int64.ofInt v.2)
  | 2 => if v.2 < 0 then .null else .ref (g.1 + v.2.toNat)
  | 3 => .ref (g.2.2.2.1 v.2.toNat)
  | 4 => .ref g.2.2.2.2.2.1
  | 5 => .ref (g.2.2.2.2.1 v.2.toNat)
  | _ => va_rf g.2.2.2.2.2.2
def good (v : AV) : Prop := match v.1 with
  | 0 => i32 v.2
  | 1 => i64 v.2
  | 2 => -1 ≤ v.2
  | 3 => 0 ≤ v.2 ∧ v.2 < 4
  | 5 => 0 ≤ v.2 ∧ v.2 < 4
  | _ => True
theorem val_cat (g : GW) (v : AV) : (val g v).category = if v.1 = 1 then 2 else 1 := by
  obtain ⟨k, x⟩ := v
  match k with
  | 0 => rfl
  | 1 => rfl
  | 2 => by_cases h : x < 0 <;> simp [val, h] <;> rfl
  | 3 => rfl
  | 4 => rfl
  | 5 => rfl
  | k + 6 =>
    show (va_rf g.2.2.2.2.2.2).category = _
    cases g.2.2.2.2.2.2 <;> rfl
/-! ints -/
theorem ti32 {x : Int} (h : i32 x) : (Int32.ofInt x).toInt = x := by
  rw [Int32.toInt_ofInt, Int.bmod_def]
  simp only [Int32.size]
  omega
theorem ti64 {x : Int} (h : i64 x) : (Int64.ofInt x).toInt = x := by
  rw [Int64.toInt_ofInt, Int.bmod_def]
  simp only [Int64.size]
  omega
theorem i32_of (z : Int32) : i32 z.toInt := ⟨by have := Int32.le_toInt z; simp at this; omega, by have := Int32.toInt_lt z; simp at this; omega⟩
theorem i64_of (z : Int64) : i64 z.toInt := ⟨by have := Int64.le_toInt z; simp at this; omega, by have := Int64.toInt_lt z; simp at this; omega⟩
theorem oi32 (z : Int32) : Int32.ofInt z.toInt = z := Int32.ofInt_toInt z
theorem oi64 (z : Int64) : Int64.ofInt z.toInt = z := Int64.ofInt_toInt z
def w32 (x : Int) : Int := (Int32.ofInt x).toInt
def w64 (x : Int) : Int := (Int64.ofInt x).toInt
theorem w32_id {x : Int} (h : i32 x) : w32 x = x := ti32 h
theorem w64_id {x : Int} (h : i64 x) : w64 x = x := ti64 h
theorem w32_i (x : Int) : i32 (w32 x) := i32_of _
theorem w32_eq (x : Int) : w32 x = (x + 2147483648) % 4294967296 - 2147483648 := by
  rw [w32, Int32.toInt_ofInt, Int.bmod_def]
  simp only [Int32.size]
  omega
def iAnd (x y : Int) : Int := (Int32.ofInt x &&& Int32.ofInt y).toInt
def iOr (x y : Int) : Int := (Int32.ofInt x ||| Int32.ofInt y).toInt
def iXor (x y : Int) : Int := (Int32.ofInt x ^^^ Int32.ofInt y).toInt
def iShl (x y : Int) : Int := (Int32.ofInt x <<< (Int32.ofInt y &&& 31)).toInt
def iShr (x y : Int) : Int := (Int32.ofInt x >>> (Int32.ofInt y &&& 31)).toInt
def iUshr (x y : Int) : Int := ((Int32.ofInt x).toUInt32 >>> ((Int32.ofInt y).toUInt32 &&& Int32.toUInt32 31)).toInt32.toInt
def lAnd (x y : Int) : Int := (Int64.ofInt x &&& Int64.ofInt y).toInt
def lOr (x y : Int) : Int := (Int64.ofInt x ||| Int64.ofInt y).toInt
def lShl (x y : Int) : Int := (Int64.ofInt x <<< ((Int32.ofInt y).toInt64 &&& 63)).toInt
def lShr (x y : Int) : Int := (Int64.ofInt x >>> ((Int32.ofInt y).toInt64 &&& 63)).toInt
def toB (x : Int) : Int := ((Int32.ofInt x).toInt8.toInt32).toInt
def toS (x : Int) : Int := ((Int32.ofInt x).toInt16.toInt32).toInt
def toC (x : Int) : Int := (((Int32.ofInt x).toUInt32 % 65536).toInt32).toInt
def lCmp (x y : Int) : Int := if x < y then -1 else if x = y then 0 else 1
theorem lt32 {x y : Int} (hx : i32 x) (hy : i32 y) : Int32.ofInt x < Int32.ofInt y ↔ x < y := by rw [Int32.lt_iff_toInt_lt, ti32 hx, ti32 hy]
theorem le32 {x y : Int} (hx : i32 x) (hy : i32 y) : Int32.ofInt x ≤ Int32.ofInt y ↔ x ≤ y := by rw [Int32.le_iff_toInt_le, ti32 hx, ti32 hy]
theorem eq32 {x y : Int} (hx : i32 x) (hy : i32 y) : Int32.ofInt x = Int32.ofInt y ↔ x = y := by rw [← Int32.toInt_inj, ti32 hx, ti32 hy]
theorem lt64 {x y : Int} (hx : i64 x) (hy : i64 y) : Int64.ofInt x < Int64.ofInt y ↔ x < y := by rw [Int64.lt_iff_toInt_lt, ti64 hx, ti64 hy]
theorem eq64 {x y : Int} (hx : i64 x) (hy : i64 y) : Int64.ofInt x = Int64.ofInt y ↔ x = y := by rw [← Int64.toInt_inj, ti64 hx, ti64 hy]
theorem cl32 {x : Int} (hx : i32 x) : (Int32.ofInt x).toNatClampNeg = x.toNat := by
  show (Int32.ofInt x).toInt.toNat = _
  rw [ti32 hx]
theorem in32 {x : Int} {n : Nat} (h : i32 x) (h0 : 0 ≤ x) (h1 : x < n) : ¬ (Int32.ofInt x < 0 ∨ n ≤ (Int32.ofInt x).toNatClampNeg) := by
  rw [cl32 h]
  have e : Int32.ofInt x < 0 ↔ x < 0 := lt32 (y := 0) h (by decide)
  rw [e]; omega
theorem idiv32 {x y : Int} (hx : i32 x) (hy : i32 y) (h0 : 0 ≤ x) (h1 : 0 < y) : Int32.ofInt x / Int32.ofInt y = Int32.ofInt (x / y) := by
  have hq : i32 (x / y) := ⟨by have := Int.ediv_nonneg h0 (Int.le_of_lt h1); omega, by have := Int.ediv_le_self y h0; omega⟩
  rw [← Int32.toInt_inj, Int32.toInt_div, ti32 hx, ti32 hy, ti32 hq, Int.tdiv_eq_ediv_of_nonneg h0, Int.bmod_def]
  try simp only [Int32.size]
  omega
theorem ldiv64 {x y : Int} (hx : i64 x) (hy : i64 y) (h0 : 0 ≤ x) (h1 : 0 < y) : Int64.ofInt x / Int64.ofInt y = Int64.ofInt (x / y) := by
  have hq : i64 (x / y) := ⟨by have := Int.ediv_nonneg h0 (Int.le_of_lt h1); omega, by have := Int.ediv_le_self y h0; omega⟩
  rw [← Int64.toInt_inj, Int64.toInt_div, ti64 hx, ti64 hy, ti64 hq, Int.tdiv_eq_ediv_of_nonneg h0, Int.bmod_def]
  try simp only [Int64.size]
  omega
/-! kinds, cells, the memory -/
abbrev cls0 : List vw_C := [(RX0, TX0, 16), (RX1, TX1, 11), (RX2, TX2, 11), (RX3, TX3, 9), (RX4, TX4, 4), (RX5, TX5, 2), (RX6, TX6, 7), (RX7, TX7, 11), (RX8, TX8, 4), (RX9, TX9, 20), (RX10, TX10, 49)]
def fty (ci : Nat) : Nat → FieldType := match ci with
  | 0 => tyX0 | 1 => tyX1 | 2 => tyX2 | 3 => tyX3 | 4 => tyX4 | 5 => tyX5 | 6 => tyX6 | 7 => tyX7 | 8 => tyX8 | 9 => tyX9 | _ => tyX10
/-- a field's or an array's sort: 0 int, 1 long, 4 byte, 5 boolean, 2 a reference (arrays of them: 10 and the class) -/
def ftc : FieldType → Nat
  | .int => 0 | .long => 1 | .byte => 4 | .boolean => 5 | _ => 2
def et (e : Nat) : FieldType := match e with
  | 0 => .int | 1 => .long | 4 => .byte | 5 => .boolean
  | 11 => .object RX1 | 16 => .object RX6 | _ => .object RX8
/-- the sort of a value that is read from there -/
def vt (c : Nat) : Nat := match c with
  | 0 => 0 | 1 => 1 | 4 => 0 | 5 => 0 | _ => 2
def rng (c : Nat) (x : Int) : Prop := match c with
  | 0 => i32 x | 1 => i64 x | 4 => -128 ≤ x ∧ x < 128 | 5 => 0 ≤ x ∧ x ≤ 1 | _ => -1 ≤ x
theorem rng_good {c : Nat} {x : Int} (h : rng c x) : good (vt c, x) := by
  match c with
  | 0 => exact h
  | 1 => exact h
  | 4 => exact ⟨by have := h.1; omega, by have := h.2; omega⟩
  | 5 => exact ⟨by have := h.1; omega, by have := h.2; omega⟩
  | 2 => exact h
  | 3 => exact h
  | c + 6 => exact h
def fv (T : Wd) (μ : Mem) (ci : Nat) (a : Int) (j : Nat) : Int := match T.2.1 ci j with
  | some d => a + d
  | none => μ a j
def kd (T : Wd) (a : Int) : Option (Nat × Nat) := if a < 0 then none else T.1[a.toNat]?
def cellA (g : GW) (μ : Mem) (k : Nat) (q : Nat × Nat) (H : Heap) : Prop :=
  H[g.1 + k]? = some (arrV (g.2.2.1 q.1) q.2 (fun j => val g (vt q.1, μ k j))) ∧ ∀ j : Nat, j < q.2 → rng q.1 (μ k j)
def cellO (g : GW) (T : Wd) (μ : Mem) (k : Nat) (q : Nat × Nat) (H : Heap) : Prop :=
  t_OB (g.1 + k) (g.2.1.1 (q.1 - 30)) q.2 (g.2.1.2 (q.1 - 30)) H (fun j => val g (vt (ftc (fty (q.1 - 30) j)), fv T μ (q.1 - 30) k j)) ∧ (∀ j : Nat, j < q.2 → rng (ftc (fty (q.1 - 30) j)) (fv T μ (q.1 - 30) k j)) ∧ ∃ r : vw_C, cls0[q.1 - 30]? = some r ∧ r.2.2 = q.2
def Rep (g : GW) (T : Wd) (μ : Mem) (H : Heap) : Prop :=
  H.size = g.1 + T.1.length ∧ ∀ (k : Nat) (q : Nat × Nat), T.1[k]? = some q → (q.1 < 30 → cellA g μ k q H) ∧ (30 ≤ q.1 → cellO g T μ k q H)
def AA (g : GW) : Nat → Prop := fun q => g.1 ≤ q
/-- the words -/
def UW : List Cond := lw_tbl.filter goodWord
theorem mUW {w : Cond} (h : w ∈ lw_tbl) (hg : goodWord w = true) : w ∈ UW := List.mem_filter.mpr ⟨h, hg⟩
theorem UW_good : ∀ w ∈ UW, goodWord w = true := fun _ h => (List.mem_filter.mp h).2
theorem UW_tbl : ∀ w ∈ UW, w ∈ lw_tbl := fun _ h => (List.mem_filter.mp h).1
def UWm (md : MD) : List Cond := .code md.1 md.2.1 md.2.2.1 md.2.2.2 :: UW
/-! texts -/
def txO (i : Nat) : String := match i with | 0 => RX7 | 1 => RX7 | _ => RX10
def txK (i : Nat) : Nat := match i with | 0 => 87 | 1 => 79 | 2 => 114 | _ => 152
def txT (i : Nat) : String := match i with
  | 0 => "hill    person  names   at      sure    gaps    pitch   answers if      then    else    end     and     or      not     wind    loud    deaf    voice   who     whom    far     gap     minute  "
  | 1 => ";:+-*()[]=<>"
  | 2 => " hill person loud deaf voice names at sure wind gaps pitch answers if then else end who whom far gap minute and or not "
  | _ => ";:+-*()[]=<>"
def txB (i : Nat) : List Int32 := (txT i).toList.map fun c => nI c.toNat
def txBs : List (List Int32) := [txB 0, txB 1, txB 2, txB 3]
def txLs : List Nat := [(txB 0).length, (txB 1).length, (txB 2).length, (txB 3).length]
/-- words that a call may wear out: told anew at each state -/
def isNest : Cond → Bool
  | .methodLinkNest .. => true
  | .arrayOver (.object _) => true
  | _ => false
def nestW : List Cond := lw_tbl.filter isNest
theorem mNW {w : Cond} (h : w ∈ lw_tbl) (hg : isNest w = true) : w ∈ nestW := List.mem_filter.mpr ⟨h, hg⟩
theorem nest_use {w : Cond} (h : w ∈ nestW) {A : Array Value} {U : State} (hZ : va_Nw w U) : w.before A U = true := by
  have hg := (List.mem_filter.mp h).2
  cases w <;> first | (simp [isNest] at hg; done) | exact hZ | exact va_Nw.use rfl hZ
theorem nest_of {w : Cond} (h : w ∈ nestW) {A : Array Value} {U : State} (hZ : w.before A U = true) : va_Nw w U := by
  have hg := (List.mem_filter.mp h).2
  cases w <;> first | (simp [isNest] at hg; done) | exact hZ | exact va_Nw.of rfl hZ
theorem nest_warm {w : Cond} (h : w ∈ nestW) {s U : State} (hW : s.WarmedH U.vm) (hZ : va_Nw w s) : va_Nw w U := by
  have hg := (List.mem_filter.mp h).2
  cases w with
  | methodLinkNest a i x q => exact va_Nw.warmM hW hZ
  | arrayOver ty =>
    cases ty with
    | object C => exact (show va_AO C U from va_AO.moved hW.alike (show va_AO C s from hZ))
    | _ => simp [isNest] at hg
  | _ => simp [isNest] at hg
theorem nest_same {w : Cond} (h : w ∈ nestW) {u U : State} (hv : U.vm = u.vm) (hZ : va_Nw w u) : va_Nw w U := by
  have hg := (List.mem_filter.mp h).2
  cases w with
  | methodLinkNest a i x q => exact va_Nw.same rfl hv.symm hZ
  | arrayOver ty =>
    cases ty with
    | object C => exact (show va_AO C U from va_AO.moved (by rw [hv]; exact Vm.Alike.refl _) (show va_AO C u from hZ))
    | _ => simp [isNest] at hg
  | _ => simp [isNest] at hg
/-- what is known at a state: classes, array classes, texts, statics, the script -/
def KX (g : GW) (sc : Nat × (Int → Int)) (U : State) (H : Heap) : Prop :=
  (∀ (ci : Nat) (q : vw_C), cls0[ci]? = some q → u_Kn U q.1 q.2.1 q.2.2 (g.2.1.1 ci) (g.2.1.2 ci)) ∧
  (∀ e ∈ ([0, 1, 4, 5, 11, 16, 18] : List Nat), ArrOfT U (g.2.2.1 e) (et e) ∧ va_RA U (g.2.2.1 e) (et e)) ∧
  (∀ i : Nat, i < 4 → vk_S 1 [txLs.getD i 0] [txBs.getD i []] (fun _ => g.2.2.2.1 i) (fun _ => g.2.2.2.2.1 i) (AA g) U H) ∧ (∀ i, i < 4 → vk_R (txO i) (txK i) (txT i) (g.2.2.2.1 i) U) ∧
  va_Z "java/lang/String" "COMPACT_STRINGS" "Z" (.int 1) (AA g) U H ∧
  va_Z "jdk/internal/util/Preconditions" "SIOOBE_FORMATTER" "Ljava/util/function/BiFunction;" (va_rf g.2.2.2.2.2.2) (AA g) U H ∧
  (∃ b : Nat, b = g.2.2.2.2.2.1 ∧ va_X b sc.1 (fun j => Int32.ofInt (sc.2 j)) U H ∧ b < H.size ∧ ¬ AA g b) ∧ (∀ j : Nat, i32 (sc.2 j)) ∧ ∀ w ∈ nestW, va_Nw w U
def CTX (md : MD) (p : Program) (s : State) (m : MethodId) (args : Array Value) (meth : Method) (c : Code) : Prop :=
  p.tables.exec = Jvm.exec ∧ c.code = md.2.1 ∧ meth.sig.returnType = md.2.2.2 ∧ c.maxLocals = md.2.2.1 ∧ s.vm.findClass md.1.cls = some m.cls ∧ (∀ w ∈ UW, w.before args s = true) ∧ meth.locks = false ∧ meth.name = md.1.name
def LV (g : GW) (nL : Nat) (ls : Array Slot) (L : List AV) : Prop :=
  L.length = nL ∧ ls.size = nL ∧ lv_wf ls ∧ ∀ (i : Nat) (v : AV), L[i]? = some v → v.1 < 8 → ls[i]? = some (.val (val g v)) ∧ good v
abbrev ZT : Type := GW → List Frame → Array Value → State → State → Prop
def WP (md : MD) (R : Room) (Z : ZT) (T : Wd) (cc ss : Nat) (pc : Nat) (L st : List AV) (μ : Mem) : Prop :=
  ∀ (g : GW) (p : Program) (l : Launch) (e : Env) (s : State) (m : MethodId) (args : Array Value) (below : List Frame) (meth : Method) (c : Code) (H : Heap) (locs : List Loc) (ls : Array Slot),
    CTX md p s m args meth c → KX g T.2.2 s s.heap → g.1 ≤ s.heap.size → Rep g T μ H → va_S (AA g) s.heap H locs → LV g md.2.2.1 ls L → (∀ v ∈ st, good v) →
    W p l e R s m args below meth c H locs cc ss (Z g below args s) (F0 m pc ls (st.map (val g)))
section WPR
variable {md : MD} {R : Room} {Z : ZT} {T : Wd} {cc ss : Nat} {pc pc' : Nat} {L st st' : List AV} {μ : Mem}
theorem WP_go (k : WP md R Z T cc ss pc' L st' μ)
    (h : ∀ (g : GW) (p : Program) (l : Launch) (e : Env) (s : State) (m : MethodId) (args : Array Value) (below : List Frame) (meth : Method) (c : Code) (H : Heap) (locs : List Loc) (ls : Array Slot) (Q : State → Prop),
      CTX md p s m args meth c → LV g md.2.2.1 ls L → (∀ v ∈ st, good v) → (∀ v ∈ st', good v) ∧ (W p l e R s m args below meth c H locs cc ss Q (F0 m pc' ls (st'.map (val g))) → W p l e R s m args below meth c H locs cc ss Q (F0 m pc ls (st.map (val g))))) : WP md R Z T cc ss pc L st μ := by
  intro g p l e s m args below meth c H locs ls C K hb Rp S V G
  obtain ⟨h1, h2⟩ := h g p l e s m args below meth c H locs ls (Z g below args s) C V G
  exact h2 (k g p l e s m args below meth c H locs ls C K hb Rp S V h1)
theorem g1 {x : AV} {st : List AV} (h : ∀ v ∈ x :: st, good v) : good x := h x List.mem_cons_self
theorem g2 {x : AV} {st : List AV} (h : ∀ v ∈ x :: st, good v) : ∀ v ∈ st, good v := fun v hv => h v (List.mem_cons_of_mem _ hv)
theorem gc {x : AV} {st : List AV} (h1 : good x) (h : ∀ v ∈ st, good v) : ∀ v ∈ x :: st, good v := List.forall_mem_cons.mpr ⟨h1, h⟩
/-! constants -/
theorem WP_iconst {n : Int} (hd : decode md.2.1 pc = .ok (.iconst n, 1)) (hn : i32 n) (k : WP md R Z T cc ss (pc + 1) L ((0, n) :: st) μ) : WP md R Z T cc ss pc L st μ :=
  WP_go k (fun _ _ _ _ _ _ _ _ _ _ _ _ _ _ C _ G => ⟨gc hn G, fun w => lv_iconst C.1 C.2.1 hd rfl w⟩)
theorem WP_bipush {n : Int} (hd : decode md.2.1 pc = .ok (.bipush n, 2)) (hn : (Int8.ofInt n).toInt32 = Int32.ofInt n) (h : i32 n) (k : WP md R Z T cc ss (pc + 2) L ((0, n) :: st) μ) : WP md R Z T cc ss pc L st μ :=
  WP_go k (fun _ _ _ _ _ _ _ _ _ _ _ _ _ _ C _ G => ⟨gc h G, fun w => lv_bipush C.1 C.2.1 hd hn w⟩)
theorem WP_sipush {n : Int} (hd : decode md.2.1 pc = .ok (.sipush n, 3)) (hn : (Int16.ofInt n).toInt32 = Int32.ofInt n) (h : i32 n) (k : WP md R Z T cc ss (pc + 3) L ((0, n) :: st) μ) : WP md R Z T cc ss pc L st μ :=
  WP_go k (fun _ _ _ _ _ _ _ _ _ _ _ _ _ _ C _ G => ⟨gc h G, fun w => lv_sipush C.1 C.2.1 hd hn w⟩)
theorem WP_lconst {n : Fin 2} {x : Int} (hd : decode md.2.1 pc = .ok (.lconst n, 1)) (hx : ((n : Nat) : Int) = x) (k : WP md R Z T cc ss (pc + 1) L ((1, x) :: st) μ) : WP md R Z T cc ss pc L st μ := by
  subst hx
  refine WP_go k (fun _ _ _ _ _ _ _ _ _ _ _ _ _ _ C _ G => ⟨gc (show i64 _ from ⟨by omega, by omega⟩) G, fun w => lv_lconst C.1 C.2.1 hd ?_ w⟩)
  exact (Int64.ofInt_eq_ofNat ..).symm
theorem WP_ldc {index : Nat} {n : Int} (hd : decode md.2.1 pc = .ok (.ldc index, 2)) (hw : Cond.constant md.1.cls index (Int32.ofInt n) ∈ UW) (h : i32 n) (k : WP md R Z T cc ss (pc + 2) L ((0, n) :: st) μ) : WP md R Z T cc ss pc L st μ :=
  WP_go k (fun _ _ _ _ _ _ _ _ _ _ _ _ _ _ C _ G => ⟨gc h G, fun w => lv_ldc C.1 C.2.1 C.2.2.2.2.1 (C.2.2.2.2.2.1 _ hw) hd w⟩)
theorem WP_ldc2 {index : Nat} {n : Int} (hd : decode md.2.1 pc = .ok (.ldc2_w index, 3)) (hw : Cond.constantLong md.1.cls index (Int64.ofInt n) ∈ UW) (h : i64 n) (k : WP md R Z T cc ss (pc + 3) L ((1, n) :: st) μ) : WP md R Z T cc ss pc L st μ :=
  WP_go k (fun _ _ _ _ _ _ _ _ _ _ _ _ _ _ C _ G => ⟨gc h G, fun w => lv_ldc2 C.1 C.2.1 C.2.2.2.2.1 (C.2.2.2.2.2.1 _ hw) hd w⟩)
end WPR

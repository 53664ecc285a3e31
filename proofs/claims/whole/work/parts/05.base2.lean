/-! BASE 2: rows for locals, stack, arithmetic, branches -/
/-- the locals as the kit lists them -/
def toL (g : GW) (L : List AV) : List (Nat × Value) := (List.range L.length).filterMap fun i => (L[i]?).bind fun v => if v.1 < 8 then some (i, val g v) else none
theorem mem_toL {g : GW} {L : List AV} {i : Nat} {w : Value} : (i, w) ∈ toL g L ↔ ∃ v, L[i]? = some v ∧ v.1 < 8 ∧ w = val g v := by
  unfold toL
  rw [List.mem_filterMap]
  constructor
  · rintro ⟨j, hj, h⟩
    cases e : L[j]? with
    | none => simp [e] at h
    | some v =>
      rw [e] at h
      simp only [Option.bind_some] at h
      by_cases h8 : v.1 < 8
      · rw [if_pos h8] at h
        cases h
        exact ⟨v, e, h8, rfl⟩
      · rw [if_neg h8] at h; cases h
  · rintro ⟨v, e, h8, rfl⟩
    refine ⟨i, List.mem_range.mpr (List.getElem?_eq_some_iff.mp e).1, ?_⟩
    rw [e]
    simp [h8]
theorem LV.has {g : GW} {nL : Nat} {ls : Array Slot} {L : List AV} (h : LV g nL ls L) : lv_has ls nL (toL g L) := by
  refine ⟨h.2.1, h.2.2.1, fun q hq => ?_⟩
  obtain ⟨i, w⟩ := q
  obtain ⟨v, e, h8, rfl⟩ := mem_toL.mp hq
  exact (h.2.2.2 i v e h8).1
def lkill (L : List AV) (i : Nat) : List AV := match i with
  | 0 => L
  | j + 1 => match L[j]? with
    | some (1, _) => L.set j (9, 0)
    | _ => L
def lset1 (L : List AV) (i : Nat) (v : AV) : List AV := (lkill L i).set i v
def lset2 (L : List AV) (i : Nat) (v : AV) : List AV := ((lkill L i).set i v).set (i + 1) (9, 0)
theorem lkill_length (L : List AV) (i : Nat) : (lkill L i).length = L.length := by
  cases i with
  | zero => rfl
  | succ j =>
    simp only [lkill]
    split <;> simp
theorem lkill_get {L : List AV} {i j : Nat} {v : AV} (h : (lkill L i)[j]? = some v) (h8 : v.1 < 8) : L[j]? = some v ∧ ¬ (j + 1 = i ∧ v.1 = 1) := by
  cases i with
  | zero => exact ⟨h, fun q => by omega⟩
  | succ n =>
    simp only [lkill] at h
    split at h
    · rename_i x e
      rw [List.getElem?_set] at h
      by_cases hj : n = j
      · subst hj
        have hl := (List.getElem?_eq_some_iff.mp e).1
        simp [hl] at h
        rw [← h] at h8
        exact absurd h8 (by decide)
      · rw [if_neg hj] at h
        exact ⟨h, fun q => hj (by omega)⟩
    · rename_i hx
      refine ⟨h, fun q => ?_⟩
      obtain ⟨q1, q2⟩ := q
      have : j = n := by omega
      subst this
      obtain ⟨t, x⟩ := v
      simp only at q2
      subst q2
      exact hx x h
theorem LV.of1 {g : GW} {nL : Nat} {ls ls' : Array Slot} {L : List AV} {i : Nat} {v : AV} (h : LV g nL ls L) (hv : good v)
    (hh : lv_has ls' nL ((i, val g v) :: (toL g L).filter (fun q => !(q.1 == i) && !(q.1 + 1 == i && q.2.category == 2)))) : LV g nL ls' (lset1 L i v) := by
  refine ⟨by rw [lset1, List.length_set, lkill_length]; exact h.1, hh.1, hh.2.1, fun j w hw h8 => ?_⟩
  rw [lset1, List.getElem?_set] at hw
  by_cases hj : i = j
  · subst hj
    rw [if_pos rfl] at hw
    split at hw
    · cases hw
      exact ⟨hh.2.2 (i, val g v) List.mem_cons_self, hv⟩
    · cases hw
  · rw [if_neg hj] at hw
    obtain ⟨q1, q2⟩ := lkill_get hw h8
    refine ⟨hh.2.2 (j, val g w) (List.mem_cons_of_mem _ (List.mem_filter.mpr ⟨mem_toL.mpr ⟨w, q1, h8, rfl⟩, ?_⟩)), (h.2.2.2 j w q1 h8).2⟩
    simp only [val_cat]
    by_cases hc : j + 1 = i
    · have : ¬ w.1 = 1 := fun z => q2 ⟨hc, z⟩
      simp [Ne.symm hj, this]
    · simp [Ne.symm hj, hc]
theorem LV.of2 {g : GW} {nL : Nat} {ls ls' : Array Slot} {L : List AV} {i : Nat} {v : AV} (h : LV g nL ls L) (hv : good v)
    (hh : lv_has ls' nL ((i, val g v) :: (toL g L).filter (fun q => !(q.1 == i) && (!(q.1 == i + 1) && !(q.1 + 1 == i && q.2.category == 2))))) : LV g nL ls' (lset2 L i v) := by
  refine ⟨by rw [lset2, List.length_set, List.length_set, lkill_length]; exact h.1, hh.1, hh.2.1, fun j w hw h8 => ?_⟩
  rw [lset2, List.getElem?_set] at hw
  by_cases hj1 : i + 1 = j
  · subst hj1
    rw [if_pos rfl] at hw
    split at hw
    · cases hw
      exact absurd h8 (by decide)
    · cases hw
  · rw [if_neg hj1, List.getElem?_set] at hw
    by_cases hj : i = j
    · subst hj
      rw [if_pos rfl] at hw
      split at hw
      · cases hw
        exact ⟨hh.2.2 (i, val g v) List.mem_cons_self, hv⟩
      · cases hw
    · rw [if_neg hj] at hw
      obtain ⟨q1, q2⟩ := lkill_get hw h8
      refine ⟨hh.2.2 (j, val g w) (List.mem_cons_of_mem _ (List.mem_filter.mpr ⟨mem_toL.mpr ⟨w, q1, h8, rfl⟩, ?_⟩)), (h.2.2.2 j w q1 h8).2⟩
      simp only [val_cat]
      by_cases hc : j + 1 = i
      · have : ¬ w.1 = 1 := fun z => q2 ⟨hc, z⟩
        simp [Ne.symm hj, this, show ¬ j = i + 1 from fun z => hj1 z.symm]
      · simp [Ne.symm hj, hc, show ¬ j = i + 1 from fun z => hj1 z.symm]
section WPR2
variable {md : MD} {R : Room} {Z : ZT} {T : Wd} {cc ss : Nat} {pc pc' : Nat} {L L' st st' : List AV} {μ : Mem}
/-! loads -/
theorem WP_iload {i : Nat} {x : Int} (hd : decode md.2.1 pc = .ok (.iload i, 2)) (hl : L[i]? = some (0, x)) (k : WP md R Z T cc ss (pc + 2) L ((0, x) :: st) μ) : WP md R Z T cc ss pc L st μ :=
  WP_go k (fun _ _ _ _ _ _ _ _ _ _ _ _ _ _ C V G => ⟨gc (V.2.2.2 _ _ hl (Nat.le_of_ble_eq_true rfl)).2 G, fun w => lv_iload C.1 C.2.1 hd (V.2.2.2 _ _ hl (Nat.le_of_ble_eq_true rfl)).1 w⟩)
theorem WP_iload_n {n : Fin 4} {i : Nat} {x : Int} (hd : decode md.2.1 pc = .ok (.iload_n n, 1)) (hi : (n : Nat) = i) (hl : L[i]? = some (0, x)) (k : WP md R Z T cc ss (pc + 1) L ((0, x) :: st) μ) : WP md R Z T cc ss pc L st μ :=
  WP_go k (fun _ _ _ _ _ _ _ _ _ _ _ _ _ _ C V G => ⟨gc (V.2.2.2 _ _ hl (Nat.le_of_ble_eq_true rfl)).2 G, fun w => lv_iload_n C.1 C.2.1 hd hi (V.2.2.2 _ _ hl (Nat.le_of_ble_eq_true rfl)).1 w⟩)
theorem WP_lload {i : Nat} {x : Int} (hd : decode md.2.1 pc = .ok (.lload i, 2)) (hl : L[i]? = some (1, x)) (k : WP md R Z T cc ss (pc + 2) L ((1, x) :: st) μ) : WP md R Z T cc ss pc L st μ :=
  WP_go k (fun _ _ _ _ _ _ _ _ _ _ _ _ _ _ C V G => ⟨gc (V.2.2.2 _ _ hl (Nat.le_of_ble_eq_true rfl)).2 G, fun w => lv_lload C.1 C.2.1 hd (V.2.2.2 _ _ hl (Nat.le_of_ble_eq_true rfl)).1 w⟩)
theorem WP_lload_n {n : Fin 4} {i : Nat} {x : Int} (hd : decode md.2.1 pc = .ok (.lload_n n, 1)) (hi : (n : Nat) = i) (hl : L[i]? = some (1, x)) (k : WP md R Z T cc ss (pc + 1) L ((1, x) :: st) μ) : WP md R Z T cc ss pc L st μ :=
  WP_go k (fun _ _ _ _ _ _ _ _ _ _ _ _ _ _ C V G => ⟨gc (V.2.2.2 _ _ hl (Nat.le_of_ble_eq_true rfl)).2 G, fun w => lv_lload_n C.1 C.2.1 hd hi (V.2.2.2 _ _ hl (Nat.le_of_ble_eq_true rfl)).1 w⟩)
/-- a value that is a reference or null -/
theorem val_ref (g : GW) (v : AV) (h0 : v.1 ≠ 0) (h1 : v.1 ≠ 1) : val g v = .null ∨ ∃ a, val g v = .ref a := by
  obtain ⟨k, x⟩ := v
  match k, h0, h1 with
  | 0, h0, _ => exact absurd rfl h0
  | 1, _, h1 => exact absurd rfl h1
  | 2, _, _ =>
    by_cases h : x < 0
    · exact Or.inl (by simp [val, h])
    · exact Or.inr ⟨g.1 + x.toNat, by simp [val, h]⟩
  | 3, _, _ => exact Or.inr ⟨_, rfl⟩
  | 4, _, _ => exact Or.inr ⟨_, rfl⟩
  | 5, _, _ => exact Or.inr ⟨_, rfl⟩
  | k + 6, _, _ =>
    show va_rf g.2.2.2.2.2.2 = .null ∨ ∃ a, va_rf g.2.2.2.2.2.2 = .ref a
    cases g.2.2.2.2.2.2 with
    | none => exact Or.inl rfl
    | some a => exact Or.inr ⟨a, rfl⟩
theorem WP_aload_n {n : Fin 4} {i : Nat} {v : AV} (hd : decode md.2.1 pc = .ok (.aload_n n, 1)) (hi : (n : Nat) = i) (hl : L[i]? = some v) (hv : 2 ≤ v.1 ∧ v.1 < 8) (k : WP md R Z T cc ss (pc + 1) L (v :: st) μ) : WP md R Z T cc ss pc L st μ :=
  WP_go k (fun g _ _ _ _ _ _ _ _ _ _ _ _ _ C V G => ⟨gc (V.2.2.2 _ _ hl hv.2).2 G, fun w => by
    have h := (V.2.2.2 _ _ hl hv.2).1
    rw [List.map_cons] at w
    rcases val_ref g v (by omega) (by omega) with e | ⟨a, e⟩
    · rw [e] at h w; exact lv_aload_nN C.1 C.2.1 hd hi h w
    · rw [e] at h w; exact lv_aload_n C.1 C.2.1 hd hi h w⟩)
theorem WP_aload {i : Nat} {v : AV} (hd : decode md.2.1 pc = .ok (.aload i, 2)) (hl : L[i]? = some v) (hv : 2 ≤ v.1 ∧ v.1 < 8) (k : WP md R Z T cc ss (pc + 2) L (v :: st) μ) : WP md R Z T cc ss pc L st μ :=
  WP_go k (fun g _ _ _ _ _ _ _ _ _ _ _ _ _ C V G => ⟨gc (V.2.2.2 _ _ hl hv.2).2 G, fun w => by
    have h := (V.2.2.2 _ _ hl hv.2).1
    rw [List.map_cons] at w
    rcases val_ref g v (by omega) (by omega) with e | ⟨a, e⟩
    · rw [e] at h w; exact lv_aloadN C.1 C.2.1 hd h w
    · rw [e] at h w; exact lv_aload C.1 C.2.1 hd h w⟩)
/-! stores -/
theorem WP_istore {i : Nat} {x : Int} (hd : decode md.2.1 pc = .ok (.istore i, 2)) (hb : i < md.2.2.1) (hL : lset1 L i (0, x) = L') (k : WP md R Z T cc ss (pc + 2) L' st μ) : WP md R Z T cc ss pc L ((0, x) :: st) μ := by
  intro g p l e s m args below meth c H locs ls C K h0 Rp S V G
  refine lv_istore C.1 C.2.1 hd V.has hb rfl (fun ls' hh => ?_)
  exact k g p l e s m args below meth c H locs ls' C K h0 Rp S (hL ▸ V.of1 (v := (0, x)) (g1 G) hh) (g2 G)
theorem WP_istore_n {n : Fin 4} {i : Nat} {x : Int} (hd : decode md.2.1 pc = .ok (.istore_n n, 1)) (hi : (n : Nat) = i) (hb : i < md.2.2.1) (hL : lset1 L i (0, x) = L') (k : WP md R Z T cc ss (pc + 1) L' st μ) : WP md R Z T cc ss pc L ((0, x) :: st) μ := by
  intro g p l e s m args below meth c H locs ls C K h0 Rp S V G
  refine lv_istore_n C.1 C.2.1 hd hi V.has hb rfl (fun ls' hh => ?_)
  exact k g p l e s m args below meth c H locs ls' C K h0 Rp S (hL ▸ V.of1 (v := (0, x)) (g1 G) hh) (g2 G)
theorem WP_lstore {i : Nat} {x : Int} (hd : decode md.2.1 pc = .ok (.lstore i, 2)) (hb : i + 1 < md.2.2.1) (hL : lset2 L i (1, x) = L') (k : WP md R Z T cc ss (pc + 2) L' st μ) : WP md R Z T cc ss pc L ((1, x) :: st) μ := by
  intro g p l e s m args below meth c H locs ls C K h0 Rp S V G
  refine lv_lstore C.1 C.2.1 hd V.has hb rfl (fun ls' hh => ?_)
  exact k g p l e s m args below meth c H locs ls' C K h0 Rp S (hL ▸ V.of2 (v := (1, x)) (g1 G) hh) (g2 G)
theorem WP_lstore_n {n : Fin 4} {i : Nat} {x : Int} (hd : decode md.2.1 pc = .ok (.lstore_n n, 1)) (hi : (n : Nat) = i) (hb : i + 1 < md.2.2.1) (hL : lset2 L i (1, x) = L') (k : WP md R Z T cc ss (pc + 1) L' st μ) : WP md R Z T cc ss pc L ((1, x) :: st) μ := by
  intro g p l e s m args below meth c H locs ls C K h0 Rp S V G
  refine lv_lstore_n C.1 C.2.1 hd hi V.has hb rfl (fun ls' hh => ?_)
  exact k g p l e s m args below meth c H locs ls' C K h0 Rp S (hL ▸ V.of2 (v := (1, x)) (g1 G) hh) (g2 G)
theorem WP_astore {i : Nat} {v : AV} (hd : decode md.2.1 pc = .ok (.astore i, 2)) (hb : i < md.2.2.1) (hv : 2 ≤ v.1) (hL : lset1 L i v = L') (k : WP md R Z T cc ss (pc + 2) L' st μ) : WP md R Z T cc ss pc L (v :: st) μ := by
  intro g p l e s m args below meth c H locs ls C K h0 Rp S V G
  have kk : ∀ ls' : Array Slot, lv_has ls' md.2.2.1 ((i, val g v) :: (toL g L).filter (fun q => !(q.1 == i) && !(q.1 + 1 == i && q.2.category == 2))) → W p l e R s m args below meth c H locs cc ss (Z g below args s) (F0 m (pc + 2) ls' (st.map (val g))) := fun ls' hh =>
    k g p l e s m args below meth c H locs ls' C K h0 Rp S (hL ▸ V.of1 (v := v) (g1 G) hh) (g2 G)
  rw [List.map_cons]
  rcases val_ref g v (by omega) (by omega) with e1 | ⟨a, e1⟩
  · rw [e1] at kk ⊢; exact lv_astoreN C.1 C.2.1 hd V.has hb rfl kk
  · rw [e1] at kk ⊢; exact lv_astore C.1 C.2.1 hd V.has hb rfl kk
theorem WP_astore_n {n : Fin 4} {i : Nat} {v : AV} (hd : decode md.2.1 pc = .ok (.astore_n n, 1)) (hi : (n : Nat) = i) (hb : i < md.2.2.1) (hv : 2 ≤ v.1) (hL : lset1 L i v = L') (k : WP md R Z T cc ss (pc + 1) L' st μ) : WP md R Z T cc ss pc L (v :: st) μ := by
  intro g p l e s m args below meth c H locs ls C K h0 Rp S V G
  have kk : ∀ ls' : Array Slot, lv_has ls' md.2.2.1 ((i, val g v) :: (toL g L).filter (fun q => !(q.1 == i) && !(q.1 + 1 == i && q.2.category == 2))) → W p l e R s m args below meth c H locs cc ss (Z g below args s) (F0 m (pc + 1) ls' (st.map (val g))) := fun ls' hh =>
    k g p l e s m args below meth c H locs ls' C K h0 Rp S (hL ▸ V.of1 (v := v) (g1 G) hh) (g2 G)
  rw [List.map_cons]
  rcases val_ref g v (by omega) (by omega) with e1 | ⟨a, e1⟩
  · rw [e1] at kk ⊢; exact lv_astore_nN C.1 C.2.1 hd hi V.has hb rfl kk
  · rw [e1] at kk ⊢; exact lv_astore_n C.1 C.2.1 hd hi V.has hb rfl kk
theorem WP_iinc {i : Nat} {n x : Int} (hd : decode md.2.1 pc = .ok (.iinc i n, 3)) (hl : L[i]? = some (0, x)) (hb : i < md.2.2.1) (hr : i32 (x + n)) (hL : lset1 L i (0, x + n) = L') (k : WP md R Z T cc ss (pc + 3) L' st μ) : WP md R Z T cc ss pc L st μ := by
  intro g p l e s m args below meth c H locs ls C K h0 Rp S V G
  have hm : (i, val g (0, x)) ∈ toL g L := mem_toL.mpr ⟨_, hl, Nat.le_of_ble_eq_true rfl, rfl⟩
  obtain ⟨j, hj⟩ := List.getElem?_of_mem hm
  refine lv_iinc (x := Int32.ofInt x) (v := Int32.ofInt (x + n)) C.1 C.2.1 hd V.has (k := j) hj (Int32.ofInt_add ..).symm hb rfl (fun ls' hh => ?_)
  exact k g p l e s m args below meth c H locs ls' C K h0 Rp S (hL ▸ V.of1 (v := (0, x + n)) hr hh) G
/-- fewer locals known -/
theorem WP_lforget (hL : L'.length = L.length) (hs : ∀ i : Nat, i < L.length → L'[i]? = L[i]? ∨ L'[i]? = some (9, 0)) (k : WP md R Z T cc ss pc L' st μ) : WP md R Z T cc ss pc L st μ := by
  intro g p l e s m args below meth c H locs ls C K h0 Rp S V G
  refine k g p l e s m args below meth c H locs ls C K h0 Rp S ⟨hL.trans V.1, V.2.1, V.2.2.1, fun i v hv h8 => ?_⟩ G
  have hi : i < L.length := hL ▸ (List.getElem?_eq_some_iff.mp hv).1
  rcases hs i hi with e1 | e1
  · exact V.2.2.2 i v (e1 ▸ hv) h8
  · rw [e1] at hv; cases hv; exact absurd h8 (by decide)
theorem WP_iadd {x y : Int} (hd : decode md.2.1 pc = .ok (.iadd, 1)) (hr : i32 (x + y)) (k : WP md R Z T cc ss (pc + 1) L ((0, x + y) :: st) μ) : WP md R Z T cc ss pc L ((0, y) :: (0, x) :: st) μ := by
  refine WP_go k (fun g _ _ _ _ _ _ _ _ _ _ _ _ _ C V G => ⟨?_, fun w => ?_⟩)
  · exact gc hr (g2 (g2 G))
  · refine lv_iadd C.1 C.2.1 hd ?_
    rw [show Int32.ofInt x + Int32.ofInt y = Int32.ofInt (x + y) from (Int32.ofInt_add ..).symm]
    exact w
theorem WP_isub {x y : Int} (hd : decode md.2.1 pc = .ok (.isub, 1)) (hr : i32 (x - y)) (k : WP md R Z T cc ss (pc + 1) L ((0, x - y) :: st) μ) : WP md R Z T cc ss pc L ((0, y) :: (0, x) :: st) μ := by
  refine WP_go k (fun g _ _ _ _ _ _ _ _ _ _ _ _ _ C V G => ⟨?_, fun w => ?_⟩)
  · exact gc hr (g2 (g2 G))
  · refine lv_isub C.1 C.2.1 hd ?_
    rw [show Int32.ofInt x - Int32.ofInt y = Int32.ofInt (x - y) from (Int32.ofInt_sub ..).symm]
    exact w
theorem WP_imul {x y : Int} (hd : decode md.2.1 pc = .ok (.imul, 1)) (hr : i32 (x * y)) (k : WP md R Z T cc ss (pc + 1) L ((0, x * y) :: st) μ) : WP md R Z T cc ss pc L ((0, y) :: (0, x) :: st) μ := by
  refine WP_go k (fun g _ _ _ _ _ _ _ _ _ _ _ _ _ C V G => ⟨?_, fun w => ?_⟩)
  · exact gc hr (g2 (g2 G))
  · refine lv_imul C.1 C.2.1 hd ?_
    rw [show Int32.ofInt x * Int32.ofInt y = Int32.ofInt (x * y) from (Int32.ofInt_mul ..).symm]
    exact w
theorem WP_ladd {x y : Int} (hd : decode md.2.1 pc = .ok (.ladd, 1)) (hr : i64 (x + y)) (k : WP md R Z T cc ss (pc + 1) L ((1, x + y) :: st) μ) : WP md R Z T cc ss pc L ((1, y) :: (1, x) :: st) μ := by
  refine WP_go k (fun g _ _ _ _ _ _ _ _ _ _ _ _ _ C V G => ⟨?_, fun w => ?_⟩)
  · exact gc hr (g2 (g2 G))
  · refine lv_ladd C.1 C.2.1 hd ?_
    rw [show Int64.ofInt x + Int64.ofInt y = Int64.ofInt (x + y) from (Int64.ofInt_add ..).symm]
    exact w
theorem WP_lsub {x y : Int} (hd : decode md.2.1 pc = .ok (.lsub, 1)) (hr : i64 (x - y)) (k : WP md R Z T cc ss (pc + 1) L ((1, x - y) :: st) μ) : WP md R Z T cc ss pc L ((1, y) :: (1, x) :: st) μ := by
  refine WP_go k (fun g _ _ _ _ _ _ _ _ _ _ _ _ _ C V G => ⟨?_, fun w => ?_⟩)
  · exact gc hr (g2 (g2 G))
  · refine lv_lsub C.1 C.2.1 hd ?_
    rw [show Int64.ofInt x - Int64.ofInt y = Int64.ofInt (x - y) from (Int64.ofInt_sub ..).symm]
    exact w
theorem WP_lmul {x y : Int} (hd : decode md.2.1 pc = .ok (.lmul, 1)) (hr : i64 (x * y)) (k : WP md R Z T cc ss (pc + 1) L ((1, x * y) :: st) μ) : WP md R Z T cc ss pc L ((1, y) :: (1, x) :: st) μ := by
  refine WP_go k (fun g _ _ _ _ _ _ _ _ _ _ _ _ _ C V G => ⟨?_, fun w => ?_⟩)
  · exact gc hr (g2 (g2 G))
  · refine lv_lmul C.1 C.2.1 hd ?_
    rw [show Int64.ofInt x * Int64.ofInt y = Int64.ofInt (x * y) from (Int64.ofInt_mul ..).symm]
    exact w
theorem WP_iaddW {x y : Int} (hd : decode md.2.1 pc = .ok (.iadd, 1)) (k : WP md R Z T cc ss (pc + 1) L ((0, w32 (x + y)) :: st) μ) : WP md R Z T cc ss pc L ((0, y) :: (0, x) :: st) μ := by
  refine WP_go k (fun g _ _ _ _ _ _ _ _ _ _ _ _ _ C V G => ⟨?_, fun w => ?_⟩)
  · exact gc (i32_of _) (g2 (g2 G))
  · refine lv_iadd C.1 C.2.1 hd ?_
    have h2 : val g (0, w32 (x + y)) = .int (Int32.ofInt x + Int32.ofInt y) := by
      show Value.int (Int32.ofInt (Int32.ofInt (x + y)).toInt) = _
      rw [oi32, Int32.ofInt_add]
    rw [List.map_cons, h2] at w
    exact w
theorem WP_imulW {x y : Int} (hd : decode md.2.1 pc = .ok (.imul, 1)) (k : WP md R Z T cc ss (pc + 1) L ((0, w32 (x * y)) :: st) μ) : WP md R Z T cc ss pc L ((0, y) :: (0, x) :: st) μ := by
  refine WP_go k (fun g _ _ _ _ _ _ _ _ _ _ _ _ _ C V G => ⟨?_, fun w => ?_⟩)
  · exact gc (i32_of _) (g2 (g2 G))
  · refine lv_imul C.1 C.2.1 hd ?_
    have h2 : val g (0, w32 (x * y)) = .int (Int32.ofInt x * Int32.ofInt y) := by
      show Value.int (Int32.ofInt (Int32.ofInt (x * y)).toInt) = _
      rw [oi32, Int32.ofInt_mul]
    rw [List.map_cons, h2] at w
    exact w
theorem WP_idiv {x y : Int} (hd : decode md.2.1 pc = .ok (.idiv, 1)) (hr : 0 ≤ x ∧ 0 < y) (k : WP md R Z T cc ss (pc + 1) L ((0, x / y) :: st) μ) : WP md R Z T cc ss pc L ((0, y) :: (0, x) :: st) μ := by
  refine WP_go k (fun g _ _ _ _ _ _ _ _ _ _ _ _ _ C V G => ⟨?_, fun w => ?_⟩)
  · have hx : i32 x := g1 (g2 G)
    exact gc (show i32 _ from ⟨by have := Int.ediv_nonneg hr.1 (Int.le_of_lt hr.2); omega, by have := Int.ediv_le_self y hr.1; omega⟩) (g2 (g2 G))
  · have hx : i32 x := g1 (g2 G)
    have hy : i32 y := g1 G
    refine lv_idiv C.1 C.2.1 hd (fun h => ?_) ?_
    · have := (eq32 (y := 0) hy (by decide)).mp h
      omega
    · rw [idiv32 hx hy hr.1 hr.2]; exact w
theorem WP_irem {x y : Int} (hd : decode md.2.1 pc = .ok (.irem, 1)) (hr : 0 ≤ x ∧ 0 < y) (k : WP md R Z T cc ss (pc + 1) L ((0, x % y) :: st) μ) : WP md R Z T cc ss pc L ((0, y) :: (0, x) :: st) μ := by
  have em : x % y = x - x / y * y := by have := Int.emod_add_mul_ediv x y; rw [Int.mul_comm] at this; omega
  refine WP_go k (fun g _ _ _ _ _ _ _ _ _ _ _ _ _ C V G => ⟨?_, fun w => ?_⟩)
  · have hx : i32 x := g1 (g2 G)
    have hy : i32 y := g1 G
    exact gc (show i32 _ from ⟨by have := Int.emod_nonneg x (show y ≠ 0 by omega); omega, by have := Int.emod_lt_of_pos x hr.2; omega⟩) (g2 (g2 G))
  · have hx : i32 x := g1 (g2 G)
    have hy : i32 y := g1 G
    refine lv_irem C.1 C.2.1 hd (fun h => ?_) ?_
    · have := (eq32 (y := 0) hy (by decide)).mp h
      omega
    · rw [idiv32 hx hy hr.1 hr.2, show Int32.ofInt x - Int32.ofInt (x / y) * Int32.ofInt y = Int32.ofInt (x % y) by rw [em, Int32.ofInt_sub, Int32.ofInt_mul]]; exact w
theorem WP_ldiv {x y : Int} (hd : decode md.2.1 pc = .ok (.ldiv, 1)) (hr : 0 ≤ x ∧ 0 < y) (k : WP md R Z T cc ss (pc + 1) L ((1, x / y) :: st) μ) : WP md R Z T cc ss pc L ((1, y) :: (1, x) :: st) μ := by
  refine WP_go k (fun g _ _ _ _ _ _ _ _ _ _ _ _ _ C V G => ⟨?_, fun w => ?_⟩)
  · have hx : i64 x := g1 (g2 G)
    exact gc (show i64 _ from ⟨by have := Int.ediv_nonneg hr.1 (Int.le_of_lt hr.2); omega, by have := Int.ediv_le_self y hr.1; omega⟩) (g2 (g2 G))
  · have hx : i64 x := g1 (g2 G)
    have hy : i64 y := g1 G
    refine lv_ldiv C.1 C.2.1 hd (fun h => ?_) ?_
    · have := (eq64 (y := 0) hy (by decide)).mp h
      omega
    · rw [ldiv64 hx hy hr.1 hr.2]; exact w
theorem WP_lrem {x y : Int} (hd : decode md.2.1 pc = .ok (.lrem, 1)) (hr : 0 ≤ x ∧ 0 < y) (k : WP md R Z T cc ss (pc + 1) L ((1, x % y) :: st) μ) : WP md R Z T cc ss pc L ((1, y) :: (1, x) :: st) μ := by
  have em : x % y = x - x / y * y := by have := Int.emod_add_mul_ediv x y; rw [Int.mul_comm] at this; omega
  refine WP_go k (fun g _ _ _ _ _ _ _ _ _ _ _ _ _ C V G => ⟨?_, fun w => ?_⟩)
  · have hx : i64 x := g1 (g2 G)
    have hy : i64 y := g1 G
    exact gc (show i64 _ from ⟨by have := Int.emod_nonneg x (show y ≠ 0 by omega); omega, by have := Int.emod_lt_of_pos x hr.2; omega⟩) (g2 (g2 G))
  · have hx : i64 x := g1 (g2 G)
    have hy : i64 y := g1 G
    refine lv_lrem C.1 C.2.1 hd (fun h => ?_) ?_
    · have := (eq64 (y := 0) hy (by decide)).mp h
      omega
    · rw [ldiv64 hx hy hr.1 hr.2, show Int64.ofInt x - Int64.ofInt (x / y) * Int64.ofInt y = Int64.ofInt (x % y) by rw [em, Int64.ofInt_sub, Int64.ofInt_mul]]; exact w
theorem WP_ineg {x : Int} (hd : decode md.2.1 pc = .ok (.ineg, 1)) (hr : i32 (-x)) (k : WP md R Z T cc ss (pc + 1) L ((0, -x) :: st) μ) : WP md R Z T cc ss pc L ((0, x) :: st) μ := by
  refine WP_go k (fun g _ _ _ _ _ _ _ _ _ _ _ _ _ C V G => ⟨gc hr (g2 G), fun w => ?_⟩)
  refine lv_ineg C.1 C.2.1 hd ?_
  rw [show -Int32.ofInt x = Int32.ofInt (-x) from (Int32.ofInt_neg ..).symm]
  exact w
theorem WP_iand {x y : Int} (hd : decode md.2.1 pc = .ok (.iand, 1)) (k : WP md R Z T cc ss (pc + 1) L ((0, iAnd x y) :: st) μ) : WP md R Z T cc ss pc L ((0, y) :: (0, x) :: st) μ := by
  refine WP_go k (fun g _ _ _ _ _ _ _ _ _ _ _ _ _ C V G => ⟨gc (i32_of _) (g2 (g2 G)), fun w => ?_⟩)
  rw [List.map_cons, show val g (0, iAnd x y) = Value.int (Int32.ofInt (iAnd x y)) from rfl, iAnd, oi32] at w
  exact lv_iand C.1 C.2.1 hd w
theorem WP_ior {x y : Int} (hd : decode md.2.1 pc = .ok (.ior, 1)) (k : WP md R Z T cc ss (pc + 1) L ((0, iOr x y) :: st) μ) : WP md R Z T cc ss pc L ((0, y) :: (0, x) :: st) μ := by
  refine WP_go k (fun g _ _ _ _ _ _ _ _ _ _ _ _ _ C V G => ⟨gc (i32_of _) (g2 (g2 G)), fun w => ?_⟩)
  rw [List.map_cons, show val g (0, iOr x y) = Value.int (Int32.ofInt (iOr x y)) from rfl, iOr, oi32] at w
  exact lv_ior C.1 C.2.1 hd w
theorem WP_ixor {x y : Int} (hd : decode md.2.1 pc = .ok (.ixor, 1)) (k : WP md R Z T cc ss (pc + 1) L ((0, iXor x y) :: st) μ) : WP md R Z T cc ss pc L ((0, y) :: (0, x) :: st) μ := by
  refine WP_go k (fun g _ _ _ _ _ _ _ _ _ _ _ _ _ C V G => ⟨gc (i32_of _) (g2 (g2 G)), fun w => ?_⟩)
  rw [List.map_cons, show val g (0, iXor x y) = Value.int (Int32.ofInt (iXor x y)) from rfl, iXor, oi32] at w
  exact lv_ixor C.1 C.2.1 hd w
theorem WP_ishl {x y : Int} (hd : decode md.2.1 pc = .ok (.ishl, 1)) (k : WP md R Z T cc ss (pc + 1) L ((0, iShl x y) :: st) μ) : WP md R Z T cc ss pc L ((0, y) :: (0, x) :: st) μ := by
  refine WP_go k (fun g _ _ _ _ _ _ _ _ _ _ _ _ _ C V G => ⟨gc (i32_of _) (g2 (g2 G)), fun w => ?_⟩)
  rw [List.map_cons, show val g (0, iShl x y) = Value.int (Int32.ofInt (iShl x y)) from rfl, iShl, oi32] at w
  exact lv_ishl C.1 C.2.1 hd w
theorem WP_ishr {x y : Int} (hd : decode md.2.1 pc = .ok (.ishr, 1)) (k : WP md R Z T cc ss (pc + 1) L ((0, iShr x y) :: st) μ) : WP md R Z T cc ss pc L ((0, y) :: (0, x) :: st) μ := by
  refine WP_go k (fun g _ _ _ _ _ _ _ _ _ _ _ _ _ C V G => ⟨gc (i32_of _) (g2 (g2 G)), fun w => ?_⟩)
  rw [List.map_cons, show val g (0, iShr x y) = Value.int (Int32.ofInt (iShr x y)) from rfl, iShr, oi32] at w
  exact lv_ishr C.1 C.2.1 hd w
theorem WP_iushr {x y : Int} (hd : decode md.2.1 pc = .ok (.iushr, 1)) (k : WP md R Z T cc ss (pc + 1) L ((0, iUshr x y) :: st) μ) : WP md R Z T cc ss pc L ((0, y) :: (0, x) :: st) μ := by
  refine WP_go k (fun g _ _ _ _ _ _ _ _ _ _ _ _ _ C V G => ⟨gc (i32_of _) (g2 (g2 G)), fun w => ?_⟩)
  rw [List.map_cons, show val g (0, iUshr x y) = Value.int (Int32.ofInt (iUshr x y)) from rfl, iUshr, oi32] at w
  exact lv_iushr C.1 C.2.1 hd rfl w
theorem WP_land {x y : Int} (hd : decode md.2.1 pc = .ok (.land, 1)) (k : WP md R Z T cc ss (pc + 1) L ((1, lAnd x y) :: st) μ) : WP md R Z T cc ss pc L ((1, y) :: (1, x) :: st) μ := by
  refine WP_go k (fun g _ _ _ _ _ _ _ _ _ _ _ _ _ C V G => ⟨gc (i64_of _) (g2 (g2 G)), fun w => ?_⟩)
  rw [List.map_cons, show val g (1, lAnd x y) = Value.long (Int64.ofInt (lAnd x y)) from rfl, lAnd, oi64] at w
  exact lv_land C.1 C.2.1 hd w
theorem WP_lor {x y : Int} (hd : decode md.2.1 pc = .ok (.lor, 1)) (k : WP md R Z T cc ss (pc + 1) L ((1, lOr x y) :: st) μ) : WP md R Z T cc ss pc L ((1, y) :: (1, x) :: st) μ := by
  refine WP_go k (fun g _ _ _ _ _ _ _ _ _ _ _ _ _ C V G => ⟨gc (i64_of _) (g2 (g2 G)), fun w => ?_⟩)
  rw [List.map_cons, show val g (1, lOr x y) = Value.long (Int64.ofInt (lOr x y)) from rfl, lOr, oi64] at w
  exact lv_lor C.1 C.2.1 hd w
theorem WP_lshl {x y : Int} (hd : decode md.2.1 pc = .ok (.lshl, 1)) (k : WP md R Z T cc ss (pc + 1) L ((1, lShl x y) :: st) μ) : WP md R Z T cc ss pc L ((0, y) :: (1, x) :: st) μ := by
  refine WP_go k (fun g _ _ _ _ _ _ _ _ _ _ _ _ _ C V G => ⟨gc (i64_of _) (g2 (g2 G)), fun w => ?_⟩)
  rw [List.map_cons, show val g (1, lShl x y) = Value.long (Int64.ofInt (lShl x y)) from rfl, lShl, oi64] at w
  exact lv_lshl C.1 C.2.1 hd rfl w
theorem WP_lshr {x y : Int} (hd : decode md.2.1 pc = .ok (.lshr, 1)) (k : WP md R Z T cc ss (pc + 1) L ((1, lShr x y) :: st) μ) : WP md R Z T cc ss pc L ((0, y) :: (1, x) :: st) μ := by
  refine WP_go k (fun g _ _ _ _ _ _ _ _ _ _ _ _ _ C V G => ⟨gc (i64_of _) (g2 (g2 G)), fun w => ?_⟩)
  rw [List.map_cons, show val g (1, lShr x y) = Value.long (Int64.ofInt (lShr x y)) from rfl, lShr, oi64] at w
  exact lv_lshr C.1 C.2.1 hd rfl w
theorem WP_i2b {x : Int} (hd : decode md.2.1 pc = .ok (.i2b, 1)) (k : WP md R Z T cc ss (pc + 1) L ((0, toB x) :: st) μ) : WP md R Z T cc ss pc L ((0, x) :: st) μ := by
  refine WP_go k (fun g _ _ _ _ _ _ _ _ _ _ _ _ _ C V G => ⟨gc (i32_of _) (g2 G), fun w => ?_⟩)
  rw [List.map_cons, show val g (0, toB x) = Value.int (Int32.ofInt (toB x)) from rfl, toB, oi32] at w
  exact lv_i2b C.1 C.2.1 hd rfl w
theorem WP_i2s {x : Int} (hd : decode md.2.1 pc = .ok (.i2s, 1)) (k : WP md R Z T cc ss (pc + 1) L ((0, toS x) :: st) μ) : WP md R Z T cc ss pc L ((0, x) :: st) μ := by
  refine WP_go k (fun g _ _ _ _ _ _ _ _ _ _ _ _ _ C V G => ⟨gc (i32_of _) (g2 G), fun w => ?_⟩)
  rw [List.map_cons, show val g (0, toS x) = Value.int (Int32.ofInt (toS x)) from rfl, toS, oi32] at w
  exact lv_i2s C.1 C.2.1 hd rfl w
theorem WP_i2c {x : Int} (hd : decode md.2.1 pc = .ok (.i2c, 1)) (k : WP md R Z T cc ss (pc + 1) L ((0, toC x) :: st) μ) : WP md R Z T cc ss pc L ((0, x) :: st) μ := by
  refine WP_go k (fun g _ _ _ _ _ _ _ _ _ _ _ _ _ C V G => ⟨gc (i32_of _) (g2 G), fun w => ?_⟩)
  rw [List.map_cons, show val g (0, toC x) = Value.int (Int32.ofInt (toC x)) from rfl, toC, oi32] at w
  exact lv_i2c C.1 C.2.1 hd rfl w
theorem WP_i2l {x : Int} (hd : decode md.2.1 pc = .ok (.i2l, 1)) (k : WP md R Z T cc ss (pc + 1) L ((1, x) :: st) μ) : WP md R Z T cc ss pc L ((0, x) :: st) μ := by
  refine WP_go k (fun g _ _ _ _ _ _ _ _ _ _ _ _ _ C V G => ⟨?_, fun w => ?_⟩)
  · have hx : i32 x := g1 G
    exact gc (show i64 _ from ⟨by omega, by omega⟩) (g2 G)
  · have hx : i32 x := g1 G
    refine lv_i2l C.1 C.2.1 hd ?_ w
    rw [← Int64.toInt_inj, Int32.toInt_toInt64, ti32 hx, ti64 (show i64 _ from ⟨by omega, by omega⟩)]
theorem WP_l2i {x : Int} (hd : decode md.2.1 pc = .ok (.l2i, 1)) (k : WP md R Z T cc ss (pc + 1) L ((0, w32 x) :: st) μ) : WP md R Z T cc ss pc L ((1, x) :: st) μ := by
  refine WP_go k (fun g _ _ _ _ _ _ _ _ _ _ _ _ _ C V G => ⟨gc (i32_of _) (g2 G), fun w => ?_⟩)
  have hx : i64 x := g1 G
  refine lv_l2i C.1 C.2.1 hd ?_ w
  rw [w32, oi32, ← Int32.toInt_inj, Int64.toInt_toInt32, ti64 hx, Int32.toInt_ofInt]
theorem lgc {x y : Int} (hx : i64 x) (hy : i64 y) : lg_cmp (Int64.ofInt x) (Int64.ofInt y) = Int32.ofInt (lCmp x y) := by
  unfold lg_cmp lCmp
  simp only [lt64 hx hy, lt64 hy hx, eq64 hx hy]
  by_cases h1 : x < y
  · rw [if_neg (by omega), if_neg (by omega), if_pos h1]; rfl
  · by_cases h2 : x = y
    · rw [if_neg (by omega), if_pos h2, if_neg h1, if_pos h2]; rfl
    · rw [if_pos (by omega), if_neg h1, if_neg h2]; rfl
theorem WP_lcmp {x y : Int} (hd : decode md.2.1 pc = .ok (.lcmp, 1)) (k : WP md R Z T cc ss (pc + 1) L ((0, lCmp x y) :: st) μ) : WP md R Z T cc ss pc L ((1, y) :: (1, x) :: st) μ := by
  refine WP_go k (fun g _ _ _ _ _ _ _ _ _ _ _ _ _ C V G => ⟨gc (show i32 _ by unfold lCmp; split <;> (try split) <;> decide) (g2 (g2 G)), fun w => ?_⟩)
  refine W.lcmp C.1 C.2.1 hd ?_
  rw [lgc (g1 (g2 G)) (g1 G)]
  exact w
/-! the stack -/
theorem WP_dup {v : AV} (hd : decode md.2.1 pc = .ok (.dup, 1)) (hv : v.1 ≠ 1) (k : WP md R Z T cc ss (pc + 1) L (v :: v :: st) μ) : WP md R Z T cc ss pc L (v :: st) μ :=
  WP_go k (fun g _ _ _ _ _ _ _ _ _ _ _ _ _ C V G => ⟨gc (g1 G) G, fun w => lv_dup C.1 C.2.1 hd (by rw [val_cat, if_neg hv]) w⟩)
theorem WP_dup2 {v u : AV} (hd : decode md.2.1 pc = .ok (.dup2, 1)) (hv : v.1 ≠ 1) (hu : u.1 ≠ 1) (k : WP md R Z T cc ss (pc + 1) L (v :: u :: v :: u :: st) μ) : WP md R Z T cc ss pc L (v :: u :: st) μ :=
  WP_go k (fun g _ _ _ _ _ _ _ _ _ _ _ _ _ C V G => ⟨gc (g1 G) (gc (g1 (g2 G)) G), fun w => lv_dup2_11 C.1 C.2.1 hd (by rw [val_cat, if_neg hv]) (by rw [val_cat, if_neg hu]) w⟩)
theorem WP_dup2L {x : Int} (hd : decode md.2.1 pc = .ok (.dup2, 1)) (k : WP md R Z T cc ss (pc + 1) L ((1, x) :: (1, x) :: st) μ) : WP md R Z T cc ss pc L ((1, x) :: st) μ :=
  WP_go k (fun g _ _ _ _ _ _ _ _ _ _ _ _ _ C V G => ⟨gc (g1 G) G, fun w => lv_dup2_2 C.1 C.2.1 hd rfl w⟩)
theorem WP_pop {v : AV} (hd : decode md.2.1 pc = .ok (.pop, 1)) (hv : v.1 ≠ 1) (k : WP md R Z T cc ss (pc + 1) L st μ) : WP md R Z T cc ss pc L (v :: st) μ :=
  WP_go k (fun g _ _ _ _ _ _ _ _ _ _ _ _ _ C V G => ⟨g2 G, fun w => lv_pop C.1 C.2.1 hd (by rw [val_cat, if_neg hv]) w⟩)
theorem WP_pop2L {x : Int} (hd : decode md.2.1 pc = .ok (.pop2, 1)) (k : WP md R Z T cc ss (pc + 1) L st μ) : WP md R Z T cc ss pc L ((1, x) :: st) μ :=
  WP_go k (fun g _ _ _ _ _ _ _ _ _ _ _ _ _ C V G => ⟨g2 G, fun w => lv_pop2_2 C.1 C.2.1 hd rfl w⟩)
/-! branches -/
theorem WP_goto {off : Int} {tgt : Nat} (hd : decode md.2.1 pc = .ok (.goto off, 3)) (ht : (pc : Int) + off = (tgt : Int)) (k : WP md R Z T cc ss tgt L st μ) : WP md R Z T cc ss pc L st μ :=
  WP_go k (fun g _ _ _ _ _ _ _ _ _ _ _ _ _ C V G => ⟨G, fun w => lv_goto C.1 C.2.1 hd ht w⟩)
theorem WP_icmp_eq {x y off : Int} {tgt : Nat} (hd : decode md.2.1 pc = .ok (.if_icmp .eq off, 3)) (ht : (pc : Int) + off = (tgt : Int)) (kt : x = y → WP md R Z T cc ss tgt L st μ) (kf : ¬ (x = y) → WP md R Z T cc ss (pc + 3) L st μ) : WP md R Z T cc ss pc L ((0, y) :: (0, x) :: st) μ := by
  intro g p l e s m args below meth c H locs ls C K h0 Rp S V G
  have hx : i32 x := g1 (g2 G)
  have hy : i32 y := g1 G
  refine lv_icmp_eq C.1 C.2.1 hd ht (fun q => ?_) (fun q => ?_)
  · exact kt (by first | exact (eq32 hx hy).mp q | exact fun z => q ((eq32 hx hy).mpr z) | exact (lt32 hx hy).mp q | exact (lt32 hy hx).mp q | exact (le32 hx hy).mp q | exact (le32 hy hx).mp q) g p l e s m args below meth c H locs ls C K h0 Rp S V (g2 (g2 G))
  · exact kf (by first | exact fun z => q ((eq32 hx hy).mpr z) | exact fun z => z ((eq32 hx hy).mp q) | exact fun z => q (fun z2 => z ((eq32 hx hy).mp z2)) | exact fun z => q ((lt32 hx hy).mpr z) | exact fun z => q ((lt32 hy hx).mpr z) | exact fun z => q ((le32 hx hy).mpr z) | exact fun z => q ((le32 hy hx).mpr z)) g p l e s m args below meth c H locs ls C K h0 Rp S V (g2 (g2 G))
theorem WP_icmp_ne {x y off : Int} {tgt : Nat} (hd : decode md.2.1 pc = .ok (.if_icmp .ne off, 3)) (ht : (pc : Int) + off = (tgt : Int)) (kt : x ≠ y → WP md R Z T cc ss tgt L st μ) (kf : ¬ (x ≠ y) → WP md R Z T cc ss (pc + 3) L st μ) : WP md R Z T cc ss pc L ((0, y) :: (0, x) :: st) μ := by
  intro g p l e s m args below meth c H locs ls C K h0 Rp S V G
  have hx : i32 x := g1 (g2 G)
  have hy : i32 y := g1 G
  refine lv_icmp_ne C.1 C.2.1 hd ht (fun q => ?_) (fun q => ?_)
  · exact kt (by first | exact (eq32 hx hy).mp q | exact fun z => q ((eq32 hx hy).mpr z) | exact (lt32 hx hy).mp q | exact (lt32 hy hx).mp q | exact (le32 hx hy).mp q | exact (le32 hy hx).mp q) g p l e s m args below meth c H locs ls C K h0 Rp S V (g2 (g2 G))
  · exact kf (by first | exact fun z => q ((eq32 hx hy).mpr z) | exact fun z => z ((eq32 hx hy).mp q) | exact fun z => q (fun z2 => z ((eq32 hx hy).mp z2)) | exact fun z => q ((lt32 hx hy).mpr z) | exact fun z => q ((lt32 hy hx).mpr z) | exact fun z => q ((le32 hx hy).mpr z) | exact fun z => q ((le32 hy hx).mpr z)) g p l e s m args below meth c H locs ls C K h0 Rp S V (g2 (g2 G))
theorem WP_icmp_lt {x y off : Int} {tgt : Nat} (hd : decode md.2.1 pc = .ok (.if_icmp .lt off, 3)) (ht : (pc : Int) + off = (tgt : Int)) (kt : x < y → WP md R Z T cc ss tgt L st μ) (kf : ¬ (x < y) → WP md R Z T cc ss (pc + 3) L st μ) : WP md R Z T cc ss pc L ((0, y) :: (0, x) :: st) μ := by
  intro g p l e s m args below meth c H locs ls C K h0 Rp S V G
  have hx : i32 x := g1 (g2 G)
  have hy : i32 y := g1 G
  refine lv_icmp_lt C.1 C.2.1 hd ht (fun q => ?_) (fun q => ?_)
  · exact kt (by first | exact (eq32 hx hy).mp q | exact fun z => q ((eq32 hx hy).mpr z) | exact (lt32 hx hy).mp q | exact (lt32 hy hx).mp q | exact (le32 hx hy).mp q | exact (le32 hy hx).mp q) g p l e s m args below meth c H locs ls C K h0 Rp S V (g2 (g2 G))
  · exact kf (by first | exact fun z => q ((eq32 hx hy).mpr z) | exact fun z => z ((eq32 hx hy).mp q) | exact fun z => q (fun z2 => z ((eq32 hx hy).mp z2)) | exact fun z => q ((lt32 hx hy).mpr z) | exact fun z => q ((lt32 hy hx).mpr z) | exact fun z => q ((le32 hx hy).mpr z) | exact fun z => q ((le32 hy hx).mpr z)) g p l e s m args below meth c H locs ls C K h0 Rp S V (g2 (g2 G))
theorem WP_icmp_ge {x y off : Int} {tgt : Nat} (hd : decode md.2.1 pc = .ok (.if_icmp .ge off, 3)) (ht : (pc : Int) + off = (tgt : Int)) (kt : y ≤ x → WP md R Z T cc ss tgt L st μ) (kf : ¬ (y ≤ x) → WP md R Z T cc ss (pc + 3) L st μ) : WP md R Z T cc ss pc L ((0, y) :: (0, x) :: st) μ := by
  intro g p l e s m args below meth c H locs ls C K h0 Rp S V G
  have hx : i32 x := g1 (g2 G)
  have hy : i32 y := g1 G
  refine lv_icmp_ge C.1 C.2.1 hd ht (fun q => ?_) (fun q => ?_)
  · exact kt (by first | exact (eq32 hx hy).mp q | exact fun z => q ((eq32 hx hy).mpr z) | exact (lt32 hx hy).mp q | exact (lt32 hy hx).mp q | exact (le32 hx hy).mp q | exact (le32 hy hx).mp q) g p l e s m args below meth c H locs ls C K h0 Rp S V (g2 (g2 G))
  · exact kf (by first | exact fun z => q ((eq32 hx hy).mpr z) | exact fun z => z ((eq32 hx hy).mp q) | exact fun z => q (fun z2 => z ((eq32 hx hy).mp z2)) | exact fun z => q ((lt32 hx hy).mpr z) | exact fun z => q ((lt32 hy hx).mpr z) | exact fun z => q ((le32 hx hy).mpr z) | exact fun z => q ((le32 hy hx).mpr z)) g p l e s m args below meth c H locs ls C K h0 Rp S V (g2 (g2 G))
theorem WP_icmp_gt {x y off : Int} {tgt : Nat} (hd : decode md.2.1 pc = .ok (.if_icmp .gt off, 3)) (ht : (pc : Int) + off = (tgt : Int)) (kt : y < x → WP md R Z T cc ss tgt L st μ) (kf : ¬ (y < x) → WP md R Z T cc ss (pc + 3) L st μ) : WP md R Z T cc ss pc L ((0, y) :: (0, x) :: st) μ := by
  intro g p l e s m args below meth c H locs ls C K h0 Rp S V G
  have hx : i32 x := g1 (g2 G)
  have hy : i32 y := g1 G
  refine lv_icmp_gt C.1 C.2.1 hd ht (fun q => ?_) (fun q => ?_)
  · exact kt (by first | exact (eq32 hx hy).mp q | exact fun z => q ((eq32 hx hy).mpr z) | exact (lt32 hx hy).mp q | exact (lt32 hy hx).mp q | exact (le32 hx hy).mp q | exact (le32 hy hx).mp q) g p l e s m args below meth c H locs ls C K h0 Rp S V (g2 (g2 G))
  · exact kf (by first | exact fun z => q ((eq32 hx hy).mpr z) | exact fun z => z ((eq32 hx hy).mp q) | exact fun z => q (fun z2 => z ((eq32 hx hy).mp z2)) | exact fun z => q ((lt32 hx hy).mpr z) | exact fun z => q ((lt32 hy hx).mpr z) | exact fun z => q ((le32 hx hy).mpr z) | exact fun z => q ((le32 hy hx).mpr z)) g p l e s m args below meth c H locs ls C K h0 Rp S V (g2 (g2 G))
theorem WP_icmp_le {x y off : Int} {tgt : Nat} (hd : decode md.2.1 pc = .ok (.if_icmp .le off, 3)) (ht : (pc : Int) + off = (tgt : Int)) (kt : x ≤ y → WP md R Z T cc ss tgt L st μ) (kf : ¬ (x ≤ y) → WP md R Z T cc ss (pc + 3) L st μ) : WP md R Z T cc ss pc L ((0, y) :: (0, x) :: st) μ := by
  intro g p l e s m args below meth c H locs ls C K h0 Rp S V G
  have hx : i32 x := g1 (g2 G)
  have hy : i32 y := g1 G
  refine lv_icmp_le C.1 C.2.1 hd ht (fun q => ?_) (fun q => ?_)
  · exact kt (by first | exact (eq32 hx hy).mp q | exact fun z => q ((eq32 hx hy).mpr z) | exact (lt32 hx hy).mp q | exact (lt32 hy hx).mp q | exact (le32 hx hy).mp q | exact (le32 hy hx).mp q) g p l e s m args below meth c H locs ls C K h0 Rp S V (g2 (g2 G))
  · exact kf (by first | exact fun z => q ((eq32 hx hy).mpr z) | exact fun z => z ((eq32 hx hy).mp q) | exact fun z => q (fun z2 => z ((eq32 hx hy).mp z2)) | exact fun z => q ((lt32 hx hy).mpr z) | exact fun z => q ((lt32 hy hx).mpr z) | exact fun z => q ((le32 hx hy).mpr z) | exact fun z => q ((le32 hy hx).mpr z)) g p l e s m args below meth c H locs ls C K h0 Rp S V (g2 (g2 G))
theorem WP_ifeq {x off : Int} {tgt : Nat} (hd : decode md.2.1 pc = .ok (.ifCond .eq off, 3)) (ht : (pc : Int) + off = (tgt : Int)) (kt : x = 0 → WP md R Z T cc ss tgt L st μ) (kf : ¬ (x = 0) → WP md R Z T cc ss (pc + 3) L st μ) : WP md R Z T cc ss pc L ((0, x) :: st) μ := by
  intro g p l e s m args below meth c H locs ls C K h0 Rp S V G
  have hx : i32 x := g1 G
  have hy : i32 0 := by decide
  refine lv_if_eq C.1 C.2.1 hd ht (fun q => ?_) (fun q => ?_)
  · exact kt (by first | exact (eq32 hx hy).mp q | exact fun z => q ((eq32 hx hy).mpr z) | exact (lt32 hx hy).mp q | exact (lt32 hy hx).mp q | exact (le32 hx hy).mp q | exact (le32 hy hx).mp q) g p l e s m args below meth c H locs ls C K h0 Rp S V (g2 G)
  · exact kf (by first | exact fun z => q ((eq32 hx hy).mpr z) | exact fun z => z ((eq32 hx hy).mp q) | exact fun z => q (fun z2 => z ((eq32 hx hy).mp z2)) | exact fun z => q ((lt32 hx hy).mpr z) | exact fun z => q ((lt32 hy hx).mpr z) | exact fun z => q ((le32 hx hy).mpr z) | exact fun z => q ((le32 hy hx).mpr z)) g p l e s m args below meth c H locs ls C K h0 Rp S V (g2 G)
theorem WP_ifne {x off : Int} {tgt : Nat} (hd : decode md.2.1 pc = .ok (.ifCond .ne off, 3)) (ht : (pc : Int) + off = (tgt : Int)) (kt : x ≠ 0 → WP md R Z T cc ss tgt L st μ) (kf : ¬ (x ≠ 0) → WP md R Z T cc ss (pc + 3) L st μ) : WP md R Z T cc ss pc L ((0, x) :: st) μ := by
  intro g p l e s m args below meth c H locs ls C K h0 Rp S V G
  have hx : i32 x := g1 G
  have hy : i32 0 := by decide
  refine lv_if_ne C.1 C.2.1 hd ht (fun q => ?_) (fun q => ?_)
  · exact kt (by first | exact (eq32 hx hy).mp q | exact fun z => q ((eq32 hx hy).mpr z) | exact (lt32 hx hy).mp q | exact (lt32 hy hx).mp q | exact (le32 hx hy).mp q | exact (le32 hy hx).mp q) g p l e s m args below meth c H locs ls C K h0 Rp S V (g2 G)
  · exact kf (by first | exact fun z => q ((eq32 hx hy).mpr z) | exact fun z => z ((eq32 hx hy).mp q) | exact fun z => q (fun z2 => z ((eq32 hx hy).mp z2)) | exact fun z => q ((lt32 hx hy).mpr z) | exact fun z => q ((lt32 hy hx).mpr z) | exact fun z => q ((le32 hx hy).mpr z) | exact fun z => q ((le32 hy hx).mpr z)) g p l e s m args below meth c H locs ls C K h0 Rp S V (g2 G)
theorem WP_iflt {x off : Int} {tgt : Nat} (hd : decode md.2.1 pc = .ok (.ifCond .lt off, 3)) (ht : (pc : Int) + off = (tgt : Int)) (kt : x < 0 → WP md R Z T cc ss tgt L st μ) (kf : ¬ (x < 0) → WP md R Z T cc ss (pc + 3) L st μ) : WP md R Z T cc ss pc L ((0, x) :: st) μ := by
  intro g p l e s m args below meth c H locs ls C K h0 Rp S V G
  have hx : i32 x := g1 G
  have hy : i32 0 := by decide
  refine lv_if_lt C.1 C.2.1 hd ht (fun q => ?_) (fun q => ?_)
  · exact kt (by first | exact (eq32 hx hy).mp q | exact fun z => q ((eq32 hx hy).mpr z) | exact (lt32 hx hy).mp q | exact (lt32 hy hx).mp q | exact (le32 hx hy).mp q | exact (le32 hy hx).mp q) g p l e s m args below meth c H locs ls C K h0 Rp S V (g2 G)
  · exact kf (by first | exact fun z => q ((eq32 hx hy).mpr z) | exact fun z => z ((eq32 hx hy).mp q) | exact fun z => q (fun z2 => z ((eq32 hx hy).mp z2)) | exact fun z => q ((lt32 hx hy).mpr z) | exact fun z => q ((lt32 hy hx).mpr z) | exact fun z => q ((le32 hx hy).mpr z) | exact fun z => q ((le32 hy hx).mpr z)) g p l e s m args below meth c H locs ls C K h0 Rp S V (g2 G)
theorem WP_ifge {x off : Int} {tgt : Nat} (hd : decode md.2.1 pc = .ok (.ifCond .ge off, 3)) (ht : (pc : Int) + off = (tgt : Int)) (kt : 0 ≤ x → WP md R Z T cc ss tgt L st μ) (kf : ¬ (0 ≤ x) → WP md R Z T cc ss (pc + 3) L st μ) : WP md R Z T cc ss pc L ((0, x) :: st) μ := by
  intro g p l e s m args below meth c H locs ls C K h0 Rp S V G
  have hx : i32 x := g1 G
  have hy : i32 0 := by decide
  refine lv_if_ge C.1 C.2.1 hd ht (fun q => ?_) (fun q => ?_)
  · exact kt (by first | exact (eq32 hx hy).mp q | exact fun z => q ((eq32 hx hy).mpr z) | exact (lt32 hx hy).mp q | exact (lt32 hy hx).mp q | exact (le32 hx hy).mp q | exact (le32 hy hx).mp q) g p l e s m args below meth c H locs ls C K h0 Rp S V (g2 G)
  · exact kf (by first | exact fun z => q ((eq32 hx hy).mpr z) | exact fun z => z ((eq32 hx hy).mp q) | exact fun z => q (fun z2 => z ((eq32 hx hy).mp z2)) | exact fun z => q ((lt32 hx hy).mpr z) | exact fun z => q ((lt32 hy hx).mpr z) | exact fun z => q ((le32 hx hy).mpr z) | exact fun z => q ((le32 hy hx).mpr z)) g p l e s m args below meth c H locs ls C K h0 Rp S V (g2 G)
theorem WP_ifgt {x off : Int} {tgt : Nat} (hd : decode md.2.1 pc = .ok (.ifCond .gt off, 3)) (ht : (pc : Int) + off = (tgt : Int)) (kt : 0 < x → WP md R Z T cc ss tgt L st μ) (kf : ¬ (0 < x) → WP md R Z T cc ss (pc + 3) L st μ) : WP md R Z T cc ss pc L ((0, x) :: st) μ := by
  intro g p l e s m args below meth c H locs ls C K h0 Rp S V G
  have hx : i32 x := g1 G
  have hy : i32 0 := by decide
  refine lv_if_gt C.1 C.2.1 hd ht (fun q => ?_) (fun q => ?_)
  · exact kt (by first | exact (eq32 hx hy).mp q | exact fun z => q ((eq32 hx hy).mpr z) | exact (lt32 hx hy).mp q | exact (lt32 hy hx).mp q | exact (le32 hx hy).mp q | exact (le32 hy hx).mp q) g p l e s m args below meth c H locs ls C K h0 Rp S V (g2 G)
  · exact kf (by first | exact fun z => q ((eq32 hx hy).mpr z) | exact fun z => z ((eq32 hx hy).mp q) | exact fun z => q (fun z2 => z ((eq32 hx hy).mp z2)) | exact fun z => q ((lt32 hx hy).mpr z) | exact fun z => q ((lt32 hy hx).mpr z) | exact fun z => q ((le32 hx hy).mpr z) | exact fun z => q ((le32 hy hx).mpr z)) g p l e s m args below meth c H locs ls C K h0 Rp S V (g2 G)
theorem WP_ifle {x off : Int} {tgt : Nat} (hd : decode md.2.1 pc = .ok (.ifCond .le off, 3)) (ht : (pc : Int) + off = (tgt : Int)) (kt : x ≤ 0 → WP md R Z T cc ss tgt L st μ) (kf : ¬ (x ≤ 0) → WP md R Z T cc ss (pc + 3) L st μ) : WP md R Z T cc ss pc L ((0, x) :: st) μ := by
  intro g p l e s m args below meth c H locs ls C K h0 Rp S V G
  have hx : i32 x := g1 G
  have hy : i32 0 := by decide
  refine lv_if_le C.1 C.2.1 hd ht (fun q => ?_) (fun q => ?_)
  · exact kt (by first | exact (eq32 hx hy).mp q | exact fun z => q ((eq32 hx hy).mpr z) | exact (lt32 hx hy).mp q | exact (lt32 hy hx).mp q | exact (le32 hx hy).mp q | exact (le32 hy hx).mp q) g p l e s m args below meth c H locs ls C K h0 Rp S V (g2 G)
  · exact kf (by first | exact fun z => q ((eq32 hx hy).mpr z) | exact fun z => z ((eq32 hx hy).mp q) | exact fun z => q (fun z2 => z ((eq32 hx hy).mp z2)) | exact fun z => q ((lt32 hx hy).mpr z) | exact fun z => q ((lt32 hy hx).mpr z) | exact fun z => q ((le32 hx hy).mpr z) | exact fun z => q ((le32 hy hx).mpr z)) g p l e s m args below meth c H locs ls C K h0 Rp S V (g2 G)
theorem WP_tableIn {dflt lo hi x off : Int} {offs : Array Int} {len tgt : Nat} (hd : decode md.2.1 pc = .ok (.tableswitch dflt lo hi offs, len)) (h1 : lo ≤ x) (h2 : x ≤ hi) (ho : offs[(x - lo).toNat]? = some off) (ht : (pc : Int) + off = (tgt : Int)) (k : WP md R Z T cc ss tgt L st μ) : WP md R Z T cc ss pc L ((0, x) :: st) μ :=
  WP_go k (fun g _ _ _ _ _ _ _ _ _ _ _ _ _ C V G => ⟨g2 G, fun w => by
    have hx : i32 x := g1 G
    refine lv_tableIn (x := Int32.ofInt x) C.1 C.2.1 hd ?_ ?_ (off := off) ?_ ht w
    · rw [ti32 hx]; omega
    · rw [ti32 hx]; omega
    · rw [ti32 hx]; exact ho⟩)
theorem WP_tableOut {dflt lo hi x : Int} {offs : Array Int} {len tgt : Nat} (hd : decode md.2.1 pc = .ok (.tableswitch dflt lo hi offs, len)) (h1 : x < lo ∨ hi < x) (ht : (pc : Int) + dflt = (tgt : Int)) (k : WP md R Z T cc ss tgt L st μ) : WP md R Z T cc ss pc L ((0, x) :: st) μ :=
  WP_go k (fun g _ _ _ _ _ _ _ _ _ _ _ _ _ C V G => ⟨g2 G, fun w => by
    have hx : i32 x := g1 G
    refine lv_tableOut (x := Int32.ofInt x) C.1 C.2.1 hd ?_ ht w
    rw [ti32 hx]; exact h1⟩)
end WPR2

/-! BASE 5: copies, texts, statics, making objects -/
/-- the first n of a row come into another one -/
def mcp (μ : Mem) (a0 a : Int) (n : Int) : Mem := fun b j => if b = a ∧ 0 ≤ j ∧ j < n then μ a0 j else μ b j
theorem KX.at {g : GW} {sc : Nat × (Int → Int)} {s U : State} {H : Heap} {locs : List Loc} (h : KX g sc s s.heap) (hS : va_S (AA g) s.heap H locs) (hU : U.heap = H) (hW : s.WarmedH U.vm) : KX g sc U U.heap := by
  obtain ⟨k1, k2, k3, k4, k5, k6, ⟨b, e1, e2, e3, e4⟩, k8, k9⟩ := h
  have hq : ∀ a : Nat, a < s.heap.size → ¬ AA g a → U.heap[a]? = s.heap[a]? := by rw [hU]; exact hS.2.1
  refine ⟨fun ci q hq => u_Kn_moved hW.alike (k1 ci q hq), fun e he => ⟨arrOfT_moved hW.alike (k2 e he).1, (k2 e he).2.moved hW.alike⟩, fun i hi => ((k3 i hi).moved hW.alike).kept hq, fun i hi => (k4 i hi).warm hW, (k5.moved hW.alike).kept hq, (k6.moved hW.alike).kept hq, ⟨b, e1, (e2.moved hW.alike).kept (hq b e3 e4), ?_, e4⟩, k8, fun w hw => nest_warm hw hW (k9 w hw)⟩
  rw [hU]; exact Nat.lt_of_lt_of_le e3 hS.1
/-- a text's cells (two of the four are one and the same String) -/
theorem vk1 {n a v : Nat} {byt : List Int32} {A : Nat → Prop} {U : State} {H : Heap} (h : vk_S 1 [n] [byt] (fun _ => a) (fun _ => v) A U H) : va_O "java/lang/String" a A U H ∧ va_OF "java/lang/String" "coder" "B" (.int 0) a A U H ∧ va_OF "java/lang/String" "value" "[B" (.ref v) a A U H ∧ va_T .byte v n (fun j => .int (byt.getD j 0)) A U H := h.1 0 (Nat.lt_succ_self 0)
theorem KX.tx {g : GW} {sc : Nat × (Int → Int)} {U : State} {H : Heap} (h : KX g sc U H) (i : Nat) (hi : i < 4) : va_O "java/lang/String" (g.2.2.2.1 i) (AA g) U H ∧ va_OF "java/lang/String" "coder" "B" (.int 0) (g.2.2.2.1 i) (AA g) U H ∧ va_OF "java/lang/String" "value" "[B" (.ref (g.2.2.2.2.1 i)) (g.2.2.2.1 i) (AA g) U H ∧ va_T .byte (g.2.2.2.2.1 i) (txLs.getD i 0) (fun j => .int ((txBs.getD i []).getD j 0)) (AA g) U H := vk1 (h.2.2.1 i hi)
section WPT
variable {md : MD} {R : Room} {Z : ZT} {T : Wd} {cc ss : Nat} {pc pc' : Nat} {L L' st st' : List AV} {μ : Mem}
theorem WP_copy {idx : Nat} {a0 a n : Int} {n0 n1 : Nat} (hd : decode md.2.1 pc = .ok (.invokestatic idx, 3)) (hw : Cond.methodLink md.1.cls idx arraycopyName ∈ UW) (hw2 : Cond.native arraycopyName ∈ UW) (hw3 : Cond.static arraycopyName ∈ UW) (hw4 : Cond.initialized "java/lang/System" ∈ UW)
    (hk0 : kd T a0 = some (0, n0)) (hk : kd T a = some (0, n1)) (hn : 0 ≤ n ∧ n ≤ n0 ∧ n ≤ n1) (hR : 1 ≤ R.frames ∧ (nativeFrameWords "java/lang/System" "arraycopy" 5 + 11) ≤ R.locals)
    (k : WP md R Z T cc ss (pc + 3) L [] (mcp μ a0 a n)) : WP md R Z T cc ss pc L [(0, n), (0, 0), (2, a), (0, 0), (2, a0)] μ := by
  intro g p l e s m args below meth c H locs ls C K h0 Rp S V G
  obtain ⟨p1, p2, p3⟩ := Rp.arr hk0 (by decide)
  obtain ⟨q1, q2, q3⟩ := Rp.arr hk (by decide)
  have hgn : i32 n := g1 G
  have hts := C.2.2.2.2.2.1
  obtain ⟨kk, rfl, hq⟩ := kd_spec hk
  obtain ⟨-, k0, hk0', cm0, hkk0⟩ := (K.2.1 0 (by decide)).1 n0 (fun j => val g (vt 0, μ a0 j))
  obtain ⟨-, k1, hk1', cm1, hkk1⟩ := (K.2.1 0 (by decide)).1 n1 (fun j => val g (vt 0, μ kk j))
  simp only [List.map_cons, List.map_nil]
  rw [val_nn p1, val_ad]
  rw [show ((kk : Int).toNat) = kk from rfl] at q2
  intro S1 hS1 X
  have e0 : ((0 : Int32).toNatClampNeg) = 0 := rfl
  have en : (Int32.ofInt n).toNatClampNeg = n.toNat := cl32 hgn
  obtain ⟨vm', X', step⟩ := X.arraycopy C.1 C.2.2.2.2.1 (hts _ hw) (hts _ hw2) (hts _ hw3) (hts _ hw4) (src := g.1 + a0.toNat) (dst := g.1 + kk) (cs := arrV (g.2.2.1 0) n0 (fun j => val g (vt 0, μ a0 j))) (cd := arrV (g.2.2.1 0) n1 (fun j => val g (vt 0, μ kk j))) (srcPos := 0) (destPos := 0) (n := Int32.ofInt n) (by rw [hS1]; exact p2) (by rw [hS1]; exact q2)
    (fun _ h => by cases h) (fun _ h => by cases h) (fun h => by cases h) (fun h => by cases h) hk0' hk1' hkk0 hkk1 (by rfl) (by decide) (by decide) (by rw [show (Int32.ofInt n < 0 ↔ n < 0) from lt32 (y := 0) hgn (by decide)]; omega)
    (by rw [ti32 hgn, arrV_size]; have : (0 : Int32).toInt = 0 := rfl; omega)
    (by rw [ti32 hgn, arrV_size]; have : (0 : Int32).toInt = 0 := rfl; omega)
    (fun vm₁ _ i hi => by
      rw [en] at hi
      have e : (arrV (g.2.2.1 0) n0 (fun j => val g (vt 0, μ a0 j))).slots.getD ((0 : Int32).toNatClampNeg + i) .null = .int (Int32.ofInt (μ a0 i)) := by
        rw [Array.getD_eq_getD_getElem?, e0, Nat.zero_add, arrV_read _ _ (by omega)]
        rfl
      refine ⟨?_, ?_⟩
      · rw [e]
        rfl
      · rw [e]
        exact trivial)
    (g := F0 m pc ls [.int (Int32.ofInt n), .int (Int32.ofInt 0), .ref (g.1 + kk), .int (Int32.ofInt 0), .ref (g.1 + a0.toNat)]) rfl (by show ls.size = _; rw [V.2.1]; exact C.2.2.2.1.symm) (rest := []) rfl (by rw [C.2.1]; exact hd) hR.1 (by show 2 * 0 + _ + _ ≤ _; have := hR.2; simpa using this)
  have e1 : copied (arrV (g.2.2.1 0) n0 (fun j => val g (vt 0, μ a0 j))) (arrV (g.2.2.1 0) n1 (fun j => val g (vt 0, μ kk j))) 0 0 (Int32.ofInt n) = arrV (g.2.2.1 0) n1 (fun j => val g (vt 0, mcp μ a0 kk n kk j)) := by
    have := va_copied (fun z : Int => val g (0, z)) (g.2.2.1 0) (g.2.2.1 0) (n0 := n0) (n1 := n1) (sp := 0) (dp := 0) (n := n.toNat) (fun j => μ a0 j) (fun j => μ kk j) (by omega)
    refine Eq.trans (b := _) ?_ (this.trans ?_)
    · rw [copied, e0, en]; rfl
    · congr 1
      funext j
      unfold va_cpy mcp
      by_cases hj : (j : Int) < n
      · rw [if_pos ⟨by omega, by omega⟩, if_pos ⟨rfl, by omega, hj⟩]
        simp [vt]
      · rw [if_neg (by omega), if_neg (fun z => hj z.2.2)]; rfl
  rw [e1] at X' step
  have hl : g.1 + kk < H.size := (Array.getElem?_eq_some_iff.mp q2).1
  have hheap : ((S1.setVm vm').setCell (g.1 + kk) (arrV (g.2.2.1 0) n1 (fun j => val g (vt 0, mcp μ a0 kk n kk j)))).heap = H.setIfInBounds (g.1 + kk) (arrV (g.2.2.1 0) n1 (fun j => val g (vt 0, mcp μ a0 kk n kk j))) := by rw [← hS1]; rfl
  have oq : ∀ q : Nat, q ≠ g.1 + kk → (H.setIfInBounds (g.1 + kk) (arrV (g.2.2.1 0) n1 (fun j => val g (vt 0, mcp μ a0 kk n kk j))))[q]? = H[q]? := fun q hq => by simp [Array.getElem?_setIfInBounds, Ne.symm hq]
  have hb : ∀ b i : Int, b ≠ kk → mcp μ a0 kk n b i = μ b i := fun b i hb => by unfold mcp; rw [if_neg (fun z => hb z.1)]
  obtain ⟨t, a1, b1⟩ := k g p l e s m args below meth c _ _ ls C K h0 (Rp.upd (μ' := mcp μ a0 kk n) hq (show (H.setIfInBounds (g.1 + kk) (arrV (g.2.2.1 0) n1 (fun j => val g (vt 0, mcp μ a0 kk n kk j)))).size = H.size by simp) oq ⟨fun _ => ⟨by simp [Array.getElem?_setIfInBounds, hl], fun j hj => by
        unfold mcp
        by_cases hj2 : (0 : Int) ≤ j ∧ (j : Int) < n
        · rw [if_pos ⟨rfl, hj2⟩]; exact p3 j (by omega)
        · rw [if_neg (fun z => hj2 z.2)]; exact q3 j hj⟩, fun z => absurd z (by simp only; omega)⟩ hb)
      (show va_S (AA g) s.heap _ (locs ++ _) from ⟨by simp; exact S.1, fun q g1 g2 => by
        rw [oq q (fun e => g2 (by rw [e]; exact Nat.le_add_right _ _))]
        exact S.2.1 q g1 g2, fun q hq => by
        rcases List.mem_append.mp hq with h | h
        · exact S.2.2 q h
        · obtain ⟨z, -, hz⟩ := List.mem_map.mp h
          rw [← hz]
          exact Nat.le_add_right _ _⟩) V (fun v h => by cases h) _ hheap X'
  exact ⟨t, step t a1, b1⟩
/-! texts -/
theorem tx_len {i : Nat} (hi : i < 4) : txLs.getD i 0 < 200 := by
  have : ∀ i, i < 4 → txLs.getD i 0 < 200 := by decide +kernel
  exact this i hi
def txLen (i : Int) : Int := txLs.getD i.toNat 0
def txAt (i j : Int) : Int := ((txBs.getD i.toNat []).getD j.toNat 0).toInt
theorem WP_ldcS {idx i : Nat} (hd : decode md.2.1 pc = .ok (.ldc idx, 2)) (hi : i < 4) (ho : txO i = md.1.cls) (hk : txK i = idx) (k : WP md R Z T cc ss (pc + 2) L ((3, (i : Int)) :: st) μ) : WP md R Z T cc ss pc L st μ := by
  intro g p l e s m args below meth c H locs ls C K h0 Rp S V G
  have hR := K.2.2.2.1 i hi
  rw [ho, hk] at hR
  intro T1 hT1 X
  obtain ⟨t, a1, b1⟩ := k g p l e s m args below meth c H locs ls C K h0 Rp S V (gc (show 0 ≤ (i : Int) ∧ (i : Int) < 4 from ⟨by omega, by omega⟩) G) T1 hT1 X
  have h1 := hR.1
  have h2 := hR.2
  exact ⟨t, X.ldcString C.1 C.2.2.2.2.1 (text := txT i) (a := g.2.2.2.1 i) h1 h2 (g := F0 m pc ls (st.map (val g))) rfl (by rw [C.2.1]; exact hd) t a1, b1⟩
theorem WP_txval {idx : Nat} {i : Int} (hd : decode md.2.1 pc = .ok (.getfield idx, 3)) (hw : Cond.fieldLink md.1.cls idx "java/lang/String" "value" "[B" ∈ UW) (k : WP md R Z T cc ss (pc + 3) L ((5, i) :: st) μ) : WP md R Z T cc ss pc L ((3, i) :: st) μ := by
  intro g p l e s m args below meth c H locs ls C K h0 Rp S V G
  have hgi : 0 ≤ i ∧ i < 4 := g1 G
  have hv := KX.tx K i.toNat (by omega)
  exact vk_getf C.1 C.2.1 hv.2.2.1 S C.2.2.2.2.1 (C.2.2.2.2.2.1 _ hw) (fun _ h => h) hd (k g p l e s m args below meth c H locs ls C K h0 Rp S V (gc (show 0 ≤ i ∧ i < 4 from hgi) (g2 G)))
theorem WP_txcoder {idx : Nat} {i : Int} (hd : decode md.2.1 pc = .ok (.getfield idx, 3)) (hw : Cond.fieldLink md.1.cls idx "java/lang/String" "coder" "B" ∈ UW) (k : WP md R Z T cc ss (pc + 3) L ((0, 0) :: st) μ) : WP md R Z T cc ss pc L ((3, i) :: st) μ := by
  intro g p l e s m args below meth c H locs ls C K h0 Rp S V G
  have hgi : 0 ≤ i ∧ i < 4 := g1 G
  have hv := KX.tx K i.toNat (by omega)
  exact vk_getf C.1 C.2.1 hv.2.1 S C.2.2.2.2.1 (C.2.2.2.2.2.1 _ hw) (fun _ h => h) hd (k g p l e s m args below meth c H locs ls C K h0 Rp S V (gc (show i32 0 by decide) (g2 G)))
theorem WP_txlen {i : Int} (hd : decode md.2.1 pc = .ok (.arraylength, 1)) (k : WP md R Z T cc ss (pc + 1) L ((0, txLen i) :: st) μ) : WP md R Z T cc ss pc L ((5, i) :: st) μ := by
  intro g p l e s m args below meth c H locs ls C K h0 Rp S V G
  have hgi : 0 ≤ i ∧ i < 4 := g1 G
  have hv := KX.tx K i.toNat (by omega)
  have hl := tx_len (i := i.toNat) (by omega)
  exact va_tlen C.1 C.2.1 hv.2.2.2 S (v := Int32.ofInt (txLen i)) (Int32.ofInt_eq_ofNat ..).symm hd (k g p l e s m args below meth c H locs ls C K h0 Rp S V (gc (show i32 (txLen i) by unfold txLen; exact ⟨by omega, by omega⟩) (g2 G)))
theorem WP_txat {i j : Int} (hd : decode md.2.1 pc = .ok (.baload, 1)) (hj : 0 ≤ j ∧ j < txLen i) (k : WP md R Z T cc ss (pc + 1) L ((0, txAt i j) :: st) μ) : WP md R Z T cc ss pc L ((0, j) :: (5, i) :: st) μ := by
  intro g p l e s m args below meth c H locs ls C K h0 Rp S V G
  have hgi : 0 ≤ i ∧ i < 4 := g1 (g2 G)
  have hgj : i32 j := g1 G
  have hv := KX.tx K i.toNat (by omega)
  refine va_tb C.1 C.2.1 hv.2.2.2 S (in32 hgj hj.1 (by have := hj.2; unfold txLen at this; exact this)) (v := val g (0, txAt i j)) ?_ hd (k g p l e s m args below meth c H locs ls C K h0 Rp S V (gc (show i32 (txAt i j) from i32_of _) (g2 (g2 G))))
  rw [cl32 hgj]
  show Value.int _ = Value.int (Int32.ofInt (txAt i j))
  rw [txAt, oi32]
theorem WP_compact {idx : Nat} (hd : decode md.2.1 pc = .ok (.getstatic idx, 3)) (hw : Cond.fieldLink md.1.cls idx "java/lang/String" "COMPACT_STRINGS" "Z" ∈ UW) (k : WP md R Z T cc ss (pc + 3) L ((0, 1) :: st) μ) : WP md R Z T cc ss pc L st μ := by
  intro g p l e s m args below meth c H locs ls C K h0 Rp S V G
  exact va_gets C.1 C.2.1 K.2.2.2.2.1 S C.2.2.2.2.1 (C.2.2.2.2.2.1 _ hw) (fun _ h => h) hd (k g p l e s m args below meth c H locs ls C K h0 Rp S V (gc (show i32 1 by decide) G))
theorem WP_sioobe {idx : Nat} (hd : decode md.2.1 pc = .ok (.getstatic idx, 3)) (hw : Cond.fieldLink md.1.cls idx "jdk/internal/util/Preconditions" "SIOOBE_FORMATTER" "Ljava/util/function/BiFunction;" ∈ UW) (k : WP md R Z T cc ss (pc + 3) L ((6, 0) :: st) μ) : WP md R Z T cc ss pc L st μ := by
  intro g p l e s m args below meth c H locs ls C K h0 Rp S V G
  exact va_gets C.1 C.2.1 K.2.2.2.2.2.1 S C.2.2.2.2.1 (C.2.2.2.2.2.1 _ hw) (fun _ h => h) hd (k g p l e s m args below meth c H locs ls C K h0 Rp S V (gc trivial G))
/-! the law's script -/
theorem WP_slen (hd : decode md.2.1 pc = .ok (.arraylength, 1)) (hn : T.2.2.1 < 2147483648) (k : WP md R Z T cc ss (pc + 1) L ((0, (T.2.2.1 : Int)) :: st) μ) : WP md R Z T cc ss pc L ((4, 0) :: st) μ := by
  intro g p l e s m args below meth c H locs ls C K h0 Rp S V G
  obtain ⟨b, e1, e2, e3, e4⟩ := K.2.2.2.2.2.2.1
  have k' := k g p l e s m args below meth c H locs ls C K h0 Rp S V (gc (show i32 _ from ⟨by omega, by omega⟩) (g2 G))
  rw [List.map_cons] at k' ⊢
  rw [show val g (0, (T.2.2.1 : Int)) = .int (Int32.ofNat T.2.2.1) from congrArg Value.int (Int32.ofInt_eq_ofNat ..)] at k'
  show W _ _ _ _ _ _ _ _ _ _ _ _ _ _ _ (F0 m pc ls (.ref g.2.2.2.2.2.1 :: _))
  rw [← e1]
  exact va_slen C.1 C.2.1 e2 e3 e4 S hd k'
theorem WP_sld {i : Int} (hd : decode md.2.1 pc = .ok (.iaload, 1)) (hi : 0 ≤ i ∧ i < T.2.2.1) (k : WP md R Z T cc ss (pc + 1) L ((0, T.2.2.2 i) :: st) μ) : WP md R Z T cc ss pc L ((0, i) :: (4, 0) :: st) μ := by
  intro g p l e s m args below meth c H locs ls C K h0 Rp S V G
  obtain ⟨b, e1, e2, e3, e4⟩ := K.2.2.2.2.2.2.1
  have hgi : i32 i := g1 G
  have hj : ((i.toNat : Nat) : Int) = i := by omega
  have hr := K.2.2.2.2.2.2.2.1 i.toNat
  rw [hj] at hr
  have k' := k g p l e s m args below meth c H locs ls C K h0 Rp S V (gc (show i32 _ from hr) (g2 (g2 G)))
  rw [List.map_cons] at k'
  rw [List.map_cons, List.map_cons]
  show W _ _ _ _ _ _ _ _ _ _ _ _ _ _ _ (F0 m pc ls (.int (Int32.ofInt i) :: .ref g.2.2.2.2.2.1 :: _))
  rw [← e1]
  refine va_sld C.1 C.2.1 e2 e3 e4 S (in32 hgi hi.1 hi.2) hd ?_
  rw [cl32 hgi, hj]
  exact k'
end WPT

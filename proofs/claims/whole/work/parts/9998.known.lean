/-! WHAT IS KNOWN AT THE LAW'S ENTRY: classes, arrays, texts, statics, the script -/
theorem in_ok : ∀ (ci : Nat) (q : vw_C), cls0[ci]? = some q → Cond.instantiable q.1 q.2.2 ∈ UW := by
  intro ci q h
  match ci, h with
  | 0, h => cases h; exact in_RX0
  | 1, h => cases h; exact in_RX1
  | 2, h => cases h; exact in_RX2
  | 3, h => cases h; exact in_RX3
  | 4, h => cases h; exact in_RX4
  | 5, h => cases h; exact in_RX5
  | 6, h => cases h; exact in_RX6
  | 7, h => cases h; exact in_RX7
  | 8, h => cases h; exact in_RX8
  | 9, h => cases h; exact in_RX9
  | 10, h => cases h; exact in_RX10
  | k + 11, h => simp [cls0] at h
section KNOWN
variable {s : State} {args : Array Value}
theorem kn_of (hts : ∀ w ∈ UW, w.before args s = true) : ∃ D : va_G, ∀ (ci : Nat) (q : vw_C), cls0[ci]? = some q → u_Kn s q.1 q.2.1 q.2.2 (D.1 ci) (D.2 ci) := by
  have h : ∀ ci : Nat, ∃ z : ClassId × (Nat → Nat), ∀ q : vw_C, cls0[ci]? = some q → u_Kn s q.1 q.2.1 q.2.2 z.1 z.2 := by
    intro ci
    cases hq : cls0[ci]? with
    | none => exact ⟨(0, fun _ => 0), fun q z => by cases z⟩
    | some q =>
      obtain ⟨c, iS, h⟩ := u_known hts (cls_ok ci q hq).1 (hts _ (in_ok ci q hq))
      exact ⟨(c, iS), fun q' z => by cases z; exact h⟩
  obtain ⟨f, hf⟩ := Classical.axiomOfChoice h
  exact ⟨(fun k => (f k).1, fun k => (f k).2), fun ci q hq => hf ci q hq⟩
theorem arP {ty : FieldType} (h : (Cond.arrayClass ty).before args s = true) : ∃ cA : ClassId, ArrOfT s cA ty ∧ s.vm.findClass ("[" ++ ty.toString) = some cA := by
  obtain ⟨c, k, comp, h1, h2, h3⟩ := Cond.arrayClass_spec h
  exact ⟨c, fun n z => ⟨fun k h => (by cases h), k, h2, comp, h3⟩, h1⟩
theorem arO {C : String} (h : (Cond.arrayOver (.object C)).before args s = true) : ∃ cA : ClassId, ArrOfT s cA (.object C) ∧ va_RA s cA (.object C) := by
  obtain ⟨comp, c, k, h1, h2, h3, h4, h5⟩ := Cond.arrayOver_spec h
  exact ⟨c, fun n z => ⟨fun k h => (by cases h), k, h3, comp, h4⟩, k, comp, h3, h4, h1, h5⟩
theorem ar_of (hts : ∀ w ∈ lw_tbl, w.before args s = true) : ∃ f : Nat → ClassId, ∀ e ∈ ([0, 1, 4, 5, 11, 16, 18] : List Nat), ArrOfT s (f e) (et e) ∧ va_RA s (f e) (et e) := by
  have hn : ∀ w ∈ nestW, w.before args s = true := fun w hw => hts w (List.mem_filter.mp hw).1
  obtain ⟨a0, h0⟩ := arP (hts _ (UW_tbl _ ac_0))
  obtain ⟨a1, h1⟩ := arP (hts _ (UW_tbl _ ac_1))
  obtain ⟨a4, h4⟩ := arP (hts _ (UW_tbl _ ac_4))
  obtain ⟨a5, h5⟩ := arP (hts _ (UW_tbl _ ac_5))
  obtain ⟨a11, h11⟩ := arO (hn _ ov_RX1)
  obtain ⟨a16, h16⟩ := arO (hn _ ov_RX6)
  obtain ⟨a18, h18⟩ := arO (hn _ ov_RX8)
  refine ⟨fun e => if e = 0 then a0 else if e = 1 then a1 else if e = 4 then a4 else if e = 5 then a5 else if e = 11 then a11 else if e = 16 then a16 else a18, fun e he => ?_⟩
  have he' : e = 0 ∨ e = 1 ∨ e = 4 ∨ e = 5 ∨ e = 11 ∨ e = 16 ∨ e = 18 := by simpa using he
  rcases he' with rfl | rfl | rfl | rfl | rfl | rfl | rfl
  · exact h0
  · exact h1
  · exact h4
  · exact h5
  · exact h11
  · exact h16
  · exact h18
/-! texts -/
def FL0 : List Cond := flatC (Jvm.Cond.and given_1 narrow_1)
def tmS (i : Nat) : Term := .string (txO i) (txK i)
def tmV (i : Nat) : Term := .field (tmS i) "java/lang/String" "value" "[B"
def elW (i n : Nat) : List Cond := (List.range n).map fun j => Cond.eq (.elem (tmV i) (.int (Int32.ofNat j))) (.int ((txB i).getD j 0))
theorem tx_of (hs : ∀ c ∈ FL0, c.before args s = true) {A : Nat → Prop} (hA : ∀ a : Nat, a < s.heap.size → ¬ A a) (i n b : Nat) (hn : n < 2 ^ 31) (hl : txLs.getD i 0 = n) (hb : txBs.getD i [] = txB i)
    (h1 : FL0[b]? = some (.exactly (tmS i) "java/lang/String")) (h2 : FL0[b + 1]? = some (.eq (.field (tmS i) "java/lang/String" "coder" "B") (.int 0))) (h3 : FL0[b + 2]? = some (.arrayOf (tmV i) .byte)) (h4 : FL0[b + 3]? = some (.eq (.length (tmV i)) (.int (Int32.ofNat n)))) (h5 : (FL0.drop (b + 4)).take n = elW i n) :
    ∃ a v : Nat, vk_S 1 [txLs.getD i 0] [txBs.getD i []] (fun _ => a) (fun _ => v) A s s.heap ∧ (tmS i).eval args s none [] s = some (.ref a) := by
  rw [hl, hb]
  have hel : ∀ j : Nat, j < n → (Cond.eq (.elem (tmV i) (.int (Int32.ofNat j))) (.int ((txB i).getD j 0))).before args s = true := fun j hj => by
    have hm : Cond.eq (.elem (tmV i) (.int (Int32.ofNat j))) (.int ((txB i).getD j 0)) ∈ elW i n := List.mem_map.mpr ⟨j, List.mem_range.mpr hj, rfl⟩
    rw [← h5] at hm
    exact hs _ (List.mem_of_mem_drop (List.mem_of_mem_take hm))
  obtain ⟨adK, adV, q1, q2⟩ := vk_Sof (args := args) (s := s) (N := 1) (tm := fun _ => tmS i) (len := [n]) (byt := [txB i]) (A := A) (fun k hk => by
      obtain rfl : k = 0 := by omega
      exact hn) (fun _ _ => hs _ (List.mem_of_getElem? h1)) (fun _ _ => hs _ (List.mem_of_getElem? h2)) (fun _ _ => hs _ (List.mem_of_getElem? h3)) (fun k hk => by
      obtain rfl : k = 0 := by omega
      exact hs _ (List.mem_of_getElem? h4)) (fun k hk j hj => by
      obtain rfl : k = 0 := by omega
      exact hel j hj) (fun i j hi hj hij => absurd (show i = j by omega) hij) hA
  refine ⟨adK 0, adV 0, ⟨fun k hk => ?_, fun k j hk hj _ => by omega⟩, q2 0 (by omega)⟩
  obtain rfl : k = 0 := by omega
  exact q1.1 0 hk
theorem fl_0 : FL0[42]? = some (.exactly (tmS 0) "java/lang/String") ∧ FL0[43]? = some (.eq (.field (tmS 0) "java/lang/String" "coder" "B") (.int 0)) ∧ FL0[44]? = some (.arrayOf (tmV 0) .byte) ∧ FL0[45]? = some (.eq (.length (tmV 0)) (.int (Int32.ofNat 192))) ∧ (FL0.drop 46).take 192 = elW 0 192 := by decide +kernel
theorem fl_1 : FL0[238]? = some (.exactly (tmS 1) "java/lang/String") ∧ FL0[239]? = some (.eq (.field (tmS 1) "java/lang/String" "coder" "B") (.int 0)) ∧ FL0[240]? = some (.arrayOf (tmV 1) .byte) ∧ FL0[241]? = some (.eq (.length (tmV 1)) (.int (Int32.ofNat 12))) ∧ (FL0.drop 242).take 12 = elW 1 12 := by decide +kernel
theorem fl_2 : FL0[255]? = some (.exactly (tmS 2) "java/lang/String") ∧ FL0[256]? = some (.eq (.field (tmS 2) "java/lang/String" "coder" "B") (.int 0)) ∧ FL0[257]? = some (.arrayOf (tmV 2) .byte) ∧ FL0[258]? = some (.eq (.length (tmV 2)) (.int (Int32.ofNat 119))) ∧ (FL0.drop 259).take 119 = elW 2 119 := by decide +kernel
theorem fl_3 : FL0[380]? = some (.exactly (tmS 3) "java/lang/String") ∧ FL0[381]? = some (.eq (.field (tmS 3) "java/lang/String" "coder" "B") (.int 0)) ∧ FL0[382]? = some (.arrayOf (tmV 3) .byte) ∧ FL0[383]? = some (.eq (.length (tmV 3)) (.int (Int32.ofNat 12))) ∧ (FL0.drop 384).take 12 = elW 3 12 := by decide +kernel
theorem fl_4 : FL0[4]? = some (.eq (.static "java/lang/String" "COMPACT_STRINGS" "Z") (.int 1)) ∧ FL0[5]? = some (.isRef (.static "jdk/internal/util/Preconditions" "SIOOBE_FORMATTER" "Ljava/util/function/BiFunction;")) := by decide +kernel
theorem len_tx : txLs.getD 0 0 = 192 ∧ txLs.getD 1 0 = 12 ∧ txLs.getD 2 0 = 119 ∧ txLs.getD 3 0 = 12 := by decide +kernel
theorem sr_0 : Cond.stringRef (txO 0) (txK 0) (txT 0) ∈ lw_tbl := tp3 (List.mem_of_getElem? (i := 20) (by decide +kernel))
theorem sr_1 : Cond.stringRef (txO 1) (txK 1) (txT 1) ∈ lw_tbl := tp3 (List.mem_of_getElem? (i := 72) (by decide +kernel))
theorem sr_2 : Cond.stringRef (txO 2) (txK 2) (txT 2) ∈ lw_tbl := tp6 (List.mem_of_getElem? (i := 117) (by decide +kernel))
theorem sr_3 : Cond.stringRef (txO 3) (txK 3) (txT 3) ∈ lw_tbl := tp6 (List.mem_of_getElem? (i := 123) (by decide +kernel))
theorem ls_0 : Cond.laysStatic "java/lang/String" "COMPACT_STRINGS" "Z" ∈ lw_tbl := tp3 (List.mem_of_getElem? (i := 30) (by decide +kernel))
theorem ls_1 : Cond.laysStatic "jdk/internal/util/Preconditions" "SIOOBE_FORMATTER" "Ljava/util/function/BiFunction;" ∈ lw_tbl := tp3 (List.mem_of_getElem? (i := 38) (by decide +kernel))
theorem is_0 : Cond.initialized "java/lang/String" ∈ lw_tbl := tp1 (List.mem_of_getElem? (i := 12) (by decide +kernel))
theorem is_1 : Cond.initialized "jdk/internal/util/Preconditions" ∈ lw_tbl := tp1 (List.mem_of_getElem? (i := 14) (by decide +kernel))
theorem gd4 (a b c d : List Int32) : [a, b, c, d].getD 0 [] = a ∧ [a, b, c, d].getD 1 [] = b ∧ [a, b, c, d].getD 2 [] = c ∧ [a, b, c, d].getD 3 [] = d := ⟨rfl, rfl, rfl, rfl⟩
theorem by_tx : txBs.getD 0 [] = txB 0 ∧ txBs.getD 1 [] = txB 1 ∧ txBs.getD 2 [] = txB 2 ∧ txBs.getD 3 [] = txB 3 := by
  unfold txBs
  exact gd4 _ _ _ _
theorem KX_start {b L : Nat} {xs : Nat → Int32} (hts : ∀ w ∈ lw_tbl, w.before args s = true) (hX : va_X b L xs s s.heap) (hbl : b < s.heap.size) (hg : (Jvm.Cond.and given_1 narrow_1).before args s = true) : ∃ g : GW, g.1 = s.heap.size ∧ g.2.2.2.2.2.1 = b ∧ KX g (L, fun j => (xs j.toNat).toInt) s s.heap := by
  have hs : ∀ c ∈ FL0, c.before args s = true := flat_of_before _ hg
  obtain ⟨D, hD⟩ := kn_of (fun w hw => hts w (UW_tbl w hw))
  obtain ⟨f, hf⟩ := ar_of hts
  have hA : ∀ a : Nat, a < s.heap.size → ¬ (fun q : Nat => s.heap.size ≤ q) a := fun a ha => Nat.not_le.mpr ha
  obtain ⟨a0, v0, t0, r0⟩ := tx_of hs hA 0 192 42 (by decide) len_tx.1 by_tx.1 fl_0.1 fl_0.2.1 fl_0.2.2.1 fl_0.2.2.2.1 fl_0.2.2.2.2
  obtain ⟨a1, v1, t1, r1⟩ := tx_of hs hA 1 12 238 (by decide) len_tx.2.1 by_tx.2.1 fl_1.1 fl_1.2.1 fl_1.2.2.1 fl_1.2.2.2.1 fl_1.2.2.2.2
  obtain ⟨a2, v2, t2, r2⟩ := tx_of hs hA 2 119 255 (by decide) len_tx.2.2.1 by_tx.2.2.1 fl_2.1 fl_2.2.1 fl_2.2.2.1 fl_2.2.2.2.1 fl_2.2.2.2.2
  obtain ⟨a3, v3, t3, r3⟩ := tx_of hs hA 3 12 380 (by decide) len_tx.2.2.2 by_tx.2.2.2 fl_3.1 fl_3.2.1 fl_3.2.2.1 fl_3.2.2.2.1 fl_3.2.2.2.2
  obtain ⟨r, hr⟩ : ∃ r : Option Nat, va_Z "jdk/internal/util/Preconditions" "SIOOBE_FORMATTER" "Ljava/util/function/BiFunction;" (va_rf r) (fun q : Nat => s.heap.size ≤ q) s s.heap := by
    rcases va_Zqof (hts _ ls_1) (hts _ is_1) (hs _ (List.mem_of_getElem? fl_4.2)) hA with h | ⟨t, h⟩
    · exact ⟨none, h⟩
    · exact ⟨some t, h⟩
  have hx : (fun j : Nat => Int32.ofInt ((xs ((j : Int)).toNat).toInt)) = xs := funext fun j => by rw [Int.toNat_natCast, oi32]
  refine ⟨(s.heap.size, D, f, (fun i => if i = 0 then a0 else if i = 1 then a1 else if i = 2 then a2 else a3), (fun i => if i = 0 then v0 else if i = 1 then v1 else if i = 2 then v2 else v3), b, r), rfl, rfl, hD, hf, fun i hi => ?_, fun i hi => ?_, va_Zof (hts _ ls_0) (hts _ is_0) (va_eqi (hs _ (List.mem_of_getElem? fl_4.1))) hA, hr, ⟨b, rfl, ?_, hbl, hA b hbl⟩, fun j => i32_of _, fun w hw => nest_of hw (hts w (List.mem_filter.mp hw).1)⟩
  · rcases (show i = 0 ∨ i = 1 ∨ i = 2 ∨ i = 3 by omega) with rfl | rfl | rfl | rfl
    · exact t0
    · exact t1
    · exact t2
    · exact t3
  · rcases (show i = 0 ∨ i = 1 ∨ i = 2 ∨ i = 3 by omega) with rfl | rfl | rfl | rfl
    · exact vk_R.of (hts _ sr_0) r0
    · exact vk_R.of (hts _ sr_1) r1
    · exact vk_R.of (hts _ sr_2) r2
    · exact vk_R.of (hts _ sr_3) r3
  · show va_X b L (fun j : Nat => Int32.ofInt ((xs ((j : Int)).toNat).toInt)) s s.heap
    rw [hx]; exact hX
end KNOWN

/-! THE REFERENCE: trays, images, the tape -/
theorem RY.putT {μ μ' : Mem} {A : StT} {t : Int} {T : TrayT} (h : RY μ A) (ht : 0 ≤ t ∧ t < 4) (hf : ∀ b j, (b = 183 → j = 5 ∨ j = 13 ∨ j = 14 ∨ j = 19) → (b ≤ 186 ∨ 212 ≤ b) → μ' b j = μ b j) (h9 : ∀ u, u ≠ t → μ' 209 u = μ 209 u ∧ μ' 210 u = μ 210 u) (h11 : ∀ j, (j < 40 * t ∨ 40 * t + 40 ≤ j) → μ' 211 j = μ 211 j) (hT : MT μ' t T) : RY μ' (setT A t T) := by
  obtain ⟨k1, k2, k3, k4, k5, k6, k7, k8, k9, k10, k11⟩ := h
  have e184 : μ' 184 = μ 184 := funext (fun j => hf _ _ (by omega) (by omega))
  refine ⟨by rw [hf _ _ (by omega) (by omega)]; exact k1, fun i i0 i1 => by rw [hf _ _ (by omega) (by omega)]; exact k2 i i0 i1, by rw [hf _ _ (by omega) (by omega)]; exact k3, by rw [hf _ _ (by omega) (by omega)]; exact k4, by rw [hf _ _ (by omega) (by omega)]; exact k5, by rw [e184]; exact k6, by rw [e184]; exact k7, by rw [e184]; exact k8, fun i i0 i1 => by rw [e184, hf 185 _ (by omega) (by omega)]; exact k9 i i0 i1, fun u u0 u1 => ?_, k11⟩
  by_cases q : u = t
  · have e : aTray (setT A t T) u = T := if_pos q
    rw [e, q]; exact hT
  · have e : aTray (setT A t T) u = aTray A u := if_neg q
    rw [e]
    have g := h9 u q
    refine (k10 u u0 u1).imp (fun ⟨a1, a2⟩ => ⟨a1, by rw [g.1]; exact a2⟩) (fun ⟨a1, a2, a3, a4, a5, a6⟩ => ⟨a1, by rw [g.1]; exact a2, by rw [g.2]; exact a3, a4, a5, fun i i0 i1 => by rw [h11 _ (by omega)]; exact a6 i i0 i1⟩)
theorem cm_numbers {d : Nat} {sc : SC} {μ : Mem} {A : StT} {t s n : Int} (hd : 3 ≤ d) (h : RY μ A) : CTi mX10_numbers d sc [(2, 183), (0, t), (0, s), (0, n)] μ (AM μ (numbersA A t s n) (fun x => x = numbersS t s n)) := by
  refine CTi_of mp_X10_numbers (Nat.le_of_ble_eq_true rfl) ?_
  refine s_X10_numbers_0 ?_
  intro μ1 e1
  have f1 := fw0 e1
  have r1 := h.same f1
  have bad : ¬ ((0 ≤ t ∧ t < 4) ∧ 0 ≤ s ∧ s ≤ 3) → AM μ (numbersA A t s n) (fun x => x = numbersS t s n) (-2) μ1 := fun z => AM.fm (by unfold numbersA; rw [if_neg (fun y => z y.1)]; exact r1) f1.m (if_neg z).symm
  refine cb_within (by omega) (fun z => ⟨fun _ => bad (fun y => by omega), fun q => absurd rfl q⟩) (fun z => ⟨fun q => absurd q (by decide), fun _ => ?_⟩)
  refine cb_within (by omega) (fun z2 => ⟨fun q => absurd rfl q, fun _ => bad (fun y => z2 y.2)⟩) (fun z2 => ⟨fun _ => ?_, fun q => absurd q (by decide)⟩)
  have ht : 0 ≤ t ∧ t < 4 := by omega
  have hin : (0 ≤ t ∧ t < 4) ∧ 0 ≤ s ∧ s ≤ 3 := ⟨ht, z2⟩
  refine cb_within (by omega) (fun z3 => ⟨fun q => absurd rfl q, fun _ => AM.fm (by unfold numbersA; rw [if_neg (fun y => z3 y.2)]; exact r1) f1.m (by show _ = _; unfold numbersS; rw [if_pos hin, if_neg z3])⟩) (fun z3 => ⟨fun _ => ⟨ht, ?_⟩, fun q => absurd q (by decide)⟩)
  intro μ12 e12
  refine ⟨ht, ?_⟩
  intro μ14 e14
  have key : ∀ (r i : Nat) (μ2 : Mem), (i : Int) + r = n → (∀ b j, (b = 211 → j < 40 * t ∨ 40 * t + 40 ≤ j) → μ2 b j = μ14 b j) → (∀ j : Int, 0 ≤ j → j < i → μ2 211 (40 * t + j) = 0) → WQ mX10_numbers d sc (ZI sc (AM μ (numbersA A t s n) (fun x => x = numbersS t s n))) 64 [(2, 183), (0, t), (9, 0), (0, n), (0, (i : Int))] [] μ2 := by
    intro r
    induction r with
    | zero =>
      intro i μ2 hi hf hz
      refine s_X10_numbers_64 ⟨fun _ => AM.fm ?_ ?_ ?_, fun y => by omega⟩
      · have eA : numbersA A t s n = setT A t (1, s, n, fun _ => 0) := if_pos ⟨hin, z3⟩
        rw [eA]
        refine r1.putT ht (fun b j q1 q2 => by rw [hf b j (by omega), e14, mup_ap, if_neg (fun y => by omega), e12, mup_ap, if_neg (fun y => by omega)]) (fun u hu => ⟨?_, ?_⟩) (fun j hj => ?_) (Or.inr ⟨rfl, ?_, ?_, z2, z3, fun j j0 j1 => hz j j0 (by have : j < n := j1; omega)⟩)
        · rw [hf _ _ (by omega), e14, mup_ap, if_neg (fun y => by omega), e12, mup_ap, if_neg (fun y => hu y.2)]
        · rw [hf _ _ (by omega), e14, mup_ap, if_neg (fun y => hu y.2), e12, mup_ap, if_neg (fun y => by omega)]
        · rw [hf _ _ (fun _ => hj), e14, mup_ap, if_neg (fun y => by omega), e12, mup_ap, if_neg (fun y => by omega)]
        · rw [hf _ _ (by omega), e14, mup_ap, if_neg (fun y => by omega), e12, mup_at]; rfl
        · rw [hf _ _ (by omega), e14, mup_at]; rfl
      · exact f1.m.tr (fun b j q => by rw [hf b j (by omega), e14, mup_ap, if_neg (fun y => by omega), e12, mup_ap, if_neg (fun y => by omega)])
      · show _ = _
        unfold numbersS; rw [if_pos hin, if_pos z3]
    | succ r ih =>
      intro i μ2 hi hf hz
      refine s_X10_numbers_64 ⟨fun y => by omega, fun _ => ⟨by omega, by omega, by omega, ?_⟩⟩
      intro μ5 e5
      refine ⟨by omega, ?_⟩
      rintro _ rfl
      refine ih (i + 1) μ5 (by omega) (fun b j q => by rw [e5, mup_ap, if_neg (fun y => by have := q y.1; omega)]; exact hf b j q) (fun j j0 j1 => ?_)
      rw [e5, mup_ap]
      by_cases q : j = i
      · rw [if_pos ⟨rfl, by omega⟩]
      · rw [if_neg (fun y => by omega)]; exact hz j j0 (by omega)
  exact key n.toNat 0 μ14 (by omega) (fun _ _ _ => rfl) (fun j j0 j1 => by omega)
theorem ct_cut {d : Nat} {sc : SC} {μ : Mem} {v s : Int} : CTl mX10_cut d sc [(1, v), (0, s)] μ (fun x μ' => x = cutS s v ∧ μ' = μ) := by
  refine CTl_of mp_X10_cut (Nat.le_of_ble_eq_true rfl) ?_
  unfold cutS
  refine s_X10_cut_0 ⟨fun z => ⟨fun z1 => ⟨fun z2 => ⟨?_, rfl⟩, fun z2 => ⟨?_, rfl⟩⟩, fun z1 => ⟨?_, rfl⟩⟩, fun z => ⟨?_, rfl⟩⟩
  · rw [if_neg z, if_neg z1, if_neg z2]
  · rw [if_neg z, if_neg z1, if_pos z2]
  · rw [if_neg z, if_pos z1]
  · rw [if_pos z]
theorem cm_write {d : Nat} {sc : SC} {μ : Mem} {A : StT} {t i v : Int} (hd : 3 ≤ d) (h : RY μ A) : CTl mX10_write d sc [(2, 183), (0, t), (0, i), (1, v)] μ (AM μ (writeA A t i v) (fun x => x = writeS A t i v)) := by
  refine CTl_of mp_X10_write (Nat.le_of_ble_eq_true rfl) ?_
  refine s_X10_write_0 ?_
  intro μ1 e1
  have f1 := fw0 e1
  have r1 := h.same f1
  have hA : ¬ ((0 ≤ t ∧ t < 4) ∧ tThere (aTray A t) ≠ 0 ∧ 0 ≤ i ∧ i < tN (aTray A t)) → RY μ1 (writeA A t i v) := fun z => by unfold writeA; rw [if_neg z]; exact r1
  refine cb_noTray (by omega) r1 (fun z => ⟨fun q => absurd q (by decide), fun _ => AM.fm (hA (fun y => z y.1)) f1.m (if_neg z).symm⟩) (fun ht z => ⟨fun q => absurd q (by decide), fun _ => AM.fm (hA (fun y => y.2.1 z)) f1.m ?_⟩) (fun ht hT => ⟨fun _ => ⟨ht, ?_⟩, fun q => absurd rfl q⟩)
  · show _ = _
    unfold writeS; rw [if_pos ht, if_pos z]
  obtain ⟨m1, m2, m3, m4, m5⟩ := (r1.tray t ht.1 ht.2).in hT
  rw [m2]
  refine ⟨by omega, cb_within (by omega) (fun z => ⟨fun q => absurd rfl q, fun _ => AM.fm (hA (fun y => by omega)) f1.m ?_⟩) (fun z => ⟨fun _ => ⟨by omega, by omega, ht, ?_⟩, fun q => absurd q (by decide)⟩)⟩
  · show _ = _
    unfold writeS; rw [if_pos ht, if_neg hT, if_neg (by omega)]
  rw [m1]
  refine byL (d' := 0) (by omega) ct_cut ?_
  rintro x z0 ⟨hx, ez⟩
  rw [ez]
  clear ez z0
  refine ⟨by omega, ?_⟩
  intro μ16 e16
  have g : ∀ b j, (b = 211 → j ≠ 40 * t + i) → μ16 b j = μ1 b j := fun b j q => by rw [e16, mup_ap, if_neg (fun y => q y.1 y.2)]
  refine ⟨by omega, by omega, by omega, AM.fm ?_ (f1.m.tr (fun b j q => g b j (by omega))) ?_⟩
  · have eA : writeA A t i v = setT A t (putN (aTray A t) i (cutS (tSort (aTray A t)) v)) := if_pos ⟨ht, hT, by omega, by omega⟩
    rw [eA]
    refine r1.putT ht (fun b j _ q2 => g b j (by omega)) (fun u _ => ⟨g _ _ (by omega), g _ _ (by omega)⟩) (fun j hj => g _ _ (fun _ => by omega)) (Or.inr ⟨rfl, (g _ _ (by omega)).trans m1, (g _ _ (by omega)).trans m2, m3, m4, fun k k0 k1 => ?_⟩)
    have k2 : k < tN (aTray A t) := k1
    show μ16 211 (40 * t + k) = if k = i then cutS (tSort (aTray A t)) v else tNum (aTray A t) k
    by_cases q : k = i
    · rw [if_pos q, q, e16, mup_at, hx]
    · rw [if_neg q, g _ _ (fun _ => by omega)]; exact m5 k k0 k2
  · show _ = _
    unfold writeS; rw [if_pos ht, if_neg hT, if_pos (by omega), e16, mup_at, hx]
theorem cm_lists {d : Nat} {sc : SC} {μ : Mem} {A : StT} {t p : Int} (hd : 6 ≤ d) (h : RY μ A) : CTi mX10_lists d sc [(2, 183), (0, t), (0, p)] μ (AM μ (listsA A t p) (fun x => x = listsS A t p)) := by
  refine CTi_of mp_X10_lists (Nat.le_of_ble_eq_true rfl) ?_
  refine s_X10_lists_0 ?_
  intro μ1 e1
  have f1 := fw0 e1
  have r1 := h.same f1
  have hA : ¬ (((0 ≤ t ∧ t < 4) ∧ ipS A p) ∧ tThere (aTray A t) ≠ 0) → RY μ1 (listsA A t p) := fun z => by unfold listsA; rw [if_neg z]; exact r1
  have bad : ¬ ((0 ≤ t ∧ t < 4) ∧ ipS A p) → AM μ (listsA A t p) (fun x => x = listsS A t p) (-2) μ1 := fun z => AM.fm (hA (fun y => z y.1)) f1.m (if_neg z).symm
  refine cb_within (by omega) (fun z => ⟨fun _ => bad (fun y => by omega), fun q => absurd rfl q⟩) (fun z => ⟨fun q => absurd q (by decide), fun _ => ?_⟩)
  refine cb_isPerson (by omega) r1.np r1.n6 (fun zp => ⟨fun q => absurd rfl q, fun _ => bad (fun y => zp y.2)⟩) (fun zp => ⟨fun _ => ?_, fun q => absurd q (by decide)⟩)
  have ht : 0 ≤ t ∧ t < 4 := by omega
  have hin : (0 ≤ t ∧ t < 4) ∧ ipS A p := ⟨ht, zp⟩
  refine cb_noTray (by omega) r1 (fun y => absurd ht y) (fun _ y => ⟨fun q => absurd q (by decide), fun _ => AM.fm (hA (fun w => w.2 y)) f1.m ?_⟩) (fun _ hT => ⟨fun _ => ?_, fun q => absurd rfl q⟩)
  · show _ = _
    unfold listsS; rw [if_pos hin, if_pos y]
  refine ca_lays (by omega) r1 (fun μ12 f12 r12 G12 M12 => ?_)
  have hl := h.dl
  refine cb_hiccupsOf (by omega) M12.h (by omega) ?_
  obtain ⟨m1, m2, m3, m4, m5⟩ := (r12.tray t ht.1 ht.2).in hT
  have hml := minsL_len (DH A) p
  have hmb := hicN_b (DH A) p
  have hN : listsN A t p = min (hicN (DH A) p) (tN (aTray A t)) := by unfold listsN; rw [hml]
  have key : ∀ (r i : Nat) (μ2 : Mem), (i : Int) + r = listsN A t p → (∀ b j, (b = 211 → j < 40 * t ∨ 40 * t + 40 ≤ j) → μ2 b j = μ12 b j) → (∀ j : Int, 0 ≤ j → j < 40 → μ2 211 (40 * t + j) = if j < i then mAt (minsL (DH A) p) j else μ12 211 (40 * t + j)) → WQ mX10_lists d sc (ZI sc (AM μ (listsA A t p) (fun x => x = listsS A t p))) 79 [(2, 183), (0, t), (0, p), (9, 0), (9, 0), (0, listsN A t p), (0, (i : Int))] [] μ2 := by
    intro r
    induction r with
    | zero =>
      intro i μ2 hi hf hz
      refine s_X10_lists_79 ⟨fun _ => AM.fm ?_ ?_ ?_, fun y => by omega⟩
      · have eA : listsA A t p = setT A t (listS (aTray A t) (minsL (DH A) p) (listsN A t p)) := if_pos ⟨hin, hT⟩
        rw [eA]
        refine r12.putT ht (fun b j _ q2 => hf b j (by omega)) (fun u _ => ⟨hf _ _ (by omega), hf _ _ (by omega)⟩) (fun j hj => hf _ _ (fun _ => hj)) (Or.inr ⟨rfl, (hf _ _ (by omega)).trans m1, (hf _ _ (by omega)).trans m2, m3, m4, fun k k0 k1 => ?_⟩)
        · have k2 : k < tN (aTray A t) := k1
          rw [hz k k0 (by omega), show (i : Int) = listsN A t p by omega]
          show _ = if 0 ≤ k ∧ k < listsN A t p then mAt (minsL (DH A) p) k else tNum (aTray A t) k
          by_cases q : k < listsN A t p
          · rw [if_pos q, if_pos ⟨k0, q⟩]
          · rw [if_neg q, if_neg (fun y => q y.2)]; exact m5 k k0 k2
      · exact (f1.m.tr f12.m).tr (fun b j q => hf b j (by omega))
      · show _ = _
        unfold listsS; rw [if_pos hin, if_neg hT]
    | succ r ih =>
      intro i μ2 hi hf hz
      have hH2 : HM μ2 (DH A) := M12.h.same (hf _ _ (by omega)) (fun b j _ _ => hf b j (by omega))
      refine s_X10_lists_79 ⟨fun y => by omega, fun _ => ⟨by omega, by omega, cb_minuteAt (by omega) hH2 (by omega) (by omega) ⟨by omega, ?_⟩⟩⟩
      intro μ7 e7
      refine ⟨by omega, ?_⟩
      rintro _ rfl
      refine ih (i + 1) μ7 (by omega) (fun b j q => by rw [e7, mup_ap, if_neg (fun y => by have := q y.1; omega)]; exact hf b j q) (fun j j0 j1 => ?_)
      rw [e7, mup_ap]
      by_cases q : j = i
      · rw [if_pos ⟨rfl, by omega⟩, if_pos (by omega), q]
      · rw [if_neg (fun y => by omega), hz j j0 j1]
        by_cases y : j < i
        · rw [if_pos y, if_pos (by omega)]
        · rw [if_neg y, if_neg (by omega)]
  have go := key (listsN A t p).toNat 0 μ12 (by omega) (fun _ _ _ => rfl) (fun j j0 _ => by rw [if_neg (by omega)])
  refine ⟨ht, ?_⟩
  rw [m2]
  refine ⟨fun z => ⟨ht, ?_⟩, fun z => ?_⟩
  · rintro _ rfl
    rw [← show listsN A t p = tN (aTray A t) by omega]
    exact go
  · rw [← show listsN A t p = hicN (DH A) p by omega]
    exact go
theorem cm_image {d : Nat} {sc : SC} {μ : Mem} {A : StT} {i : Int} (hd : 3 ≤ d) (h : RY μ A) : CTi mX10_image d sc [(2, 183), (0, i)] μ (AM μ (imageA A i) (fun x => x = imageS i)) := by
  refine CTi_of mp_X10_image (Nat.le_of_ble_eq_true rfl) ?_
  refine s_X10_image_0 ?_
  intro μ1 e1
  have f1 := fw0 e1
  have r1 := h.same f1
  have h6 := h.n6
  have h8 := h.wfs.2.2.1
  refine cb_within (by omega) (fun z => ⟨fun q => absurd rfl q, fun _ => AM.fm (by unfold imageA; rw [if_neg (by omega)]; exact r1) f1.m (if_neg (by omega)).symm⟩) (fun z => ⟨fun _ => ?_, fun q => absurd q (by decide)⟩)
  have hi : 0 ≤ i ∧ i < 2 := by omega
  have key : ∀ (r k : Nat) (μ2 : Mem), k + r = 1373 → (∀ b j, (b = 184 → j < 1373 * (i + 1) ∨ 1373 * (i + 1) + 1373 ≤ j) → μ2 b j = μ1 b j) → (∀ j : Int, 0 ≤ j → j < k → μ2 184 (1373 * (i + 1) + j) = μ1 184 j) → WQ mX10_image d sc (ZI sc (AM μ (imageA A i) (fun x => x = imageS i))) 20 [(2, 183), (0, i), (0, (k : Int))] [] μ2 := by
    intro r
    induction r with
    | zero =>
      intro k μ2 hk hf hz
      refine s_X10_image_20 ⟨fun _ => ⟨hi, ?_⟩, fun y => by omega⟩
      intro μ3 e3
      have g : ∀ b j, (b = 185 → j ≠ i) → (b = 184 → j < 1373 * (i + 1) ∨ 1373 * (i + 1) + 1373 ≤ j) → μ3 b j = μ1 b j := fun b j q1 q2 => by rw [e3, mup_ap, if_neg (fun y => q1 y.1 y.2)]; exact hf b j q2
      have gz : ∀ j : Int, 0 ≤ j → j < 1373 → μ3 184 (1373 * (i + 1) + j) = μ1 184 j := fun j j0 j1 => by rw [e3, mup_ap, if_neg (fun y => by omega)]; exact hz j j0 (by omega)
      have gl : ∀ j : Int, j < 1373 → μ3 184 j = μ1 184 j := fun j q => g _ _ (by omega) (by omega)
      refine AM.fm ?_ (f1.m.tr (fun b j q => g b j (by omega) (by omega))) (if_pos hi).symm
      have eA : imageA A i = setI A i := if_pos hi
      rw [eA]
      obtain ⟨k1, k2, k3, k4, k5, k6, k7, k8, k9, k10, k11⟩ := r1
      refine ⟨by rw [g _ _ (by omega) (by omega)]; exact k1, fun j j0 j1 => by rw [g _ _ (by omega) (by omega)]; exact k2 j j0 j1, by rw [g _ _ (by omega) (by omega)]; exact k3, by rw [g _ _ (by omega) (by omega)]; exact k4, by rw [g _ _ (by omega) (by omega)]; exact k5, k6.congr (fun j q => gl j (by omega)) h6.2, k7.congr (fun j j0 j1 => gl _ (by omega)) h8 h6.2, ?_, fun u u0 u1 => ?_, fun u u0 u1 => (k10 u u0 u1).congr (fun b j _ _ => g b j (by omega) (by omega)), ?_⟩
      · obtain ⟨l1, l2, l3⟩ := k8
        exact ⟨(gl _ (by omega)).trans l1, l2, fun j hj => (l3 j hj).congr (fun q q0 q1 => gl _ (by have : j < (aPast A).length := hj; omega)) (k11.2.2.2.2.2.1 _ (List.getElem_mem hj)).2.2.1 h6.2⟩
      · by_cases q : u = i
        · have e : aImg (setI A i) u = (1, aH A, aP A) := if_pos q
          rw [e, q]
          refine ⟨by rw [e3, mup_at], fun _ => ⟨k6.congr (fun j y => gz j (by omega) (by omega)) h6.2, k7.congr (fun j j0 j1 => ?_) h8 h6.2⟩⟩
          show μ3 184 (1373 * (i + 1) + 31 + j) = μ1 184 (31 + j)
          rw [show 1373 * (i + 1) + 31 + j = 1373 * (i + 1) + (31 + j) by omega]
          exact gz (31 + j) (by omega) (by omega)
        · have e : aImg (setI A i) u = aImg A u := if_neg q
          rw [e]
          obtain ⟨p1, p2⟩ := k9 u u0 u1
          have hwi := k11.2.2.2.2.2.2 u u0 u1
          refine ⟨by rw [g _ _ (by omega) (by omega)]; exact p1, fun y => ⟨(p2 y).1.congr (fun j w => g _ _ (by omega) (by omega)) (hwi.2 y).1.2.2.1.2, (p2 y).2.congr (fun j j0 j1 => g _ _ (by omega) (by omega)) (hwi.2 y).2.2.2.1 (hwi.2 y).1.2.2.1.2⟩⟩
      · obtain ⟨w1, w2, w3, w4, w5, w6, w7⟩ := k11
        refine ⟨w1, w2, w3, w4, w5, w6, fun u u0 u1 => ?_⟩
        by_cases q : u = i
        · have e : aImg (setI A i) u = (1, aH A, aP A) := if_pos q
          rw [e]; exact ⟨Or.inr rfl, fun _ => ⟨w4, w5⟩⟩
        · have e : aImg (setI A i) u = aImg A u := if_neg q
          rw [e]; exact w7 u u0 u1
    | succ r ih =>
      intro k μ2 hk hf hz
      refine s_X10_image_20 ⟨fun y => by omega, fun _ => ⟨by omega, by omega, by omega, by omega, by omega, ?_⟩⟩
      intro μ9 e9
      refine ⟨by omega, ?_⟩
      rintro _ rfl
      refine ih (k + 1) μ9 (by omega) (fun b j q => by rw [e9, mup_ap, if_neg (fun y => by have := q y.1; omega)]; exact hf b j q) (fun j j0 j1 => ?_)
      rw [e9, mup_ap]
      by_cases q : j = k
      · rw [if_pos ⟨rfl, by omega⟩, q]; exact hf _ _ (by omega)
      · rw [if_neg (fun y => by omega)]; exact hz j j0 (by omega)
  exact key 1373 0 μ1 rfl (fun _ _ _ => rfl) (fun j j0 j1 => by omega)
theorem cm_restore {d : Nat} {sc : SC} {μ : Mem} {A : StT} {i : Int} (hd : 3 ≤ d) (h : RY μ A) : CTi mX10_restore d sc [(2, 183), (0, i)] μ (AM μ (restoreA A i) (fun x => x = restoreS A i)) := by
  refine CTi_of mp_X10_restore (Nat.le_of_ble_eq_true rfl) ?_
  refine s_X10_restore_0 ?_
  intro μ1 e1
  have f1 := fw0 e1
  have r1 := h.same f1
  have hA : ¬ ((0 ≤ i ∧ i < 2) ∧ (aImg A i).1 ≠ 0) → RY μ1 (restoreA A i) := fun z => by unfold restoreA; rw [if_neg z]; exact r1
  refine cb_within (by omega) (fun z => ⟨fun q => absurd rfl q, fun _ => AM.fm (hA (fun y => by omega)) f1.m (if_neg (by omega)).symm⟩) (fun z => ⟨fun _ => ?_, fun q => absurd q (by decide)⟩)
  have hi : 0 ≤ i ∧ i < 2 := by omega
  have him := r1.2.2.2.2.2.2.2.2.1 i hi.1 hi.2
  rw [him.1]
  refine ⟨hi, fun y => ?_, fun y => AM.fm (hA (fun w => w.2 y)) f1.m ?_⟩
  rotate_left
  · show _ = _
    unfold restoreS; rw [if_pos hi, if_pos y]
  have hwi := r1.wf.2.2.2.2.2.2 i hi.1 hi.2
  have hone : (aImg A i).1 = 1 := by rcases hwi.1 with w | w <;> omega
  obtain ⟨i1, i2⟩ := him.2 hone
  obtain ⟨v1, v2⟩ := hwi.2 hone
  have key : ∀ (r k : Nat) (μ2 : Mem), k + r = 1373 → (∀ b j, (b = 184 → 1373 ≤ j) → μ2 b j = μ1 b j) → (∀ j : Int, 0 ≤ j → j < k → μ2 184 j = μ1 184 (1373 * (i + 1) + j)) → WQ mX10_restore d sc (ZI sc (AM μ (restoreA A i) (fun x => x = restoreS A i))) 32 [(2, 183), (0, i), (0, (k : Int))] [] μ2 := by
    intro r
    induction r with
    | zero =>
      intro k μ2 hk hf hz
      refine s_X10_restore_32 ⟨fun _ => ?_, fun y => by omega⟩
      intro μ3 e3
      have g : ∀ b j, (b = 184 → 1373 ≤ j) → μ3 b j = μ1 b j := fun b j q => by rw [e3, mup_ap, if_neg (fun w => by have := q w.1; omega)]; exact hf b j q
      have gz : ∀ j : Int, 0 ≤ j → j < 1373 → j ≠ 71 → μ3 184 j = μ1 184 (1373 * (i + 1) + j) := fun j j0 j1 j2 => by rw [e3, mup_ap, if_neg (fun w => j2 w.2)]; exact hz j j0 (by omega)
      refine AM.fm ?_ (f1.m.tr (fun b j q => g b j (by omega))) ?_
      · have eA : restoreA A i = setHP A (aImg A i).2.1 (aImg A i).2.2 := if_pos ⟨hi, y⟩
        rw [eA]
        obtain ⟨k1, k2, k3, k4, k5, k6, k7, k8, k9, k10, k11⟩ := r1
        refine ⟨by rw [g _ _ (by omega)]; exact k1, fun j j0 j1 => by rw [g _ _ (by omega)]; exact k2 j j0 j1, by rw [g _ _ (by omega)]; exact k3, by rw [g _ _ (by omega)]; exact k4, by rw [g _ _ (by omega)]; exact k5, i1.congr (fun j q => gz j (by omega) (by omega) (by omega)) v1.2.2.1.2, i2.congr (fun j j0 j1 => ?_) v2.2.2.1 v1.2.2.1.2, ⟨by rw [e3, mup_at]; rfl, by show 0 ≤ 10; decide, fun j hj => absurd hj (Nat.not_lt_zero _)⟩, fun u u0 u1 => ?_, fun u u0 u1 => (k10 u u0 u1).congr (fun b j _ _ => g b j (by omega)), ?_⟩
        · show μ3 184 (31 + j) = μ1 184 (1373 * (i + 1) + 31 + j)
          rw [gz (31 + j) (by omega) (by omega) (by omega)]
          congr 1; omega
        · obtain ⟨p1, p2⟩ := k9 u u0 u1
          have hwu := k11.2.2.2.2.2.2 u u0 u1
          refine ⟨by rw [g _ _ (by omega)]; exact p1, fun y => ⟨(p2 y).1.congr (fun j w => g _ _ (by omega)) (hwu.2 y).1.2.2.1.2, (p2 y).2.congr (fun j j0 j1 => g _ _ (by omega)) (hwu.2 y).2.2.2.1 (hwu.2 y).1.2.2.1.2⟩⟩
        · obtain ⟨w1, w2, w3, w4, w5, w6, w7⟩ := k11
          exact ⟨w1, w2, w3, v1, v2, fun Q hQ => absurd hQ (List.not_mem_nil), w7⟩
      · show _ = _
        unfold restoreS; rw [if_pos hi, if_neg y]
    | succ r ih =>
      intro k μ2 hk hf hz
      refine s_X10_restore_32 ⟨fun y => by omega, fun _ => ⟨by omega, by omega, by omega, by omega, by omega, ?_⟩⟩
      intro μ9 e9
      refine ⟨by omega, ?_⟩
      rintro _ rfl
      refine ih (k + 1) μ9 (by omega) (fun b j q => by rw [e9, mup_ap, if_neg (fun w => by have := q w.1; omega)]; exact hf b j q) (fun j j0 j1 => ?_)
      rw [e9, mup_ap]
      by_cases q : j = k
      · rw [if_pos ⟨rfl, q⟩, q]; exact hf _ _ (by omega)
      · rw [if_neg (fun w => q w.2)]; exact hz j j0 (by omega)
  exact key 1373 0 μ1 rfl (fun _ _ _ => rfl) (fun j j0 j1 => by omega)
theorem byte_m {v : Int} (hv : i32 v) (k : Nat) : iAnd (iShr v (24 - 8 * ((k : Int) % 4))) 255 = byteS v ((k : Int) % 4) := by
  rw [iAnd255]
  have : (k : Int) % 4 = 0 ∨ (k : Int) % 4 = 1 ∨ (k : Int) % 4 = 2 ∨ (k : Int) % 4 = 3 := by omega
  unfold byteS
  rcases this with e | e | e | e
  · rw [e, if_pos rfl, show (24 : Int) - 8 * 0 = ((24 : Nat) : Int) by decide, iShrK v hv 24 (by decide)]; rfl
  · rw [e, if_neg (by decide), if_pos rfl, show (24 : Int) - 8 * 1 = ((16 : Nat) : Int) by decide, iShrK v hv 16 (by decide)]; rfl
  · rw [e, if_neg (by decide), if_neg (by decide), if_pos rfl, show (24 : Int) - 8 * 2 = ((8 : Nat) : Int) by decide, iShrK v hv 8 (by decide)]; rfl
  · rw [e, if_neg (by decide), if_neg (by decide), if_neg (by decide), show (24 : Int) - 8 * 3 = ((0 : Nat) : Int) by decide, iShrK v hv 0 (by decide)]; rfl
theorem cm_feed {d : Nat} {sc : SC} {μ : Mem} {A : StT} {a b c e g : Int} (hd : 1 ≤ d) (ha : i32 a) (hb : i32 b) (hc : i32 c) (he : i32 e) (hg : i32 g) (h : RY μ A) : CTi mX10_feed d sc [(2, 183), (0, a), (0, b), (0, c), (0, e), (0, g)] μ (AM μ (feedA A a b c e g) (fun x => x = feedS A)) := by
  have hwt := h.wf.1
  refine CTi_of mp_X10_feed (Nat.le_of_ble_eq_true rfl) ?_
  refine s_X10_feed_0 ?_
  intro μ1 e1
  have f1 := fw0 e1
  have r1 := h.same f1
  rw [r1.1]
  refine ⟨by omega, fun z => ?_, fun z => AM.fm (by unfold feedA; rw [if_neg (by omega)]; exact r1) f1.m (by show _ = _; unfold feedS; rw [if_neg (by omega)])⟩
  generalize hf : argS a b c e g = f
  have hfi : ∀ i, i32 (f i) := fun i => by rw [← hf]; unfold argS; split <;> (try assumption); split <;> (try assumption); split <;> (try assumption); split <;> assumption
  have key : ∀ (r k : Nat) (μ2 : Mem), k + r = 20 → μ2 183 5 = aTaped A + k → (∀ b' j, (b' = 183 → j ≠ 5) → (b' = 186 → j < aTaped A) → μ2 b' j = μ1 b' j) → (∀ j : Int, 0 ≤ j → j < k → μ2 186 (aTaped A + j) = byteS (f (j / 4)) (j % 4)) → WQ mX10_feed d sc (ZI sc (AM μ (feedA A a b c e g) (fun x => x = feedS A))) 24 [(2, 183), (0, a), (0, b), (0, c), (0, e), (0, g), (0, (k : Int)), (9, 0)] [] μ2 := by
    intro r
    induction r with
    | zero =>
      intro k μ2 hk h5 hf2 hz
      refine s_X10_feed_24 ⟨fun _ => AM.fm ?_ (f1.m.tr (fun b' j q => hf2 b' j (by omega) (by omega))) ?_, fun y => by omega⟩
      · have eF : feedA A a b c e g = feedT A a b c e g := by unfold feedA; rw [if_pos (by omega)]
        rw [eF]
        obtain ⟨k1, k2, k3, k4, k5, k6, k7, k8, k9, k10, k11⟩ := r1
        have e184 : μ2 184 = μ1 184 := funext (fun j => hf2 _ _ (by omega) (by omega))
        refine ⟨?_, fun j j0 j1 => ?_, by rw [hf2 _ _ (by omega) (by omega)]; exact k3, by rw [hf2 _ _ (by omega) (by omega)]; exact k4, by rw [hf2 _ _ (by omega) (by omega)]; exact k5, by rw [e184]; exact k6, by rw [e184]; exact k7, by rw [e184]; exact k8, fun u u0 u1 => by rw [e184, hf2 185 _ (by omega) (by omega)]; exact k9 u u0 u1, fun u u0 u1 => (k10 u u0 u1).congr (fun b' j _ _ => hf2 b' j (by omega) (by omega)), ?_⟩
        · rw [h5]; show aTaped A + (k : Int) = aTaped A + 20; omega
        · have hj : j < aTaped A + 20 := j1
          show μ2 186 j = if j < aTaped A then aTape A j else byteS (argS a b c e g ((j - aTaped A) / 4)) ((j - aTaped A) % 4)
          by_cases y : j < aTaped A
          · rw [if_pos y, hf2 _ _ (by omega) (fun _ => y)]; exact k2 j j0 y
          · rw [if_neg y, hf]
            have := hz (j - aTaped A) (by omega) (by omega)
            rw [show aTaped A + (j - aTaped A) = j by omega] at this
            exact this
        · obtain ⟨w1, w2, w3⟩ := k11
          refine ⟨⟨by show 0 ≤ aTaped A + 20; omega, by show aTaped A + 20 ≤ 900; omega⟩, fun i i0 i1 => ?_, w3⟩
          show 0 ≤ (if i < aTaped A then aTape A i else byteS (argS a b c e g ((i - aTaped A) / 4)) ((i - aTaped A) % 4)) ∧ (if i < aTaped A then aTape A i else byteS (argS a b c e g ((i - aTaped A) / 4)) ((i - aTaped A) % 4)) ≤ 255
          by_cases y : i < aTaped A
          · rw [if_pos y]; exact w2 i i0 y
          · rw [if_neg y]; exact byteS_b _ _
      · show _ = _
        unfold feedS; rw [if_pos (by omega), h5]; omega
    | succ r ih =>
      intro k μ2 hk h5 hf2 hz
      have step : ∀ v : Int, v = f ((k : Int) / 4) → WQ mX10_feed d sc (ZI sc (AM μ (feedA A a b c e g) (fun x => x = feedS A))) 77 [(2, 183), (0, a), (0, b), (0, c), (0, e), (0, g), (0, (k : Int)), (9, 0)] [(0, v)] μ2 := fun v hv => by
        refine s_X10_feed_77 ⟨by omega, by omega, by omega, by omega, ?_⟩
        intro μ5 e5
        have e55 : μ5 183 5 = μ2 183 5 := by rw [e5, mup_ap, if_neg (fun y => by omega)]
        refine ⟨by omega, ?_⟩
        intro μ7 e7
        refine ⟨by omega, ?_⟩
        rintro _ rfl
        refine ih (k + 1) μ7 (by omega) (by rw [e7, mup_at]; omega) (fun b' j q1 q2 => by rw [e7, mup_ap, if_neg (fun y => q1 y.1 y.2), e5, mup_ap, if_neg (fun y => by have := q2 y.1; omega)]; exact hf2 b' j q1 q2) (fun j j0 j1 => ?_)
        rw [e7, mup_ap, if_neg (fun y => by omega), e5, mup_ap]
        by_cases q : j = k
        · rw [if_pos ⟨rfl, by omega⟩, byte_m (by rw [hv]; exact hfi _), hv, q]
        · rw [if_neg (fun y => by omega)]; exact hz j j0 (by omega)
      refine s_X10_feed_24 ⟨fun y => by omega, fun _ => ⟨fun y4 => ⟨fun y8 => ⟨fun y12 => ⟨fun y16 => ?_, fun y16 => ?_⟩, fun y12 => ?_⟩, fun y8 => ?_⟩, fun y4 => ?_⟩⟩
      · exact step g (by rw [← hf, show (k : Int) / 4 = 4 by omega]; rfl)
      · exact step e (by rw [← hf, show (k : Int) / 4 = 3 by omega]; rfl)
      · exact step c (by rw [← hf, show (k : Int) / 4 = 2 by omega]; rfl)
      · exact step b (by rw [← hf, show (k : Int) / 4 = 1 by omega]; rfl)
      · exact step a (by rw [← hf, show (k : Int) / 4 = 0 by omega]; rfl)
  exact key 20 0 μ1 rfl (by rw [r1.1]; omega) (fun _ _ _ _ => rfl) (fun j j0 j1 => by omega)

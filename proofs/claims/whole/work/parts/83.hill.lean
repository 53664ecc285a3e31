/-! THE CLASS: hill -/
theorem XH_of {μ : Mem} {T : TxT} {N : Nat} {h : Int} {g : GS} (hE : RE μ T N h (gE g)) (hQ : GQ μ h (hP (gH g)) g) (hW : WG N g) : XH μ h (hillOf g) := by
  obtain ⟨q1, q2, q3, q4, q5, q6, q7⟩ := hQ
  refine ⟨q1.symm, q2.symm, q3.symm, q4.symm, q5, fun l l0 l1 => ?_⟩
  obtain ⟨w1, w2⟩ := q7 l l0 l1
  obtain ⟨a, b, c, e1, e2, e3, e4⟩ := hW.2.2.2.2.2.1 l l0 l1
  have hl : (eC (gE g)).length = a.length + (b.length + c.length) := by rw [e1]; simp
  have h1 := hW.2.2.2.2.2.2.1
  have h2 := hE.2.2.2.2.2.1.1
  have h3 := hE.2.1
  refine ⟨⟨by rw [w1, e2]; omega, by rw [w1]; exact w2, by rw [w2, e2, e3]; omega⟩, fun k k0 k1 => ?_⟩
  have k1' : k < hLen (gH g) l := k1
  rw [w1]
  have hc := hE.2.2.2.2.2.2.2.2.2.2 (gO g l + k).toNat (by omega)
  rw [show (((gO g l + k).toNat : Nat) : Int) = gO g l + k by omega] at hc
  rw [hc]
  show _ = (eC (gE g)).getD (gO g l + k).toNat 0
  rw [List.getD_eq_getElem?_getD, List.getElem?_eq_getElem (by omega)]
  rfl
theorem cx_hill {d : Nat} {sc : SC} {μ : Mem} {A : StT} {n : Int} (hd : 64 ≤ d) (h : RX μ A) : CTi mX9_hill d sc [(2, 0), (0, n)] μ (AX μ (hillA A n) (fun x => x = hillS A n)) := by
  have hn := h.1.now
  have ht := h.1.2.1
  have hwt := h.1.wf
  have hwt1 := hwt.1
  refine CTi_of mp_X9_hill (Nat.le_of_ble_eq_true rfl) ?_
  have bad : (n < 0 ∨ aTaped A < n) → AX μ (hillA A n) (fun x => x = hillS A n) (-3) μ := fun z => AX.here (by unfold hillA; rw [if_pos z]; exact h) (by show _ = _; unfold hillS; rw [if_pos z])
  refine s_X9_hill_0 ⟨fun z => bad (Or.inl z), fun z => ?_⟩
  rw [ht]
  refine ⟨fun z2 => ?_, fun z2 => bad (Or.inr z2)⟩
  have hin : ¬ (n < 0 ∨ aTaped A < n) := by omega
  intro μ3 e3
  have g3 : ∀ b j : Int, (b = 0 → j ≠ 1) → μ3 b j = μ b j := fun b j y => by rw [e3, mup_ap, if_neg (fun q => y q.1 q.2)]
  have o3 : μ3 0 3 = μ 0 3 := g3 _ _ (by omega)
  rw [o3]
  have hother : isK 1 (μ 0 3) := by
    rcases h.1.1 with q | q
    · rw [q.2]; exact k_15
    · rw [q.2]; exact k_2
  have hrange : (μ 0 3 = 2 ∧ μ 0 2 = 15) ∨ (μ 0 3 = 15 ∧ μ 0 2 = 2) := by rcases h.1.1 with q | q <;> omega
  have hn2 : ((n.toNat : Nat) : Int) = n := by omega
  have hrd := fun R => ca_read (d := d) (sc := sc) (μ := μ3) (b := aTape A) (n := n.toNat) (h := μ 0 3) (R := R) hd hother (by omega) (fun i i0 i1 => by
    rw [g3 _ _ (by omega)]
    exact ⟨h.1.2.2.1 i i0 (by omega), hwt.2.1 i i0 (by omega)⟩)
  rw [hn2] at hrd
  refine hrd _ ?_
  intro x μ5 N hx r5 Q5 f5
  have hTxt : textG (txt (aTape A) n.toNat) = textS A n := rfl
  rw [hTxt] at hx r5 Q5
  have hTH := r5.2.2.1
  have hok : OE N (gE (textS A n)) ∧ (eF (gE (textS A n)) = 0 → WG N (textS A n)) := text_ok hTH
  have F5 : ∀ b j : Int, (b < 28 ∨ 31 < b) → (b < μ 0 3 ∨ μ 0 3 + 12 < b) → (b = 0 → j ≠ 1) → μ5 b j = μ b j := fun b j y1 y2 y3 => by rw [f5 b j y1 y2]; exact g3 b j y3
  have t5 : μ5 0 1 = 0 := by rw [f5 _ _ (by omega) (by omega), e3, mup_at]
  refine ⟨fun x1 => ?_, fun x0 => ?_⟩
  · have hf : eF (gE (textS A n)) = 0 := Decidable.of_not_not (fun q => by rw [if_neg q] at hx; exact x1 hx)
    have hW := hok.2 hf
    have xh := XH_of r5 Q5 hW
    have hwf := hW.wf r5.2.1 hok.1.1
    intro μ7 e7 μ8 e8
    have g8 : ∀ b j : Int, (b = 0 → j ≠ 3 ∧ j ≠ 2) → μ8 b j = μ5 b j := fun b j y => by rw [e8, mup_ap, if_neg (fun q => (y q.1).2 q.2), e7, mup_ap, if_neg (fun q => (y q.1).1 q.2)]
    have o5 : μ5 0 3 = μ 0 3 := F5 _ _ (by omega) (by omega) (by omega)
    have n5 : μ5 0 2 = μ 0 2 := F5 _ _ (by omega) (by omega) (by omega)
    have n8 : μ8 0 2 = μ 0 3 := by rw [e8, mup_at]; exact o5
    have o8 : μ8 0 3 = μ 0 2 := by rw [e8, mup_ap, if_neg (fun q => by omega), e7, mup_at]; exact n5
    have p8 : PastR μ8 (hP (aH A)) (aPast A) := (h.1.past.same (fun b j _ _ => F5 b j (by omega) (by omega) (by omega))).same (fun b j _ _ => g8 b j (by omega))
    refine byV (d' := 0) (by omega) (ct_forget p8) ?_
    rintro μ10 ⟨f10, p10⟩
    refine byV (d' := 0) (by omega) ct_forgetA ?_
    rintro μ12 ⟨f12, k1, k2, k3⟩
    have G : ∀ b j : Int, (b = 0 → j ≠ 3 ∧ j ≠ 2 ∧ j ≠ 9) → (b = 34 → j ≠ 0) → (b < 97 ∨ 148 < b) → μ12 b j = μ5 b j := fun b j y1 y2 y3 => by rw [f12 b j (fun q => (y1 q).2.2) y3, f10 b j y2, g8 b j (fun q => ⟨(y1 q).1, (y1 q).2.1⟩)]
    have n12 : μ12 0 2 = μ 0 3 := by rw [f12 _ _ (by omega) (by omega), f10 _ _ (by omega)]; exact n8
    have o12 : μ12 0 3 = μ 0 2 := by rw [f12 _ _ (by omega) (by omega), f10 _ _ (by omega)]; exact o8
    have eA : hillA A n = ((0, aTape A), (0, -1), (hillOf (textS A n), gP (textS A n)), [], A.2.2.2.2) := by unfold hillA; rw [if_neg hin, if_pos hf]
    have xh12 : XH μ12 (μ 0 3) (hillOf (textS A n)) := xh.same (fun b j _ _ => G b j (by omega) (by omega) (by omega))
    have hR : RX μ12 (hillA A n) := by
      rw [eA]
      refine RX.fresh ?_ k1 k2 k3
      obtain ⟨⟨h1', h2, h3, h4, h5, h6', h7, h8, h9, h10, h11⟩, _⟩ := h
      refine ⟨by rw [n12, o12]; omega, by rw [G _ _ (by omega) (by omega) (by omega)]; exact t5, fun i i0 i1 => ?_, ?_, ?_, ?_, ?_, ?_, ?_, ?_, ?_⟩
      · have : i < 0 := i1
        omega
      · rw [G _ _ (by omega) (by omega) (by omega), r5.2.2.2.2.2.2.1, hf]; rfl
      · rw [G _ _ (by omega) (by omega) (by omega), r5.2.2.2.2.2.2.2.1]; exact hW.2.2.2.2.2.2.2.2
      · rw [n12]; exact xh12
      · rw [n12]; exact Q5.2.2.2.2.2.1.same (fun b j _ _ => G b j (by omega) (by omega) (by omega))
      · exact (p10 _).same (fun b j _ _ => f12 b j (by omega) (by omega))
      · intro i i0 i1
        obtain ⟨q1, q2, q3⟩ := h9 i i0 i1
        have G2 : ∀ b j : Int, b = 32 ∨ b = 33 ∨ 148 < b → μ12 b j = μ b j := fun b j y => by rw [G b j (by omega) (by omega) (by omega)]; exact F5 b j (by omega) (by omega) (by omega)
        exact ⟨by rw [G2 _ _ (by omega)]; exact q1, by rw [G2 _ _ (by omega)]; exact q2, fun y => ⟨(q3 y).1.same (fun b j _ _ => G2 b j (by omega)), (q3 y).2.same (fun b j _ _ => G2 b j (by omega))⟩⟩
      · intro i i0 i1
        obtain ⟨q1, q2⟩ := h10 i i0 i1
        have G2 : ∀ b j : Int, b = 96 ∨ 148 < b → μ12 b j = μ b j := fun b j y => by rw [G b j (by omega) (by omega) (by omega)]; exact F5 b j (by omega) (by omega) (by omega)
        exact ⟨by rw [G2 _ _ (by omega)]; exact q1, q2.same (fun b j _ _ => G2 b j (by omega))⟩
      · obtain ⟨w1, w2, w3, w4, w5, w6, w7⟩ := h11
        exact ⟨(by decide : (0 : Int) ≤ 0 ∧ (0 : Int) ≤ 900), fun i i0 i1 => by have : i < 0 := i1; omega, (by decide : (0 : Int) ≤ 0 ∧ (0 : Int) ≤ 4), hwf.1, hwf.2, fun P hP => absurd hP (by show ¬ P ∈ ([] : List PlanT); simp), w7⟩
    refine ⟨hR.1.now.1, ?_, hR, fun b j q => by rw [G b j (by omega) (by omega) (by omega)]; exact F5 b j (by omega) (by omega) (by omega)⟩
    show _ = _
    rw [n12]
    unfold hillS
    rw [if_neg hin, if_pos hf]
    exact xh12.2.2.1.symm
  · have hf : eF (gE (textS A n)) ≠ 0 := fun q => by rw [if_pos q] at hx; omega
    have hfb : 1 ≤ eF (gE (textS A n)) ∧ eF (gE (textS A n)) ≤ 4 := by rcases hok.1.2 with q | q <;> omega
    rw [r5.2.2.2.2.2.2.1]
    have eA : hillA A n = ((0, aTape A), (eF (gE (textS A n)), eP (gE (textS A n))), A.2.2) := by unfold hillA; rw [if_neg hin, if_neg hf]
    refine ⟨by omega, by show _ = _; unfold hillS; rw [if_neg hin, if_neg hf], ?_, fun b j q => F5 b j (by omega) (by omega) (by omega)⟩
    rw [eA]
    obtain ⟨⟨h1', h2, h3, h4, h5, h6', h7, h8, h9, h10, h11⟩, k1, k2, k3⟩ := h
    have n5 : μ5 0 2 = μ 0 2 := F5 _ _ (by omega) (by omega) (by omega)
    have o5 : μ5 0 3 = μ 0 3 := F5 _ _ (by omega) (by omega) (by omega)
    refine ⟨⟨by rw [n5, o5]; exact h1', t5, fun i i0 i1 => ?_, r5.2.2.2.2.2.2.1, r5.2.2.2.2.2.2.2.1, ?_, ?_, ?_, ?_, ?_, ?_⟩, ?_, ?_, ?_⟩
    · have : i < 0 := i1
      omega
    · rw [n5]; exact h6'.same (fun b j _ _ => F5 b j (by omega) (by omega) (by omega))
    · rw [n5]; exact h7.same (fun b j _ _ => F5 b j (by omega) (by omega) (by omega))
    · exact h8.same (fun b j _ _ => F5 b j (by omega) (by omega) (by omega))
    · intro i i0 i1
      obtain ⟨q1, q2, q3⟩ := h9 i i0 i1
      have G2 : ∀ b j : Int, b = 32 ∨ b = 33 ∨ 148 < b → μ5 b j = μ b j := fun b j y => F5 b j (by omega) (by omega) (by omega)
      exact ⟨by rw [G2 _ _ (by omega)]; exact q1, by rw [G2 _ _ (by omega)]; exact q2, fun y => ⟨(q3 y).1.same (fun b j _ _ => G2 b j (by omega)), (q3 y).2.same (fun b j _ _ => G2 b j (by omega))⟩⟩
    · intro i i0 i1
      obtain ⟨q1, q2⟩ := h10 i i0 i1
      exact ⟨by rw [F5 _ _ (by omega) (by omega) (by omega)]; exact q1, q2.same (fun b j _ _ => F5 b j (by omega) (by omega) (by omega))⟩
    · obtain ⟨w1, w2, w3, w4, w5, w6, w7⟩ := h11
      exact ⟨(by decide : (0 : Int) ≤ 0 ∧ (0 : Int) ≤ 900), fun i i0 i1 => by have : i < 0 := i1; omega, by show 0 ≤ eF (gE (textS A n)) ∧ eF (gE (textS A n)) ≤ 4; omega, w4, w5, w6, w7⟩
    · rw [F5 0 9 (by omega) (by omega) (by omega)]
      intro y
      have := k1 y
      exact ⟨by rw [n5]; exact this.1.same (fun b j q => F5 b j (by omega) (by omega) (by omega)), this.2.same (fun b j _ _ => F5 b j (by omega) (by omega) (by omega))⟩
    · rw [F5 117 0 (by omega) (by omega) (by omega)]
      intro y
      exact (k2 y).same (fun b j _ _ => F5 b j (by omega) (by omega) (by omega))
    · rw [F5 120 0 (by omega) (by omega) (by omega), F5 120 1 (by omega) (by omega) (by omega), F5 120 2 (by omega) (by omega) (by omega), F5 120 3 (by omega) (by omega) (by omega)]
      exact k3

/-! THE CLASS AS A WHOLE: its state -/
abbrev StT : Type := (Int × (Int → Int)) × (Int × Int) × (HillT × PlanT) × List PlanT × (Int → Int × HillT × PlanT) × (Int → TrayT)
def aTaped (A : StT) : Int := A.1.1
def aTape (A : StT) : Int → Int := A.1.2
def aFault (A : StT) : Int := A.2.1.1
def aPlace (A : StT) : Int := A.2.1.2
def aH (A : StT) : HillT := A.2.2.1.1
def aP (A : StT) : PlanT := A.2.2.1.2
def aPast (A : StT) : List PlanT := A.2.2.2.1
def aImg (A : StT) : Int → Int × HillT × PlanT := A.2.2.2.2.1
def aTray (A : StT) : Int → TrayT := A.2.2.2.2.2
def wfS (H : HillT) (P : PlanT) : Prop := wfP H P ∧ wfNp (hP H) P ∧ pN P ≤ 8 ∧ ∀ k, 0 ≤ k → k < pN P → 0 ≤ pSure P k ∧ pSure P k ≤ 10
def wfA (A : StT) : Prop := (0 ≤ aTaped A ∧ aTaped A ≤ 900) ∧ (∀ i, 0 ≤ i → i < aTaped A → 0 ≤ aTape A i ∧ aTape A i ≤ 255) ∧ (0 ≤ aFault A ∧ aFault A ≤ 4) ∧ wfH (aH A) ∧ wfS (aH A) (aP A) ∧ (∀ P ∈ aPast A, wfS (aH A) P) ∧ ∀ i, 0 ≤ i → i < 2 → ((aImg A i).1 = 0 ∨ (aImg A i).1 = 1) ∧ ((aImg A i).1 = 1 → wfH (aImg A i).2.1 ∧ wfS (aImg A i).2.1 (aImg A i).2.2)
/-- a byte and what it is told of by 0 to 255 -/
def BY (x v : Int) : Prop := (x - v) % 256 = 0 ∧ -128 ≤ x ∧ x < 128
def RXc (μ : Mem) (A : StT) : Prop := ((μ 0 2 = 2 ∧ μ 0 3 = 15) ∨ (μ 0 2 = 15 ∧ μ 0 3 = 2)) ∧ μ 0 1 = aTaped A ∧ (∀ i, 0 ≤ i → i < aTaped A → BY (μ 1 i) (aTape A i)) ∧ μ 28 0 = aFault A ∧ μ 28 1 = aPlace A ∧
  XH μ (μ 0 2) (aH A) ∧ XP μ (μ 0 2 + 7) (hP (aH A)) (aP A) ∧ PastR μ (hP (aH A)) (aPast A) ∧
  (∀ i, 0 ≤ i → i < 2 → μ 32 i = 149 + 13 * i ∧ μ 33 i = (aImg A i).1 ∧ ((aImg A i).1 = 1 → XH μ (149 + 13 * i) (aImg A i).2.1 ∧ XP μ (149 + 13 * i + 7) (hP (aImg A i).2.1) (aImg A i).2.2)) ∧
  (∀ i, 0 ≤ i → i < 4 → μ 96 i = 175 + 2 * i ∧ XT μ (175 + 2 * i) (aTray A i)) ∧ wfA A
def KA (μ : Mem) (A : StT) : Prop := LRep μ 97 (μ 0 2) (μ 0 2 + 7) (aH A) (aP A) ∧ DayD μ 105 (aH A) (aP A) (aP A) 100
def KO (μ : Mem) (A : StT) : Prop := μ 117 1 = 10 ^ (pN (aP A)).toNat ∧ ∀ q, 0 ≤ q → q < hP (aH A) → μ 118 q = nobSum (aH A) (aP A) q (2 ^ (pN (aP A)).toNat) ∧ μ 119 q = hicSum (aH A) (aP A) q (2 ^ (pN (aP A)).toNat)
def RX (μ : Mem) (A : StT) : Prop := RXc μ A ∧ (μ 0 9 ≠ 0 → KA μ A) ∧ (μ 117 0 ≠ 0 → KO μ A) ∧ (μ 120 0 ≠ -1 → SilR (aH A) (aP A) (μ 120 0) (μ 120 1) (μ 120 2) (μ 120 3))
/-- what no query changes -/
def FC (μ μ' : Mem) : Prop := ∀ b j, (b = 0 → j ≠ 9 ∧ j ≠ 19) → (b < 97 ∨ 148 < b) → μ' b j = μ b j
theorem FC.refl (μ : Mem) : FC μ μ := fun _ _ _ _ => rfl
theorem FC.tr {μ1 μ2 μ3 : Mem} (h : FC μ1 μ2) (h' : FC μ2 μ3) : FC μ1 μ3 := fun b j q1 q2 => by rw [h' b j q1 q2]; exact h b j q1 q2
theorem nowK {μ : Mem} (h : (μ 0 2 = 2 ∧ μ 0 3 = 15) ∨ (μ 0 2 = 15 ∧ μ 0 3 = 2)) : isK 1 (μ 0 2) ∧ isK 6 (μ 0 2 + 7) ∧ (μ 0 2 = 2 ∨ μ 0 2 = 15) := by
  rcases h with h | h
  · rw [h.1]; exact ⟨k_2, k_9, Or.inl rfl⟩
  · rw [h.1]; exact ⟨k_15, k_22, Or.inr rfl⟩
theorem RXc.now {μ : Mem} {A : StT} (h : RXc μ A) : isK 1 (μ 0 2) ∧ isK 6 (μ 0 2 + 7) ∧ (μ 0 2 = 2 ∨ μ 0 2 = 15) := nowK h.1
theorem RXc.wf {μ : Mem} {A : StT} (h : RXc μ A) : wfA A := h.2.2.2.2.2.2.2.2.2.2
theorem RXc.same {μ μ' : Mem} {A : StT} (h : RXc μ A) (hf : FC μ μ') : RXc μ' A := by
  have hn := h.now
  obtain ⟨h1, h2, h3, h4, h5, h6, h7, h8, h9, h10, h11⟩ := h
  have e2 : μ' 0 2 = μ 0 2 := hf _ _ (fun _ => by omega) (by omega)
  have g : ∀ b j, (1 ≤ b ∧ b < 97) ∨ 148 < b → μ' b j = μ b j := fun b j z => hf b j (by omega) (by omega)
  refine ⟨by rw [e2, hf 0 3 (fun _ => by omega) (by omega)]; exact h1, by rw [hf 0 1 (fun _ => by omega) (by omega)]; exact h2, fun i i0 i1 => by rw [g 1 i (by omega)]; exact h3 i i0 i1, by rw [g _ _ (by omega)]; exact h4, by rw [g _ _ (by omega)]; exact h5, ?_, ?_, ?_, ?_, ?_, h11⟩
  · rw [e2]; exact h6.same (fun b j _ _ => g b j (by omega))
  · rw [e2]; exact h7.same (fun b j _ _ => g b j (by omega))
  · exact h8.same (fun b j _ _ => g b j (by omega))
  · intro i i0 i1
    obtain ⟨q1, q2, q3⟩ := h9 i i0 i1
    exact ⟨by rw [g _ _ (by omega)]; exact q1, by rw [g _ _ (by omega)]; exact q2, fun z => ⟨(q3 z).1.same (fun b j _ _ => g b j (by omega)), (q3 z).2.same (fun b j _ _ => g b j (by omega))⟩⟩
  · intro i i0 i1
    obtain ⟨q1, q2⟩ := h10 i i0 i1
    exact ⟨by rw [g _ _ (by omega)]; exact q1, q2.same (fun b j _ _ => g b j (by omega))⟩
theorem DayD.same {μ μ' : Mem} {a : Int} {H : HillT} {P PN : PlanT} {n : Nat} (h : DayD μ a H P PN n) (hs : ∀ b j, a ≤ b → b ≤ a + 5 → μ' b j = μ b j) : DayD μ' a H P PN n := by
  obtain ⟨d1, d2, d3, d4⟩ := h
  exact ⟨d1.same (hs _ _ (by omega) (by omega)) (fun b j _ _ => hs b j (by omega) (by omega)), fun o o0 o1 => by rw [hs _ _ (by omega) (by omega)]; exact d2 o o0 o1, fun o o0 o1 => by rw [hs _ _ (by omega) (by omega)]; exact d3 o o0 o1, by rw [hs _ _ (by omega) (by omega)]; exact d4⟩
theorem KO.same {μ μ' : Mem} {A : StT} (h : KO μ A) (hs : ∀ b j, 117 ≤ b → b ≤ 119 → μ' b j = μ b j) : KO μ' A := ⟨by rw [hs _ _ (by omega) (by omega)]; exact h.1, fun q q0 q1 => by rw [hs _ _ (by omega) (by omega), hs _ _ (by omega) (by omega)]; exact h.2 q q0 q1⟩
/-- what a trial changes -/
def FT (μ μ' : Mem) : Prop := ∀ b j, (b = 0 → j ≠ 19) → (b < 101 ∨ 104 < b) → (b < 121 ∨ 148 < b) → μ' b j = μ b j
theorem FT.refl (μ : Mem) : FT μ μ := fun _ _ _ _ _ => rfl
theorem FT.tr {μ1 μ2 μ3 : Mem} (h : FT μ1 μ2) (h' : FT μ2 μ3) : FT μ1 μ3 := fun b j q1 q2 q3 => by rw [h' b j q1 q2 q3]; exact h b j q1 q2 q3
theorem FT.c {μ μ' : Mem} (h : FT μ μ') : FC μ μ' := fun b j q1 q2 => h b j (fun z => (q1 z).2) (by omega) (by omega)
theorem RX.trial {μ μ' : Mem} {A : StT} (h : RX μ A) (hf : FT μ μ') (hL : LRep μ 97 (μ 0 2) (μ 0 2 + 7) (aH A) (aP A) → LRep μ' 97 (μ 0 2) (μ 0 2 + 7) (aH A) (aP A)) : RX μ' A := by
  obtain ⟨h1, h2, h3, h4⟩ := h
  have g : ∀ b j, 105 ≤ b → b ≤ 120 → μ' b j = μ b j := fun b j _ _ => hf b j (by omega) (by omega) (by omega)
  have e2 : μ' 0 2 = μ 0 2 := hf _ _ (fun _ => by omega) (by omega) (by omega)
  refine ⟨h1.same hf.c, fun z => ?_, fun z => ?_, fun z => ?_⟩
  · rw [hf 0 9 (fun _ => by omega) (by omega) (by omega)] at z
    refine ⟨by rw [e2]; exact hL (h2 z).1, (h2 z).2.same (fun b j _ _ => g b j (by omega) (by omega))⟩
  · rw [g _ _ (by omega) (by omega)] at z
    exact (h3 z).same (fun b j _ _ => g b j (by omega) (by omega))
  · rw [g _ _ (by omega) (by omega)] at z
    rw [g _ _ (by omega) (by omega), g _ _ (by omega) (by omega), g _ _ (by omega) (by omega), g _ _ (by omega) (by omega)]
    exact h4 z
/-- a trial that leaves the laws -/
theorem RX.trial2 {μ μ' : Mem} {A : StT} (h : RX μ A) (hf : ∀ b j, (b = 0 → j ≠ 19) → (b < 121 ∨ 148 < b) → μ' b j = μ b j) : RX μ' A := by
  have hn := h.1.now
  exact h.trial (fun b j q1 _ q3 => hf b j q1 q3) (fun hL => hL.same (fun b j z => hf b j (by omega) (by omega)))
theorem ct_forgetA {d : Nat} {sc : SC} {μ : Mem} : CTv mX9_forgetAnswers d sc [(2, 0)] μ (fun μ' => (∀ b j, (b = 0 → j ≠ 9) → (b < 97 ∨ 148 < b) → μ' b j = μ b j) ∧ μ' 0 9 = 0 ∧ μ' 117 0 = 0 ∧ μ' 120 0 = -1) := by
  refine CTv_of mp_X9_forgetAnswers (Nat.le_of_ble_eq_true rfl) ?_
  refine s_X9_forgetAnswers_0 ?_
  intro μ1 e1 μ2 e2 μ3 e3
  refine ⟨fun b j z1 z2 => ?_, ?_, ?_, ?_⟩
  · rw [e3, mup_ap, if_neg (fun y => by omega), e2, mup_ap, if_neg (fun y => by omega), e1, mup_ap, if_neg (fun y => by omega)]
  · rw [e3, mup_ap, if_neg (fun y => by omega), e2, mup_ap, if_neg (fun y => by omega), e1, mup_ap, if_pos ⟨rfl, rfl⟩]
  · rw [e3, mup_ap, if_neg (fun y => by omega), e2, mup_ap, if_pos ⟨rfl, rfl⟩]
  · rw [e3, mup_ap, if_pos ⟨rfl, rfl⟩]
theorem ct_know {d : Nat} {sc : SC} {μ : Mem} {A : StT} (hd : 7 ≤ d) (h : RX μ A) : CTv mX9_know d sc [(2, 0)] μ (fun μ' => FC μ μ' ∧ RX μ' A ∧ KA μ' A) := by
  have hn := h.1.now
  have hw := h.1.wf
  have hc := h.1
  refine CTv_of mp_X9_know (Nat.le_of_ble_eq_true rfl) ?_
  refine s_X9_know_0 ⟨fun z => ⟨FC.refl μ, h, h.2.1 z⟩, fun z => ⟨hn.1, ?_⟩⟩
  refine byV (d' := 5) (by omega) (ct_learn (Nat.le_refl _) k_97 hn.1 hn.2.1 hc.2.2.2.2.2.1 hc.2.2.2.2.2.2.1 hw.2.2.2.1 hw.2.2.2.2.1.1) ?_
  rintro μ4 ⟨f4, L4⟩
  have e2 : μ4 0 2 = μ 0 2 := f4 _ _ (by omega)
  rw [e2]
  refine ⟨hn.1, ca_day hd k_105 hn.2.1 L4 (hc.2.2.2.2.2.2.1.same (fun b j _ _ => f4 b j (by omega))).n hw.2.2.2.2.1.2.1 ?_⟩
  intro μ7 f7 L7 D7
  intro μ8 e8
  have g : ∀ b j, (b = 0 → j ≠ 9) → μ8 b j = μ7 b j := fun b j z => by rw [e8, mup_ap, if_neg (fun y => z y.1 y.2)]
  have fr : ∀ b j, (b = 0 → j ≠ 9) → (b < 97 ∨ 116 < b) → μ8 b j = μ b j := fun b j q1 q2 => by rw [g b j q1, f7 b j (by omega) (by omega) (by omega) (by omega) (by omega), f4 b j (by omega)]
  have hF : FC μ μ8 := fun b j q1 q2 => fr b j (fun z => (q1 z).1) (by omega)
  have e8n : μ8 0 2 = μ 0 2 := fr _ _ (fun _ => by omega) (by omega)
  have hK : KA μ8 A := by
    unfold KA
    rw [e8n]
    exact ⟨L7.same (fun b j _ => g b j (by omega)), D7.same (fun b j _ _ => g b j (by omega))⟩
  refine ⟨hF, ⟨hc.same hF, fun _ => hK, fun q => ?_, fun q => ?_⟩, hK⟩
  · rw [fr _ _ (by omega) (by omega)] at q
    exact (h.2.2.1 q).same (fun b j _ _ => fr b j (by omega) (by omega))
  · rw [fr _ _ (by omega) (by omega)] at q
    rw [fr _ _ (by omega) (by omega), fr _ _ (by omega) (by omega), fr _ _ (by omega) (by omega), fr _ _ (by omega) (by omega)]
    exact h.2.2.2 q
theorem ca_know {d : Nat} {sc : SC} {μ : Mem} {A : StT} {R : Mem → Prop} (hd : 8 ≤ d) (h : RX μ A) (k : ∀ μ', FC μ μ' → RX μ' A → KA μ' A → R μ') : CAv mX9_know d sc [(2, 0)] μ R :=
  byV (d' := 7) (by omega) (ct_know (Nat.le_refl _) h) (fun μ' q => k μ' q.1 q.2.1 q.2.2)
theorem ct_knowOdds {d : Nat} {sc : SC} {μ : Mem} {A : StT} (hd : 9 ≤ d) (h : RX μ A) : CTv mX9_knowOdds d sc [(2, 0)] μ (fun μ' => FC μ μ' ∧ RX μ' A ∧ KA μ' A ∧ KO μ' A) := by
  refine CTv_of mp_X9_knowOdds (Nat.le_of_ble_eq_true rfl) ?_
  refine s_X9_knowOdds_0 (ca_know (by omega) h ?_)
  intro μ2 f2 R2 K2
  refine ⟨fun z => ⟨f2, R2, K2, R2.2.2.1 z⟩, fun z => ?_⟩
  have hw := R2.1.wf
  have hn := R2.1.now
  refine byV (d' := 8) (by omega) (ct_reckon (Nat.le_refl _) K2.1 hw.2.2.2.2.1.2.1 hw.2.2.2.2.1.2.2.1 hw.2.2.2.2.1.2.2.2) ?_
  rintro μ5 ⟨f5, L5, o0, o1, o2⟩
  have F5 : FC μ2 μ5 := fun b j q1 q2 => f5 b j (by omega) (by omega) (by omega) (by omega)
  have e5 : μ5 0 2 = μ2 0 2 := f5 _ _ (by omega) (by omega) (by omega) (by omega)
  have hK : KA μ5 A := by
    unfold KA
    rw [e5]
    exact ⟨L5, K2.2.same (fun b j _ _ => f5 b j (by omega) (by omega) (by omega) (by omega))⟩
  refine ⟨f2.tr F5, ⟨R2.1.same F5, fun _ => hK, fun _ => ⟨o1, o2⟩, fun q => ?_⟩, hK, ⟨o1, o2⟩⟩
  have g : ∀ j, μ5 120 j = μ2 120 j := fun j => f5 _ _ (by omega) (by omega) (by omega) (by omega)
  rw [g] at q
  rw [g, g, g, g]
  exact R2.2.2.2 q
theorem ca_knowOdds {d : Nat} {sc : SC} {μ : Mem} {A : StT} {R : Mem → Prop} (hd : 10 ≤ d) (h : RX μ A) (k : ∀ μ', FC μ μ' → RX μ' A → KA μ' A → KO μ' A → R μ') : CAv mX9_knowOdds d sc [(2, 0)] μ R :=
  byV (d' := 9) (by omega) (ct_knowOdds (Nat.le_refl _) h) (fun μ' q => k μ' q.1 q.2.1 q.2.2.1 q.2.2.2)
/-! what is there -/
abbrev ipS (A : StT) (p : Int) : Prop := 0 ≤ p ∧ p < hP (aH A)
theorem RXc.np {μ : Mem} {A : StT} (h : RXc μ A) : μ (μ 0 2) 3 = hP (aH A) := h.2.2.2.2.2.1.2.2.2.1.symm
theorem ca_isPerson {d : Nat} {sc : SC} {μ : Mem} {A : StT} {p : Int} {R : Int → Mem → Prop} (hd : 1 ≤ d) (h : RXc μ A) (k0 : ¬ ipS A p → R 0 μ) (k1 : ipS A p → R 1 μ) : CAi mX9_isPerson d sc [(2, 0), (0, p)] μ R := by
  refine byI (d' := 0) (by omega) (Q := R) ?_ (fun _ _ z => z)
  refine CTi_of mp_X9_isPerson (Nat.le_of_ble_eq_true rfl) ?_
  refine s_X9_isPerson_0 ⟨fun z => k0 (fun q => by have := q.1; omega), fun z => ⟨h.now.1, ?_⟩⟩
  rw [h.np]
  exact ⟨fun z2 => k0 (fun q => by have := q.2; omega), fun z2 => k1 ⟨z, z2⟩⟩
theorem ca_isMinute {d : Nat} {sc : SC} {μ : Mem} {t : Int} {R : Int → Mem → Prop} (hd : 1 ≤ d) (k0 : ¬ (0 ≤ t ∧ t < 100) → R 0 μ) (k1 : 0 ≤ t ∧ t < 100 → R 1 μ) : CAi mX9_isMinute d sc [(0, t)] μ R := by
  refine byI (d' := 0) (by omega) (Q := R) ?_ (fun _ _ z => z)
  refine CTi_of mp_X9_isMinute (Nat.le_of_ble_eq_true rfl) ?_
  exact s_X9_isMinute_0 ⟨fun z => k0 (by omega), fun z => ⟨fun z2 => k0 (by omega), fun z2 => k1 ⟨z, z2⟩⟩⟩
theorem ca_isTray {d : Nat} {sc : SC} {μ : Mem} {t : Int} {R : Int → Mem → Prop} (hd : 1 ≤ d) (k0 : ¬ (0 ≤ t ∧ t < 4) → R 0 μ) (k1 : 0 ≤ t ∧ t < 4 → R 1 μ) : CAi mX9_isTray d sc [(0, t)] μ R := by
  refine byI (d' := 0) (by omega) (Q := R) ?_ (fun _ _ z => z)
  refine CTi_of mp_X9_isTray (Nat.le_of_ble_eq_true rfl) ?_
  exact s_X9_isTray_0 ⟨fun z => k0 (by omega), fun z => ⟨fun z2 => k0 (by omega), fun z2 => k1 ⟨z, z2⟩⟩⟩
theorem ca_isImage {d : Nat} {sc : SC} {μ : Mem} {t : Int} {R : Int → Mem → Prop} (hd : 1 ≤ d) (k0 : ¬ (0 ≤ t ∧ t < 2) → R 0 μ) (k1 : 0 ≤ t ∧ t < 2 → R 1 μ) : CAi mX9_isImage d sc [(0, t)] μ R := by
  refine byI (d' := 0) (by omega) (Q := R) ?_ (fun _ _ z => z)
  refine CTi_of mp_X9_isImage (Nat.le_of_ble_eq_true rfl) ?_
  exact s_X9_isImage_0 ⟨fun z => k0 (by omega), fun z => ⟨fun z2 => k0 (by omega), fun z2 => k1 ⟨z, z2⟩⟩⟩
theorem ca_isGap {d : Nat} {sc : SC} {μ : Mem} {t : Int} {R : Int → Mem → Prop} (hd : 1 ≤ d) (k0 : ¬ (1 ≤ t ∧ t ≤ 20) → R 0 μ) (k1 : 1 ≤ t ∧ t ≤ 20 → R 1 μ) : CAi mX9_isGap d sc [(1, t)] μ R := by
  refine byI (d' := 0) (by omega) (Q := R) ?_ (fun _ _ z => z)
  refine CTi_of mp_X9_isGap (Nat.le_of_ble_eq_true rfl) ?_
  exact s_X9_isGap_0 ⟨fun z => k0 (by omega), fun z => ⟨fun z2 => k0 (by omega), fun z2 => k1 ⟨z, by omega⟩⟩⟩

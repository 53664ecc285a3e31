/-! THE REFERENCE: deeds -/
def ML (μ : Mem) (np : Int) (L : List PlanT) : Prop := μ 184 71 = L.length ∧ L.length ≤ 10 ∧ ∀ j : Nat, ∀ hj : j < L.length, MP (fun i => μ 184 (72 + 40 * (j : Int) + i)) np L[j]
theorem RY.past {μ : Mem} {A : StT} (h : RY μ A) : ML μ (hP (aH A)) (aPast A) := h.2.2.2.2.2.2.2.1
theorem RY.mp {μ : Mem} {A : StT} (h : RY μ A) : MP (fun i => μ 184 (31 + i)) (hP (aH A)) (aP A) := h.2.2.2.2.2.2.1
theorem RY.wf {μ : Mem} {A : StT} (h : RY μ A) : wfA A := h.2.2.2.2.2.2.2.2.2.2
theorem RY.wfs {μ : Mem} {A : StT} (h : RY μ A) : wfS (aH A) (aP A) := h.q.2.2.2
theorem RY.tray {μ : Mem} {A : StT} (h : RY μ A) : ∀ t, 0 ≤ t → t < 4 → MT μ t (aTray A t) := h.2.2.2.2.2.2.2.2.2.1
theorem RY.set {μ μ' : Mem} {A : StT} {P : PlanT} {L : List PlanT} (h : RY μ A) (hf : ∀ b j, (b = 183 → j = 5 ∨ j = 13 ∨ j = 14 ∨ j = 19) → (b ≤ 186 ∨ 209 ≤ b) → (b = 184 → j < 31 ∨ 472 ≤ j) → μ' b j = μ b j)
    (hX : MP (fun i => μ' 184 (31 + i)) (hP (aH A)) P) (hL : ML μ' (hP (aH A)) L) (hw : wfS (aH A) P) (hwL : ∀ P ∈ L, wfS (aH A) P) : RY μ' (setPL A P L) := by
  have h6 := h.n6
  have hwA := h.wf
  obtain ⟨h1, h2, h3, h4, h5, h6', h7, h8, h9, h10, h11⟩ := h
  have e : ∀ j, (j < 31 ∨ 472 ≤ j) → μ' 184 j = μ 184 j := fun j q => hf _ _ (by omega) (by omega) (fun _ => q)
  refine ⟨by rw [hf _ _ (by omega) (by omega) (by omega)]; exact h1, fun i i0 i1 => by rw [hf _ _ (by omega) (by omega) (by omega)]; exact h2 i i0 i1, by rw [hf _ _ (by omega) (by omega) (by omega)]; exact h3, by rw [hf _ _ (by omega) (by omega) (by omega)]; exact h4, by rw [hf _ _ (by omega) (by omega) (by omega)]; exact h5, ?_, hX, hL, ?_, fun t t0 t1 => (h10 t t0 t1).congr (fun b j _ _ => hf b j (by omega) (by omega) (by omega)), ?_⟩
  · exact h6'.congr (fun i q => e i (by omega)) h6.2
  · intro i i0 i1
    obtain ⟨q1, q2⟩ := h9 i i0 i1
    refine ⟨by rw [hf _ _ (by omega) (by omega) (by omega)]; exact q1, fun z => ?_⟩
    obtain ⟨q3, q4⟩ := q2 z
    have hwi := (hwA.2.2.2.2.2.2 i i0 i1).2 z
    exact ⟨q3.congr (fun k q => e _ (by omega)) hwi.1.2.2.1.2, q4.congr (fun k k0 k1 => e _ (by omega)) hwi.2.2.2.1 hwi.1.2.2.1.2⟩
  · obtain ⟨w1, w2, w3, w4, w5, w6, w7⟩ := h11
    exact ⟨w1, w2, w3, w4, hw, hwL, w7⟩
/-- the plan alone changes -/
def FP (μ μ' : Mem) : Prop := ∀ b j, (b = 184 → j < 31 ∨ 71 ≤ j) → μ' b j = μ b j
theorem RY.setP {μ μ' : Mem} {A : StT} {P : PlanT} (h : RY μ A) (hf : FP μ μ') (hX : MP (fun i => μ' 184 (31 + i)) (hP (aH A)) P) (hw : wfS (aH A) P) : RY μ' (setPL A P (aPast A)) := by
  have hp := h.past
  refine h.set (fun b j _ _ q => hf b j (by omega)) hX ?_ hw h.wf.2.2.2.2.2.1
  obtain ⟨p1, p2, p3⟩ := hp
  exact ⟨by rw [hf _ _ (by omega)]; exact p1, p2, fun j hj => (p3 j hj).congr (fun i i0 i1 => hf _ _ (by omega)) (h.wf.2.2.2.2.2.1 _ (List.getElem_mem hj)).2.2.1 h.n6.2⟩
theorem cb_stores {d : Nat} {sc : SC} {μ : Mem} {R : Mem → Prop} (hd : 1 ≤ d) (k : ∀ μ', (∀ b j, b ≠ 205 → μ' b j = μ b j) → (∀ i, 0 ≤ i → i < 40 → μ' 205 i = μ 184 (31 + i)) → R μ') : CAv mX10_stores d sc [(2, 183)] μ R := by
  refine byV (d' := 0) (by omega) (Q := R) ?_ (fun _ z => z)
  refine CTv_of mp_X10_stores (Nat.le_of_ble_eq_true rfl) ?_
  refine s_X10_stores_0 ?_
  have key : ∀ (r : Nat) (i : Int) (μ1 : Mem), i + r = 40 → 0 ≤ i → (∀ b j, b ≠ 205 → μ1 b j = μ b j) → (∀ j, 0 ≤ j → j < i → μ1 205 j = μ 184 (31 + j)) → WQ mX10_stores 0 sc (ZV sc R) 2 [(2, 183), (0, i)] [] μ1 := by
    intro r
    induction r with
    | zero =>
      intro i μ1 hi hi0 hf h1
      exact s_X10_stores_2 ⟨fun _ => k μ1 hf (fun j j0 j1 => h1 j j0 (by omega)), fun z => by omega⟩
    | succ r ih =>
      intro i μ1 hi hi0 hf h1
      refine s_X10_stores_2 ⟨fun z => by omega, fun _ => ⟨by omega, by omega, by omega, ?_⟩⟩
      intro μ5 e5
      refine ⟨by omega, ?_⟩
      rintro _ rfl
      refine ih (i + 1) μ5 (by omega) (by omega) (fun b j q => by rw [e5, mup_ap, if_neg (fun y => q y.1)]; exact hf b j q) (fun j j0 j1 => ?_)
      rw [e5, mup_ap]
      by_cases q : j = i
      · rw [if_pos ⟨rfl, q⟩, q]; exact hf _ _ (by decide)
      · rw [if_neg (fun y => q y.2)]; exact h1 j j0 (by omega)
  exact key 40 0 μ rfl (Int.le_refl _) (fun _ _ _ => rfl) (fun j j0 j1 => by omega)
theorem cb_isAgain {d : Nat} {sc : SC} {μ : Mem} {R : Mem → Prop} (hd : 1 ≤ d) (k : ∀ μ', FP μ μ' → (∀ i, 0 ≤ i → i < 40 → μ' 184 (31 + i) = μ 205 i) → R μ') : CAv mX10_isAgain d sc [(2, 183)] μ R := by
  refine byV (d' := 0) (by omega) (Q := R) ?_ (fun _ z => z)
  refine CTv_of mp_X10_isAgain (Nat.le_of_ble_eq_true rfl) ?_
  refine s_X10_isAgain_0 ?_
  have key : ∀ (r : Nat) (i : Int) (μ1 : Mem), i + r = 40 → 0 ≤ i → FP μ μ1 → (∀ j, 0 ≤ j → j < i → μ1 184 (31 + j) = μ 205 j) → WQ mX10_isAgain 0 sc (ZV sc R) 2 [(2, 183), (0, i)] [] μ1 := by
    intro r
    induction r with
    | zero =>
      intro i μ1 hi hi0 hf h1
      exact s_X10_isAgain_2 ⟨fun _ => k μ1 hf (fun j j0 j1 => h1 j j0 (by omega)), fun z => by omega⟩
    | succ r ih =>
      intro i μ1 hi hi0 hf h1
      refine s_X10_isAgain_2 ⟨fun z => by omega, fun _ => ⟨by omega, by omega, by omega, ?_⟩⟩
      intro μ5 e5
      refine ⟨by omega, ?_⟩
      rintro _ rfl
      refine ih (i + 1) μ5 (by omega) (by omega) (fun b j q => by rw [e5, mup_ap, if_neg (fun y => by have := q y.1; omega)]; exact hf b j q) (fun j j0 j1 => ?_)
      rw [e5, mup_ap]
      by_cases q : j = i
      · rw [if_pos ⟨rfl, by omega⟩, q]; exact hf _ _ (fun y => by omega)
      · rw [if_neg (fun y => by omega)]; exact h1 j j0 (by omega)
  exact key 40 0 μ rfl (Int.le_refl _) (fun _ _ _ => rfl) (fun j j0 j1 => by omega)
/-- what is stored is kept as the last of the past -/
theorem cb_notes {d : Nat} {sc : SC} {μ : Mem} {np : Int} {L : List PlanT} {P : PlanT} {R : Mem → Prop} (hd : 1 ≤ d) (hL : ML μ np L) (hP : MP (μ 205) np P) (h8 : pN P ≤ 8) (hL8 : ∀ P ∈ L, pN P ≤ 8) (h6 : np ≤ 6) (k : ∀ μ', (∀ b j, (b = 184 → j < 71 ∨ 472 ≤ j) → μ' b j = μ b j) → ML μ' np (pushP L P) → R μ') : CAv mX10_notes d sc [(2, 183)] μ R := by
  refine byV (d' := 0) (by omega) (Q := R) ?_ (fun _ z => z)
  refine CTv_of mp_X10_notes (Nat.le_of_ble_eq_true rfl) ?_

  have key : ∀ (M : List PlanT), M.length < 10 → pushP L P = M ++ [P] → (∀ Q ∈ M, pN Q ≤ 8) → ∀ (r : Nat) (i : Int) (μ1 : Mem), i + r = 40 → 0 ≤ i → (∀ b j, (b = 184 → j < 71 ∨ 472 ≤ j) → μ1 b j = μ b j) → ML μ1 np M → (∀ j, 0 ≤ j → j < i → μ1 184 (72 + 40 * (M.length : Int) + j) = μ 205 j) → WQ mX10_notes 0 sc (ZV sc R) 58 [(2, 183), (0, i)] [] μ1 := by
    intro M hM9 hM hM8 r
    induction r with
    | zero =>
      intro i μ1 hi hi0 hf hM1 h1
      obtain ⟨m1, m2, m3⟩ := hM1
      refine s_X10_notes_58 ⟨fun _ => ⟨by rw [m1]; omega, ?_⟩, fun z => by omega⟩
      rw [m1]
      intro μ5 e5
      have g : ∀ b j, (b = 184 → j ≠ 71) → μ5 b j = μ1 b j := fun b j q => by rw [e5, mup_ap, if_neg (fun y => q y.1 y.2)]
      refine k μ5 (fun b j q => by rw [g b j (by omega)]; exact hf b j q) ?_
      rw [hM]
      refine ⟨by rw [e5, mup_at, List.length_append, List.length_singleton]; omega, by rw [List.length_append, List.length_singleton]; omega, fun j hj => ?_⟩
      rw [List.length_append, List.length_singleton] at hj
      by_cases q : j = M.length
      · subst q
        rw [List.getElem_append_right (Nat.le_refl _)]
        simp only [Nat.sub_self, List.getElem_singleton]
        refine hP.congr (fun i i0 i1 => ?_) h8 h6
        rw [g _ _ (by omega)]; exact h1 i i0 (by omega)
      · rw [List.getElem_append_left (by omega)]
        exact (m3 j (by omega)).congr (fun i i0 i1 => g _ _ (by omega)) (hM8 _ (List.getElem_mem _)) h6
    | succ r ih =>
      intro i μ1 hi hi0 hf hM1 h1
      obtain ⟨m1, m2, m3⟩ := hM1
      refine s_X10_notes_58 ⟨fun z => by omega, fun _ => ?_⟩
      rw [m1]
      refine ⟨by omega, by omega, by omega, by omega, by omega, ?_⟩
      intro μ5 e5
      refine ⟨by omega, ?_⟩
      rintro _ rfl
      have g : ∀ b j, (b = 184 → j ≠ 72 + 40 * (M.length : Int) + i) → μ5 b j = μ1 b j := fun b j q => by rw [e5, mup_ap, if_neg (fun y => q y.1 y.2)]
      refine ih (i + 1) μ5 (by omega) (by omega) (fun b j q => by rw [g b j (by omega)]; exact hf b j q) ⟨by rw [g _ _ (by omega)]; exact m1, m2, fun j hj => (m3 j hj).congr (fun i i0 i1 => g _ _ (by omega)) (hM8 _ (List.getElem_mem _)) h6⟩ (fun j j0 j1 => ?_)
      by_cases q : j = i
      · rw [q, e5, mup_at]; exact hf _ _ (fun y => absurd y (by decide))
      · rw [g _ _ (by omega)]; exact h1 j j0 (by omega)
  obtain ⟨l1, l2, l3⟩ := hL
  refine s_X10_notes_0 ⟨fun z => ?_, fun z => ?_⟩
  · rw [l1] at z
    exact key L (by omega) (if_pos (by omega)) hL8 40 0 μ rfl (Int.le_refl _) (fun _ _ _ => rfl) ⟨l1, l2, l3⟩ (fun j j0 j1 => by omega)
  rw [l1] at z
  have hl10 : L.length = 10 := by omega
  have key2 : ∀ (r : Nat) (i : Int) (μ1 : Mem), i + r = 360 → 0 ≤ i → (∀ b j, (b = 184 → j < 72 ∨ 472 ≤ j) → μ1 b j = μ b j) → (∀ j, 0 ≤ j → j < i → μ1 184 (72 + j) = μ 184 (112 + j)) → (∀ j, i ≤ j → j < 400 → μ1 184 (72 + j) = μ 184 (72 + j)) → WQ mX10_notes 0 sc (ZV sc R) 14 [(2, 183), (0, i)] [] μ1 := by
    intro r
    induction r with
    | zero =>
      intro i μ1 hi hi0 hf h1 h2
      refine s_X10_notes_14 ⟨fun _ => ⟨by rw [hf _ _ (by omega)]; omega, ?_⟩, fun z => by omega⟩
      rw [hf 184 71 (by omega), l1]
      intro μ5 e5
      have g : ∀ b j, (b = 184 → j ≠ 71) → μ5 b j = μ1 b j := fun b j q => by rw [e5, mup_ap, if_neg (fun y => q y.1 y.2)]
      have htl : L.tail.length = 9 := by rw [List.length_tail]; omega
      refine key L.tail (by omega) (if_neg (by omega)) (fun Q hQ => hL8 Q (List.mem_of_mem_tail hQ)) 40 0 μ5 rfl (Int.le_refl _) (fun b j q => by rw [g b j (by omega)]; exact hf b j (by omega)) ⟨by rw [e5, mup_at, htl, hl10]; rfl, by omega, fun j hj => ?_⟩ (fun j j0 j1 => by omega)
      have hm := l3 (j + 1) (by omega)
      rw [List.getElem_tail]
      refine hm.congr (fun i2 i0 i1 => ?_) (hL8 _ (List.getElem_mem _)) h6
      show μ5 184 (72 + 40 * (j : Int) + i2) = μ 184 (72 + 40 * ((j + 1 : Nat) : Int) + i2)
      rw [g _ _ (by omega)]
      have := h1 (40 * (j : Int) + i2) (by omega) (by omega)
      rw [show 72 + 40 * (j : Int) + i2 = 72 + (40 * (j : Int) + i2) by omega, this, show 112 + (40 * (j : Int) + i2) = 72 + 40 * ((j + 1 : Nat) : Int) + i2 by omega]
    | succ r ih =>
      intro i μ1 hi hi0 hf h1 h2
      refine s_X10_notes_14 ⟨fun z => by omega, fun _ => ⟨by omega, by omega, by omega, by omega, ?_⟩⟩
      intro μ5 e5
      refine ⟨by omega, ?_⟩
      rintro _ rfl
      have g : ∀ b j, (b = 184 → j ≠ 72 + i) → μ5 b j = μ1 b j := fun b j q => by rw [e5, mup_ap, if_neg (fun y => q y.1 y.2)]
      refine ih (i + 1) μ5 (by omega) (by omega) (fun b j q => by rw [g b j (by omega)]; exact hf b j q) (fun j j0 j1 => ?_) (fun j j0 j1 => by rw [g _ _ (by omega)]; exact h2 j (by omega) j1)
      by_cases q : j = i
      · have := h2 (40 + i) (by omega) (by omega)
        rw [show 72 + (40 + i) = 112 + i by omega] at this
        rw [q, e5, mup_at]; exact this
      · rw [g _ _ (by omega)]; exact h1 j j0 (by omega)
  exact key2 360 0 μ rfl (Int.le_refl _) (fun _ _ _ => rfl) (fun j j0 j1 => by omega) (fun j j0 j1 => rfl)

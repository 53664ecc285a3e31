/-! BOTH SIDES: one call after the other -/
theorem RXc.low {μ μ' : Mem} {A : StT} (h : RXc μ A) (hs : ∀ b j, b < 183 → μ' b j = μ b j) : RXc μ' A := by
  have hn := h.now
  obtain ⟨h1, h2, h3, h4, h5, h6, h7, h8, h9, h10, h11⟩ := h
  have e2 : μ' 0 2 = μ 0 2 := hs _ _ (by omega)
  have hr : μ 0 2 = 2 ∨ μ 0 2 = 15 := by rcases h1 with q | q <;> omega
  refine ⟨by rw [e2, hs 0 3 (by omega)]; exact h1, by rw [hs _ _ (by omega)]; exact h2, fun i i0 i1 => by rw [hs _ _ (by omega)]; exact h3 i i0 i1, by rw [hs _ _ (by omega)]; exact h4, by rw [hs _ _ (by omega)]; exact h5, by rw [e2]; exact h6.same (fun b j _ _ => hs b j (by omega)), by rw [e2]; exact h7.same (fun b j _ _ => hs b j (by omega)), h8.same (fun b j _ _ => hs b j (by omega)), fun i i0 i1 => ?_, fun i i0 i1 => ?_, h11⟩
  · obtain ⟨q1, q2, q3⟩ := h9 i i0 i1
    exact ⟨by rw [hs _ _ (by omega)]; exact q1, by rw [hs _ _ (by omega)]; exact q2, fun z => ⟨(q3 z).1.same (fun b j _ _ => hs b j (by omega)), (q3 z).2.same (fun b j _ _ => hs b j (by omega))⟩⟩
  · obtain ⟨q1, q2⟩ := h10 i i0 i1
    exact ⟨by rw [hs _ _ (by omega)]; exact q1, q2.same (fun b j _ _ => hs b j (by omega))⟩
theorem RX.low {μ μ' : Mem} {A : StT} (h : RX μ A) (hs : ∀ b j, b < 183 → μ' b j = μ b j) : RX μ' A := by
  have hr : μ 0 2 = 2 ∨ μ 0 2 = 15 := by rcases h.1.1 with q | q <;> omega
  have e2 : μ' 0 2 = μ 0 2 := hs _ _ (by omega)
  refine ⟨h.1.low hs, fun z => ?_, fun z => ?_, fun z => ?_⟩
  · rw [hs _ _ (by omega)] at z
    have := h.2.1 z
    exact ⟨by rw [e2]; exact this.1.same (fun b j q => hs b j (by omega)), this.2.same (fun b j _ _ => hs b j (by omega))⟩
  · rw [hs _ _ (by omega)] at z
    exact (h.2.2.1 z).same (fun b j _ _ => hs b j (by omega))
  · rw [hs _ _ (by omega)] at z
    rw [hs _ _ (by omega), hs _ _ (by omega), hs _ _ (by omega), hs _ _ (by omega)]
    exact h.2.2.2 z
theorem RY.high {μ μ' : Mem} {A : StT} (h : RY μ A) (hs : ∀ b j, 183 ≤ b → μ' b j = μ b j) : RY μ' A := by
  obtain ⟨h1, h2, h3, h4, h5, h6, h7, h8, h9, h10, h11⟩ := h
  have e184 : μ' 184 = μ 184 := funext (fun j => hs _ _ (by omega))
  exact ⟨by rw [hs _ _ (by omega)]; exact h1, fun i i0 i1 => by rw [hs _ _ (by omega)]; exact h2 i i0 i1, by rw [hs _ _ (by omega)]; exact h3, by rw [hs _ _ (by omega)]; exact h4, by rw [hs _ _ (by omega)]; exact h5, by rw [e184]; exact h6, by rw [e184]; exact h7, by rw [e184]; exact h8, fun i i0 i1 => by rw [e184, hs 185 _ (by omega)]; exact h9 i i0 i1, fun t t0 t1 => (h10 t t0 t1).congr (fun b j _ _ => hs b j (by omega)), h11⟩
/-- both sides stand for one state -/
def RB (μ : Mem) (A : StT) : Prop := RX μ A ∧ RY μ A

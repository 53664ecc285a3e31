/-! SILENCE: start -/
theorem HS.same {μ μ' : Mem} {p last h : Int} {H : HillT} {P : PlanT} (hS : HS μ p last h H P) (h120 : ∀ j, j = 0 ∨ (4 ≤ j ∧ j ≤ 9) → μ' 120 j = μ 120 j) (hL : LRep μ' 97 h (h + 7) H P) : HS μ' p last h H P := by
  obtain ⟨s0, s4, s5, s6, s7, s8, s9, _⟩ := hS
  exact ⟨by rw [h120 _ (by omega)]; exact s0, by rw [h120 _ (by omega)]; exact s4, by rw [h120 _ (by omega)]; exact s5, by rw [h120 _ (by omega)]; exact s6, by rw [h120 _ (by omega)]; exact s7, by rw [h120 _ (by omega)]; exact s8, by rw [h120 _ (by omega)]; exact s9, hL⟩
theorem LRep.h97 {μ μ' : Mem} {h : Int} {H : HillT} {P : PlanT} (hX : LRep μ 97 h (h + 7) H P) (hs : ∀ b j, b < 105 ∨ 149 ≤ b → μ' b j = μ b j) : LRep μ' 97 h (h + 7) H P := by
  have := ik_1 hX.1.2.1
  exact hX.same (fun b j q => hs b j (by omega))
theorem ct_hstart {d : Nat} {sc : SC} {μ : Mem} {p h : Int} {H : HillT} {P : PlanT} (hd : 7 ≤ d) (hL : LRep μ 97 h (h + 7) H P) (hw : wfNp (hP H) P) :
    CTv mX2_start d sc [(2, 120), (0, p), (2, h), (2, 97), (2, 121), (2, 135)] μ (fun μ' => FRh μ μ' ∧ ∃ last, HS μ' p last h H P ∧ XE μ' 121 P ∧ ownL P p last ∧ (-1 ≤ last ∧ last ≤ 99) ∧ μ' 120 2 = -1 ∧ μ' 120 3 = -1 ∧
      ((silB H P P p = true ∧ μ' 120 1 = 0) ∨ (silB H P P p = false ∧ μ' 120 1 = -1 ∧ ∃ u : Nat, u < 100 ∧ spkAt (gapQ H P) (ansQ H P) P p u = true ∧ μ' 120 10 = min (u : Int) 20 * 6))) := by
  have hh := hL.1.2.1
  have hhv := ik_1 hh
  have k7 := hL.1.2.2.1
  have hXP := hL.1.2.2.2.2.2.2.1
  have hXH := hL.1.2.2.2.2.2.1
  have hp6 := hL.1.2.2.2.2.2.2.2.1.2.2.1
  refine CTv_of mp_X2_start (Nat.le_of_ble_eq_true rfl) ?_
  refine s_X2_start_0 hh k_97 k_121 k_135 ?_
  intro μ1 e1 μ2 e2 μ3 e3 μ4 e4 μ5 e5
  have f5 : ∀ b j, b ≠ 120 → μ5 b j = μ b j := fun b j q => by rw [e5, mup_ap, if_neg (fun z => q z.1), e4, mup_ap, if_neg (fun z => q z.1), e3, mup_ap, if_neg (fun z => q z.1), e2, mup_ap, if_neg (fun z => q z.1), e1, mup_ap, if_neg (fun z => q z.1)]
  have hm3 : μ1 h 3 = hP H := by rw [e1, mup_ap, if_neg (fun z => by omega)]; exact hXH.2.2.2.1.symm
  have v5 : μ5 120 0 = p ∧ μ5 120 4 = 97 ∧ μ5 120 5 = 121 ∧ μ5 120 6 = 135 ∧ μ5 120 7 = hP H := by
    refine ⟨?_, ?_, ?_, ?_, ?_⟩
    · simp [e5, e4, e3, e2, e1, mup_ap]
    · simp [e5, e4, e3, e2, e1, mup_ap]
    · simp [e5, e4, e3, e2, e1, mup_ap]
    · simp [e5, e4, e3, e2, e1, mup_ap]
    · rw [hm3] at e2
      simp [e5, e4, e3, e2, mup_ap]
  rw [v5.2.2.1]
  refine ⟨k_121, byV (d' := 2) (by omega) (ct_copyPlan (Nat.le_refl _) k_121 k7 (by omega)) ?_⟩
  rintro μ8 ⟨c1, c2⟩
  have hX8 : XP μ8 121 (hP H) P := c2 _ P (hXP.same (fun b j q1 q2 => f5 b j (by omega))) (by have := hw.1; omega) hp6.2
  rw [c1 120 5 (by omega), v5.2.2.1]
  refine ⟨k_121, ?_⟩
  intro μ10 e10 μ11 e11
  have f11 : ∀ b j, (b < 120 ∨ 126 < b) → μ11 b j = μ b j := fun b j q => by rw [e11, mup_ap, if_neg (fun z => by omega), e10, mup_ap, if_neg (fun z => by omega), c1 b j (by omega)]; exact f5 b j (by omega)
  have g11 : ∀ b j, 121 ≤ b → μ11 b j = μ8 b j := fun b j q => by rw [e11, mup_ap, if_neg (fun z => by omega), e10, mup_ap, if_neg (fun z => by omega)]
  have w11 : ∀ j, j ≠ 8 → j ≠ 9 → μ11 120 j = μ5 120 j := fun j q1 q2 => by rw [e11, mup_ap, if_neg (fun z => q2 z.2), e10, mup_ap, if_neg (fun z => q1 z.2)]; exact c1 _ _ (by omega)
  have w118 : μ11 120 8 = pN P := by
    rw [e11, mup_ap, if_neg (fun z => by omega), e10, mup_ap, if_pos ⟨rfl, rfl⟩]
    exact hX8.1
  have w119 : μ11 120 9 = -1 := by rw [e11, mup_ap, if_pos ⟨rfl, rfl⟩]
  have X11 : XN μ11 121 P := hX8.n.same (fun b j q1 q2 => g11 b j q1)
  have key : ∀ (r k : Nat) (l : Int) (μ1 : Mem), (k : Int) + r = pN P → (-1 ≤ l ∧ l ≤ 99) → (∀ j, 0 ≤ j → j < (k : Int) → pWho P j = p → pAt P j ≤ l) → μ1 120 9 = l → (∀ b j, (b = 120 → j ≠ 9) → μ1 b j = μ11 b j) →
      WQ mX2_start d sc (ZV sc (fun μ' => FRh μ μ' ∧ ∃ last, HS μ' p last h H P ∧ XE μ' 121 P ∧ ownL P p last ∧ (-1 ≤ last ∧ last ≤ 99) ∧ μ' 120 2 = -1 ∧ μ' 120 3 = -1 ∧
      ((silB H P P p = true ∧ μ' 120 1 = 0) ∨ (silB H P P p = false ∧ μ' 120 1 = -1 ∧ ∃ u : Nat, u < 100 ∧ spkAt (gapQ H P) (ansQ H P) P p u = true ∧ μ' 120 10 = min (u : Int) 20 * 6)))) 60 [(2, 120), (0, p), (9, 0), (9, 0), (9, 0), (9, 0), (0, (k : Int))] [] μ1 := by
    intro r
    induction r with
    | zero =>
      intro k l μ1 hk hl hj h9 hf
      refine s_X2_start_60 (by omega) ⟨fun _ => ?_, fun z => by rw [hf _ _ (by omega), w118] at z; omega⟩
      intro μ2 e2 μ3 e3
      have f3 : ∀ b j, (b = 120 → j ≠ 2 ∧ j ≠ 3) → μ3 b j = μ1 b j := fun b j q => by rw [e3, mup_ap, if_neg (fun z => (q z.1).2 z.2), e2, mup_ap, if_neg (fun z => (q z.1).1 z.2)]
      have u3 : ∀ j, j ≠ 2 → j ≠ 3 → j ≠ 8 → j ≠ 9 → μ3 120 j = μ5 120 j := fun j q1 q2 q3 q4 => by rw [f3 _ _ (fun _ => ⟨q1, q2⟩), hf _ _ (fun _ => q4)]; exact w11 j q3 q4
      have L3 : LRep μ3 97 h (h + 7) H P := hL.h97 (fun b j q => by rw [f3 b j (by omega), hf b j (by omega)]; exact f11 b j (by omega))
      have X3 : XN μ3 121 P := X11.same (fun b j q1 q2 => by rw [f3 b j (by omega)]; exact hf b j (by omega))
      have ho : ownL P p l := fun k k0 k1 hk => hj k k0 (by omega) hk
      have u39 : μ3 120 9 = l := by rw [f3 _ _ (by omega)]; exact h9
      have u38 : μ3 120 8 = pN P := by rw [f3 _ _ (by omega), hf _ _ (by omega)]; exact w118
      have u32 : μ3 120 2 = -1 ∧ μ3 120 3 = -1 := by simp [e3, e2, mup_ap]
      rw [u3 6 (by decide) (by decide) (by decide) (by decide), u3 5 (by decide) (by decide) (by decide) (by decide), u3 4 (by decide) (by decide) (by decide) (by decide), u39, v5.2.1, v5.2.2.1, v5.2.2.2.1]
      refine ⟨k_135, ca_hrun hd L3 X3 hw hl ho ?_⟩
      rintro x μ6 ⟨r1, r2, r3⟩
      have fin : ∀ (v : Int) (μ8 : Mem), μ8 = mup μ6 120 1 v → (∀ b j, (b = 120 → j ≠ 1 ∧ j ≠ 2 ∧ j ≠ 3 ∧ j ≠ 9) → (b < 101 ∨ 104 < b) → (b < 135 ∨ 146 < b) → μ8 b j = μ11 b j) ∧ μ8 120 1 = v ∧ μ8 120 2 = -1 ∧ μ8 120 3 = -1 ∧ μ8 120 9 = l ∧ μ8 120 6 = 135 ∧ μ8 135 6 = μ6 135 6 := by
        intro v μ8 e8
        have q0 : ∀ b j, (b = 120 → j ≠ 1) → μ8 b j = μ6 b j := fun b j q => by rw [e8, mup_ap, if_neg (fun z => q z.1 z.2)]
        refine ⟨fun b j q1 q2 q3 => ?_, by rw [e8, mup_ap, if_pos ⟨rfl, rfl⟩], ?_, ?_, ?_, ?_, q0 _ _ (by omega)⟩
        · rw [q0 b j (fun z => (q1 z).1), r1 b j q2 q3, f3 b j (fun z => ⟨(q1 z).2.1, (q1 z).2.2.1⟩), hf b j (fun z => (q1 z).2.2.2)]
        · rw [q0 _ _ (by omega), r1 _ _ (by omega) (by omega)]; exact u32.1
        · rw [q0 _ _ (by omega), r1 _ _ (by omega) (by omega)]; exact u32.2
        · rw [q0 _ _ (by omega), r1 _ _ (by omega) (by omega)]; exact u39
        · rw [q0 _ _ (by omega), r1 _ _ (by omega) (by omega), u3 _ (by decide) (by decide) (by decide) (by decide)]; exact v5.2.2.2.1
      have last : ∀ (v c : Int) (μ8 : Mem), μ8 = mup μ6 120 1 v → FRh μ (mup μ8 120 10 c) ∧ HS (mup μ8 120 10 c) p l h H P ∧ XE (mup μ8 120 10 c) 121 P ∧ ownL P p l ∧ (-1 ≤ l ∧ l ≤ 99) ∧ (mup μ8 120 10 c) 120 2 = -1 ∧ (mup μ8 120 10 c) 120 3 = -1 ∧ (mup μ8 120 10 c) 120 1 = v ∧ (mup μ8 120 10 c) 120 10 = c := by
        intro v c μ8 e8
        obtain ⟨g1, g2, g3, g4, g5, g6, g7⟩ := fin v μ8 e8
        have q0 : ∀ b j, (b = 120 → j ≠ 10) → mup μ8 120 10 c b j = μ8 b j := fun b j q => by rw [mup_ap, if_neg (fun z => q z.1 z.2)]
        have q1 : ∀ j, j = 0 ∨ (4 ≤ j ∧ j ≤ 8) → mup μ8 120 10 c 120 j = μ11 120 j := fun j q => by rw [q0 _ _ (by omega), g1 _ _ (by omega) (by omega) (by omega)]
        refine ⟨fun b j z1 z2 z3 => ?_, ⟨?_, ?_, ?_, ?_, ?_, ?_, ?_, ?_⟩, fun k k0 k1 => ?_, ho, hl, ?_, ?_, ?_, ?_⟩
        · rw [q0 b j (by omega), g1 b j (by omega) z1 z3]; exact f11 b j (by omega)
        · rw [q1 _ (by omega), w11 _ (by decide) (by decide)]; exact v5.1
        · rw [q1 _ (by omega), w11 _ (by decide) (by decide)]; exact v5.2.1
        · rw [q1 _ (by omega), w11 _ (by decide) (by decide)]; exact v5.2.2.1
        · rw [q1 _ (by omega), w11 _ (by decide) (by decide)]; exact v5.2.2.2.1
        · rw [q1 _ (by omega), w11 _ (by decide) (by decide)]; exact v5.2.2.2.2
        · rw [q1 _ (by omega)]; exact w118
        · rw [q0 _ _ (by omega)]; exact g5
        · exact r2.h97 (fun b j z => by rw [q0 b j (by omega), e8, mup_ap, if_neg (fun z => by omega)])
        · rw [q0 _ _ (by omega), g1 _ _ (by omega) (by omega) (by omega), q0 _ _ (by omega), g1 _ _ (by omega) (by omega) (by omega), q0 _ _ (by omega), g1 _ _ (by omega) (by omega) (by omega), q0 _ _ (by omega), g1 _ _ (by omega) (by omega) (by omega)]
          exact X11.2 k k0 k1
        · rw [q0 _ _ (by omega)]; exact g3
        · rw [q0 _ _ (by omega)]; exact g4
        · rw [q0 _ _ (by omega)]; exact g2
        · rw [mup_ap, if_pos ⟨rfl, rfl⟩]
      refine ⟨fun hx => ?_, fun hx => ?_⟩
      · intro μ8 e8
        obtain ⟨g1, g2, g3, g4, g5, g6, g7⟩ := fin _ μ8 e8
        have r3 : silB H P P p = false ∧ ∃ u : Nat, u < 100 ∧ spkAt (gapQ H P) (ansQ H P) P p u = true ∧ μ6 135 6 = u := by
          rcases r3 with ⟨x1, _⟩ | ⟨_, x2⟩
          · omega
          · exact x2
        obtain ⟨s1, u, u1, u2, u3'⟩ := r3
        refine byI (d' := 2) (by omega) (ct_inTime (Nat.le_refl _) g6 (by omega)) ?_
        rintro y μ10 ⟨hy, rfl⟩
        rintro _ rfl
        obtain ⟨l1, l2, l3, l4, l5, l6, l7, l8, l9⟩ := last _ y _ e8
        exact ⟨l1, l, l2, l3, l4, l5, l6, l7, Or.inr ⟨s1, l8, u, u1, u2, by rw [l9, hy, g7, u3']⟩⟩
      · intro μ8 e8
        obtain ⟨g1, g2, g3, g4, g5, g6, g7⟩ := fin _ μ8 e8
        have r3 : silB H P P p = true ∧ μ6 135 6 = -1 := by
          rcases r3 with ⟨_, x2⟩ | ⟨x1, _⟩
          · exact x2
          · omega
        refine byI (d' := 2) (by omega) (ct_inTime (Nat.le_refl _) g6 (by omega)) ?_
        rintro y μ10 ⟨hy, rfl⟩
        rintro _ rfl
        obtain ⟨l1, l2, l3, l4, l5, l6, l7, l8, l9⟩ := last _ y _ e8
        exact ⟨l1, l, l2, l3, l4, l5, l6, l7, Or.inl ⟨r3.1, l8⟩⟩
    | succ r ih =>
      intro k l μ1 hk hl hj h9 hf
      have hk10 := hw.1
      have h5 : μ1 120 5 = 121 := by rw [hf _ _ (by omega), w11 _ (by decide) (by decide)]; exact v5.2.2.1
      have hx := X11.2 k (by omega) (by omega)
      have hat := (hw.2 k (by omega) (by omega)).2.2.2
      refine s_X2_start_60 (by omega) ⟨fun z => by rw [hf _ _ (by omega), w118] at z; omega, fun _ => ?_⟩
      rw [h5, h9, hf (121 + 1) _ (by omega), hf (121 + 3) _ (by omega), hx.1, hx.2.2.1]
      refine ⟨k_121, by omega, fun hne => ⟨by omega, ?_⟩, fun heq => ⟨by omega, ?_⟩⟩
      · rintro _ rfl
        exact ih (k + 1) l μ1 (by omega) hl (fun j j0 j1 hj2 => by
          by_cases hjk : j = k
          · rw [hjk] at hj2; exact absurd hj2 hne
          · exact hj j j0 (by omega) hj2) h9 hf
      · intro μ22 e22
        refine ⟨by omega, ?_⟩
        rintro _ rfl
        refine ih (k + 1) (max l (pAt P k)) μ22 (by omega) (by omega) (fun j j0 j1 hj2 => ?_) (by rw [e22, mup_ap, if_pos ⟨rfl, rfl⟩]) (fun b j q => by rw [e22, mup_ap, if_neg (fun z => q z.1 z.2)]; exact hf b j q)
        by_cases hjk : j = k
        · rw [hjk]; omega
        · have := hj j j0 (by omega) hj2; omega
  exact key (pN P).toNat 0 (-1) μ11 (by have := hw.1; omega) (by decide) (fun j j0 j1 => by omega) w119 (fun _ _ _ => rfl)

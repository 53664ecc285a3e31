/-! THE CLASS'S LAWS: who, whom, far; gaps, pitches, answers -/
theorem far_b {h : HillT} {p : PlanT} (hw : wfH h) (hp : wfP h p) {a b : Int} (ha : 0 ≤ a ∧ a < hP h) (hb : 0 ≤ b ∧ b < hP h) : 0 ≤ farOf h p a b ∧ farOf h p a b ≤ 14 := by
  have h1 := hp.1 a ha.1 ha.2
  have h2 := hp.1 b hb.1 hb.2
  obtain ⟨⟨r1, r2⟩, ⟨c1, c2⟩, -⟩ := hw
  unfold farOf farS
  generalize pCell p a = x at *
  generalize pCell p b = y at *
  generalize hR h = R at *
  generalize hC h = C at *
  have hx : 0 ≤ x / C ∧ x / C < R := ⟨Int.ediv_nonneg h1.1 (by omega), Int.ediv_lt_of_lt_mul (by omega) h1.2⟩
  have hy : 0 ≤ y / C ∧ y / C < R := ⟨Int.ediv_nonneg h2.1 (by omega), Int.ediv_lt_of_lt_mul (by omega) h2.2⟩
  have hx2 : 0 ≤ x % C ∧ x % C < C := ⟨Int.emod_nonneg x (by omega), Int.emod_lt_of_pos x (by omega)⟩
  have hy2 : 0 ≤ y % C ∧ y % C < C := ⟨Int.emod_nonneg y (by omega), Int.emod_lt_of_pos y (by omega)⟩
  unfold iabs
  split <;> split <;> omega
theorem envS_b {h : HillT} {p : PlanT} (hw : wfH h) (hp : wfP h p) {a b g m : Int} (ha : 0 ≤ a ∧ a < hP h) (hb : 0 ≤ b ∧ b < hP h) (hg : 0 ≤ g ∧ g ≤ 20) (hm : 0 ≤ m ∧ m ≤ 100) : ∀ i, -1000000 ≤ envS h p a b g m i ∧ envS h p a b g m i ≤ 1000000 := by
  intro i
  have h1 := far_b hw hp ha hb
  have h2 := hw.2.2.2.1 a ha.1 ha.2
  have h3 := hw.2.2.2.1 b hb.1 hb.2
  have h4 := hp.2
  have h5 := hw.2.2.1
  unfold envS
  grind
/-- the laws' object speaks of this hill and plan -/
def LC (μ : Mem) (L h p : Int) (H : HillT) (P : PlanT) : Prop := isK 3 L ∧ isK 1 h ∧ isK 6 p ∧ μ L 3 = h ∧ μ L 4 = p ∧ XH μ h H ∧ XP μ p (hP H) P ∧ wfH H ∧ wfP H P
/-- the objects that a hill has -/
def ofHill (h b : Int) : Prop := h ≤ b ∧ b ≤ h + 12
def ofPlan (p b : Int) : Prop := p ≤ b ∧ b ≤ p + 5
theorem XH.same {μ μ' : Mem} {h : Int} {H : HillT} (hX : XH μ h H) (hs : ∀ b j, h ≤ b → b ≤ h + 6 → μ' b j = μ b j) : XH μ' h H := by
  have e : ∀ i j, 0 ≤ i → i ≤ 6 → μ' (h + i) j = μ (h + i) j := fun i j h0 h1 => hs _ j (by omega) (by omega)
  have e0 : ∀ j, μ' h j = μ h j := fun j => hs _ j (by omega) (by omega)
  unfold XH at hX ⊢
  simp only [e0, e 1 _ (by decide) (by decide), e 2 _ (by decide) (by decide), e 3 _ (by decide) (by decide), e 4 _ (by decide) (by decide), e 5 _ (by decide) (by decide), e 6 _ (by decide) (by decide)]
  exact hX
theorem XP.same {μ μ' : Mem} {p np : Int} {P : PlanT} (hX : XP μ p np P) (hs : ∀ b j, p ≤ b → b ≤ p + 5 → μ' b j = μ b j) : XP μ' p np P := by
  have e : ∀ i j, 0 ≤ i → i ≤ 5 → μ' (p + i) j = μ (p + i) j := fun i j h0 h1 => hs _ j (by omega) (by omega)
  have e0 : ∀ j, μ' p j = μ p j := fun j => hs _ j (by omega) (by omega)
  unfold XP at hX ⊢
  simp only [e0, e 1 _ (by decide) (by decide), e 2 _ (by decide) (by decide), e 3 _ (by decide) (by decide), e 4 _ (by decide) (by decide), e 5 _ (by decide) (by decide)]
  exact hX
/-- where laws, hills and plans lie -/
theorem apart3 {L h p : Int} (hL : isK 3 L) (hh : isK 1 h) (hp : isK 6 p) : (∀ b, (h ≤ b ∧ b ≤ h + 6) ∨ (p ≤ b ∧ b ≤ p + 5) → b ≠ L ∧ b ≠ L + 1 ∧ b ≠ L + 2 ∧ b ≠ L + 3 ∧ b ≠ L + 4 ∧ b ≠ L + 5 ∧ b ≠ L + 6 ∧ b ≠ L + 7) := by
  have h1 := ik_3 hL
  have h2 := ik_1 hh
  have h3 := ik_6 hp
  intro b hb
  omega
theorem LC.same {μ μ' : Mem} {L h p : Int} {H : HillT} {P : PlanT} (hX : LC μ L h p H P) (hs : ∀ b j, b ≠ L + 1 → b ≠ L + 2 → b ≠ L + 3 → b ≠ L + 4 → b ≠ L + 5 → b ≠ L + 6 → b ≠ L + 7 → μ' b j = μ b j) : LC μ' L h p H P := by
  obtain ⟨a1, a2, a3, a4, a5, a6, a7, a8, a9⟩ := hX
  have ap := apart3 a1 a2 a3
  refine ⟨a1, a2, a3, ?_, ?_, a6.same (fun b j h0 h1 => ?_), a7.same (fun b j h0 h1 => ?_), a8, a9⟩
  · rw [hs L 3 (by omega) (by omega) (by omega) (by omega) (by omega) (by omega) (by omega)]; exact a4
  · rw [hs L 4 (by omega) (by omega) (by omega) (by omega) (by omega) (by omega) (by omega)]; exact a5
  · have q := ap b (Or.inl ⟨h0, h1⟩)
    exact hs b j q.2.1 q.2.2.1 q.2.2.2.1 q.2.2.2.2.1 q.2.2.2.2.2.1 q.2.2.2.2.2.2.1 q.2.2.2.2.2.2.2
  · have q := ap b (Or.inr ⟨h0, h1⟩)
    exact hs b j q.2.1 q.2.2.1 q.2.2.2.1 q.2.2.2.2.1 q.2.2.2.2.2.1 q.2.2.2.2.2.2.1 q.2.2.2.2.2.2.2
theorem ct_nameTwo {d : Nat} {sc : SC} {μ : Mem} {L h p who whom : Int} {H : HillT} {P : PlanT} (hd : 2 ≤ d) (hX : LC μ L h p H P) (ha : 0 ≤ who ∧ who < hP H) (hb : 0 ≤ whom ∧ whom < hP H) :
    CTv mX3_nameTwo d sc [(2, L), (0, who), (0, whom)] μ (fun μ' => (∀ b j, b ≠ L + 4 → μ' b j = μ b j) ∧ (∀ i, 0 ≤ i → i ≤ 6 → μ' (L + 4) i = envS H P who whom 0 0 i) ∧ ∀ i, 6 < i → μ' (L + 4) i = μ (L + 4) i) := by
  obtain ⟨a1, a2, a3, a4, a5, a6, a7, a8, a9⟩ := hX
  have ap := apart3 a1 a2 a3
  have e1 := ap h (Or.inl ⟨by omega, by omega⟩)
  have e2 := ap (h + 1) (Or.inl ⟨by omega, by omega⟩)
  have e3 := ap (h + 2) (Or.inl ⟨by omega, by omega⟩)
  have e4 := ap (h + 3) (Or.inl ⟨by omega, by omega⟩)
  have e5 := ap p (Or.inr ⟨by omega, by omega⟩)
  have e6 := ap (p + 5) (Or.inr ⟨by omega, by omega⟩)
  have hfb := far_b a8 a9 ha hb
  have hca := a9.1 who ha.1 ha.2
  have hcb := a9.1 whom hb.1 hb.2
  have hl1 := a6.2.2.2.2.1 who ha.1 ha.2
  have hl2 := a6.2.2.2.2.1 whom hb.1 hb.2
  have hc1 := a7.2.2.1 who ha.1 ha.2
  have hc2 := a7.2.2.1 whom hb.1 hb.2
  have hcol := a6.2.1
  have hwd := a7.2.2.2
  have hp6 := a8.2.2.1
  have hC8 := a8.2.1
  have hR8 := a8.1
  have hcell : pCell P who < 64 ∧ pCell P whom < 64 := by
    have h1 : hR H * hC H ≤ 8 * 8 := Int.mul_le_mul hR8.2 hC8.2 (by omega) (by omega)
    omega
  refine CTv_of mp_X3_nameTwo (Nat.le_of_ble_eq_true rfl) ?_
  refine s_X3_nameTwo_0 a1 ?_
  rw [a4]
  refine ⟨a2, fun _ => ?_, fun z => by omega⟩
  refine s_X3_nameTwo_22 hd a1 ?_
  rw [a5]
  refine ⟨a3, by omega, ?_⟩
  rintro _ rfl
  refine ⟨by omega, ?_⟩
  rintro _ rfl
  rw [hc1, hc2, ← hcol]
  have d1 : 0 ≤ pCell P who / hC H ∧ pCell P who / hC H < 64 := ⟨Int.ediv_nonneg hca.1 (by omega), by have := Int.ediv_le_self (hC H) hca.1; omega⟩
  have d2 : 0 ≤ pCell P whom / hC H ∧ pCell P whom / hC H < 64 := ⟨Int.ediv_nonneg hcb.1 (by omega), by have := Int.ediv_le_self (hC H) hcb.1; omega⟩
  have d3 : 0 ≤ pCell P who % hC H ∧ pCell P who % hC H < 8 := ⟨Int.emod_nonneg _ (by omega), by have := Int.emod_lt_of_pos (pCell P who) (show 0 < hC H by omega); omega⟩
  have d4 : 0 ≤ pCell P whom % hC H ∧ pCell P whom % hC H < 8 := ⟨Int.emod_nonneg _ (by omega), by have := Int.emod_lt_of_pos (pCell P whom) (show 0 < hC H by omega); omega⟩
  rintro _ rfl
  simp only [mup_ap, e1.2.2.2.2.1, e2.2.2.2.2.1, e3.2.2.2.2.1, e4.2.2.2.2.1, e5.2.2.2.2.1, false_and, if_false, a4, show L ≠ L + 4 by omega]
  refine ⟨a2, by omega, ?_⟩
  rintro _ rfl
  simp only [mup_ap, e1.2.2.2.2.1, e2.2.2.2.2.1, e3.2.2.2.2.1, e4.2.2.2.2.1, e5.2.2.2.2.1, false_and, if_false, a4, show L ≠ L + 4 by omega]
  refine ⟨a2, by omega, ?_⟩
  rintro _ rfl
  simp only [mup_ap, e1.2.2.2.2.1, e2.2.2.2.2.1, e3.2.2.2.2.1, e4.2.2.2.2.1, e5.2.2.2.2.1, false_and, if_false, a4, show L ≠ L + 4 by omega]
  refine ⟨a2, by omega, ?_⟩
  rintro _ rfl _ rfl _ rfl
  have hfar : iabs (pCell P who / hC H - pCell P whom / hC H) + iabs (pCell P who % hC H - pCell P whom % hC H) = farOf H P who whom := rfl
  rw [hfar]
  refine ⟨by omega, by omega, by omega, by omega, by omega, by omega, by omega, by omega, by omega, ?_⟩
  rintro _ rfl
  rw [hl1.1, hl1.2.2, hl2.2.1, hwd]
  refine ⟨fun b j hb => ?_, fun i h0 h1 => ?_, fun i h0 => ?_⟩
  · simp only [mup_ap, hb, false_and, if_false]
  · simp only [mup_ap]
    unfold envS
    grind
  · simp only [mup_ap]
    grind
theorem ct_hasLaw {d : Nat} {sc : SC} {μ : Mem} {h l : Int} {H : HillT} (hh : isK 1 h) (hH : XH μ h H) (hl : 0 ≤ l ∧ l < 3) :
    CTi mX1_hasLaw d sc [(2, h), (0, l)] μ (fun x μ' => x = (if 0 < hLen H l then 1 else 0) ∧ μ' = μ) := by
  obtain ⟨⟨f1, f2, f3⟩, f4⟩ := hH.2.2.2.2.2 l hl.1 hl.2
  refine CTi_of mp_X1_hasLaw (Nat.le_of_ble_eq_true rfl) ?_
  refine s_X1_hasLaw_0 hh ⟨hl, hl, fun z => ⟨?_, rfl⟩, fun z => ⟨?_, rfl⟩⟩
  · rw [if_neg (by omega)]
  · rw [if_pos (by omega)]
theorem ct_gapOf {d : Nat} {sc : SC} {μ : Mem} {L h p who whom : Int} {H : HillT} {P : PlanT} (hd : 3 ≤ d) (hX : LC μ L h p H P) (ha : 0 ≤ who ∧ who < hP H) (hb : 0 ≤ whom ∧ whom < hP H) :
    CTi mX3_gapOf d sc [(2, L), (0, who), (0, whom)] μ (fun x μ' => x = gapS H P who whom ∧ (∀ b j, b ≠ L + 4 → b ≠ L + 5 → μ' b j = μ b j) ∧ (∀ i, 0 ≤ i → i ≤ 6 → μ' (L + 4) i = envS H P who whom 0 0 i) ∧ ∀ i, 6 < i → μ' (L + 4) i = μ (L + 4) i) := by
  refine CTi_of mp_X3_gapOf (Nat.le_of_ble_eq_true rfl) ?_
  refine s_X3_gapOf_0 (by omega) hX.1 ?_
  refine byV (d' := 2) (by omega) (ct_nameTwo (Nat.le_refl _) hX ha hb) ?_
  rintro μ2 ⟨n1, n2, n3⟩
  have hX2 : LC μ2 L h p H P := hX.same (fun b j _ _ _ h4 _ _ _ => n1 b j h4)
  obtain ⟨a1, a2, a3, a4, a5, a6, a7, a8, a9⟩ := hX2
  rw [a4]
  refine ⟨a2, byI (d' := 2) (by omega) (ct_hasLaw a2 a6 (by decide)) ?_⟩
  rintro r μ5 ⟨rfl, rfl⟩
  have hlw := a8.2.2.2.2 0 (by decide) (by decide)
  have hfb := far_b a8 a9 ha hb
  have h6 : μ5 (L + 4) 6 = farOf H P who whom := n2 6 (by decide) (by decide)
  refine ⟨fun z => ⟨by omega, ?_⟩, fun z => ?_⟩
  · rintro _ rfl
    refine ⟨?_, fun b j h4 _ => n1 b j h4, n2, n3⟩
    have : ¬ 0 < hLen H 0 := fun q => by rw [if_pos q] at z; exact absurd z (by decide)
    unfold gapS
    rw [if_neg this, h6]; rfl
  · have hq : 0 < hLen H 0 := by
      by_cases q : 0 < hLen H 0
      · exact q
      · rw [if_neg q] at z; exact absurd rfl z
    refine byI (d' := 2) (by omega) (ct_work (env := envS H P who whom 0 0) (Nat.le_refl _) a1 a2 (by decide) a4 a6 (hlw.2.1 hq) hlw.1.1 (envS_b a8 a9 ha hb (by decide) (by decide)) ?_) ?_
    · intro k k0 k1 k2 k3
      have := hlw.2.2 (by decide) k k0 k1
      exact n2 _ (by omega) (by omega)
    · rintro x μ11 ⟨rfl, hm⟩
      refine ⟨?_, fun b j h4 h5 => (hm b j h5).trans (n1 b j h4), fun i h0 h1 => (hm _ i (by omega)).trans (n2 i h0 h1), fun i h0 => (hm _ i (by omega)).trans (n3 i h0)⟩
      unfold gapS
      rw [if_pos hq]; rfl

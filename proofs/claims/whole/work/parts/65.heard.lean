/-! THE CLASS ASKED OTHERWISE: cells that fit what was heard -/
def vOk (A : StT) (p v : Int) : Bool := decide (0 ≤ v ∧ v / 100 < hP (aH A) ∧ v / 100 ≠ p ∧ 1 ≤ v % 100 ∧ v % 100 ≤ 20)
def allN (f : Int → Bool) : Nat → Bool
  | 0 => true
  | n + 1 => allN f n && f n
theorem allN_f {f : Int → Bool} {n : Nat} (h : allN f n = false) : ∀ r : Nat, allN f (n + r) = false := by
  intro r
  induction r with
  | zero => exact h
  | succ r ih => rw [← Nat.add_assoc, allN, ih, Bool.false_and]
theorem allN_at {f : Int → Bool} {n : Nat} (h : allN f n = true) : ∀ i : Int, 0 ≤ i → i < n → f i = true := by
  induction n with
  | zero => intro i i0 i1; omega
  | succ n ih =>
    intro i i0 i1
    rw [allN, Bool.and_eq_true] at h
    by_cases q : i = n
    · rw [q]; exact h.2
    · exact ih h.1 i i0 (by omega)
def refS (A : StT) (t p : Int) : Int := if (0 ≤ t ∧ t < 4) ∧ ipS A p then (if tThere (aTray A t) = 0 then -6 else if tN (aTray A t) < 1 ∨ 6 < tN (aTray A t) then -4 else if allN (fun i => vOk A p (tNum (aTray A t) i)) (tN (aTray A t)).toNat = true then 0 else -3) else -2
theorem refS_0 {A : StT} {t p : Int} (h : refS A t p = 0) : ((0 ≤ t ∧ t < 4) ∧ ipS A p) ∧ tThere (aTray A t) ≠ 0 ∧ (1 ≤ tN (aTray A t) ∧ tN (aTray A t) ≤ 6) ∧ allN (fun i => vOk A p (tNum (aTray A t) i)) (tN (aTray A t)).toNat = true := by
  unfold refS at h
  by_cases h1 : (0 ≤ t ∧ t < 4) ∧ ipS A p
  · rw [if_pos h1] at h
    by_cases h2 : tThere (aTray A t) = 0
    · rw [if_pos h2] at h; exact absurd h (by decide)
    rw [if_neg h2] at h
    by_cases h3 : tN (aTray A t) < 1 ∨ 6 < tN (aTray A t)
    · rw [if_pos h3] at h; exact absurd h (by decide)
    rw [if_neg h3] at h
    by_cases h4 : allN (fun i => vOk A p (tNum (aTray A t) i)) (tN (aTray A t)).toNat = true
    · exact ⟨h1, h2, by omega, h4⟩
    · rw [if_neg h4] at h; exact absurd h (by decide)
  · rw [if_neg h1] at h; exact absurd h (by decide)
theorem ca_refuse {d : Nat} {sc : SC} {μ : Mem} {A : StT} {t p : Int} {R : Int → Mem → Prop} (hd : 2 ≤ d) (h : RXc μ A) (k : R (refS A t p) μ) : CAi mX9_refuseHeard d sc [(2, 0), (0, t), (0, p)] μ R := by
  refine byI (d' := 1) (by omega) (Q := fun x μ' => x = refS A t p ∧ μ' = μ) ?_ (fun x μ' q => by rw [q.1, q.2]; exact k)
  refine CTi_of mp_X9_refuseHeard (Nat.le_of_ble_eq_true rfl) ?_
  have bad : ¬ ((0 ≤ t ∧ t < 4) ∧ ipS A p) → (-2 : Int) = refS A t p ∧ μ = μ := fun z => ⟨(if_neg z).symm, rfl⟩
  refine s_X9_refuseHeard_0 (ca_isTray (by omega) (fun z => ⟨fun _ => bad (fun y => z y.1), fun q => absurd rfl q⟩) (fun ht => ⟨fun q => absurd q (by decide), fun _ => ?_⟩))
  refine ca_isPerson (by omega) h (fun z => ⟨fun q => absurd rfl q, fun _ => bad (fun y => z y.2)⟩) (fun zp => ⟨fun _ => ?_, fun q => absurd q (by decide)⟩)
  have e96 := (h.tray t ht.1 ht.2).1
  have hk := k_tray ht
  obtain ⟨b1, b2⟩ := there_b h ht
  have hin : (0 ≤ t ∧ t < 4) ∧ ipS A p := ⟨ht, zp⟩
  rw [e96, b1]
  refine ⟨ht, hk, fun z => ?_, fun z => ⟨by unfold refS; rw [if_pos hin, if_pos z], rfl⟩⟩
  have hT : tThere (aTray A t) = 1 := by omega
  obtain ⟨_, _, q3⟩ := (h.tray t ht.1 ht.2).2
  obtain ⟨q1, q2, q4, q5, q6⟩ := q3 hT
  rw [q2]
  have hS : ∀ v : Int, ¬ (tN (aTray A t) < 1 ∨ 6 < tN (aTray A t)) → v = (if allN (fun i => vOk A p (tNum (aTray A t) i)) (tN (aTray A t)).toNat = true then 0 else -3) → v = refS A t p := fun v z3 z4 => by
    unfold refS; rw [if_pos hin, if_neg z, if_neg z3]; exact z4
  refine ⟨fun z2 => ⟨by unfold refS; rw [if_pos hin, if_neg z, if_pos (Or.inl z2)], rfl⟩, fun z2 => ⟨fun z3 => ?_, fun z3 => ⟨by unfold refS; rw [if_pos hin, if_neg z, if_pos (Or.inr z3)], rfl⟩⟩⟩
  have key : ∀ (r i : Nat), (i : Int) + r = tN (aTray A t) → allN (fun i => vOk A p (tNum (aTray A t) i)) i = true →
      WQ mX9_refuseHeard 1 sc (ZI sc (fun x μ' => x = refS A t p ∧ μ' = μ)) 58 [(2, 0), (9, 0), (0, p), (2, 175 + 2 * t), (0, (i : Int)), (9, 0), (9, 0)] [] μ := by
    intro r
    induction r with
    | zero =>
      intro i hi ha
      refine s_X9_refuseHeard_58 hk ⟨fun _ => ⟨hS _ (by omega) ?_, rfl⟩, fun q => by rw [q2] at q; omega⟩
      rw [show (tN (aTray A t)).toNat = i by omega, if_pos ha]
    | succ r ih =>
      intro i hi ha
      have no : vOk A p (tNum (aTray A t) i) = false → (-3 : Int) = refS A t p ∧ μ = μ := fun e => by
        refine ⟨hS _ (by omega) ?_, rfl⟩
        have e1 : allN (fun i => vOk A p (tNum (aTray A t) i)) (i + 1) = false := by rw [allN, e, Bool.and_false]
        have := allN_f e1 r
        rw [show (tN (aTray A t)).toNat = i + 1 + r by omega, this, if_neg (by decide)]
      refine s_X9_refuseHeard_58 hk ⟨fun q => by rw [q2] at q; omega, fun _ => ⟨by omega, ?_⟩⟩
      intro v hv
      rw [q6 i (by omega) (by omega)] at hv
      refine ⟨fun v0 => no (decide_eq_false (by omega)), fun v0 => ⟨v0, h.now.1, ?_⟩⟩
      rw [h.np]
      refine ⟨fun v1 => no (decide_eq_false (by omega)), fun v1 => ⟨v0, fun v2 => no (decide_eq_false (by omega)), fun v2 => ⟨v0, ?_⟩⟩⟩
      refine ca_isGap (Nat.le_refl _) (fun v3 => ⟨fun q => absurd rfl q, fun _ => no (decide_eq_false (by omega))⟩) (fun v3 => ⟨fun _ => ⟨by omega, ?_⟩, fun q => absurd q (by decide)⟩)
      rintro _ rfl
      refine ih (i + 1) (by omega) ?_
      rw [allN, ha, Bool.true_and]
      exact decide_eq_true (by omega)
  exact key (tN (aTray A t)).toNat 0 (by omega) rfl
def heardF (A : StT) (t p : Int) (c : Int) : Bool := allN (fun i => decide (gapS (aH A) (moveC (aP A) p c) p (tNum (aTray A t) i / 100) = tNum (aTray A t) i % 100)) (tN (aTray A t)).toNat
def heardL (A : StT) (t p : Int) : Nat → List Int
  | 0 => []
  | n + 1 => heardL A t p n ++ if heardF A t p n = true then [(n : Int)] else []
theorem heardL_len (A : StT) (t p : Int) : ∀ n : Nat, (heardL A t p n).length ≤ n := by
  intro n
  induction n with
  | zero => exact Nat.le_refl _
  | succ n ih => rw [heardL, List.length_append]; split <;> simp <;> omega
theorem heardL_mem (A : StT) (t p : Int) : ∀ (n : Nat) (c : Int), c ∈ heardL A t p n → 0 ≤ c ∧ c < n := by
  intro n
  induction n with
  | zero => intro c hc; exact absurd hc (by simp [heardL])
  | succ n ih =>
    intro c hc
    rw [heardL, List.mem_append] at hc
    rcases hc with hc | hc
    · have := ih c hc; omega
    · split at hc
      · rw [List.mem_singleton] at hc; omega
      · exact absurd hc (by simp)
/-- the cells found lie in their row -/
def FD (μ : Mem) (L : List Int) : Prop := ∀ k : Nat, ∀ h : k < L.length, μ 147 k = L[k]
theorem ca_findHeard {d : Nat} {sc : SC} {μ : Mem} {A : StT} {t p : Int} {R : Int → Mem → Prop} (hd : 6 ≤ d) (h : RX μ A) (hr : refS A t p = 0)
    (k : ∀ μ' PT, (∀ b j, b < 121 ∨ 134 < b → b ≠ 147 → μ' b j = μ b j) → FD μ' (heardL A t p (hR (aH A) * hC (aH A)).toNat) → LC μ' 127 (μ 0 2) 121 (aH A) PT → (∀ e, moveC PT p e = moveC (aP A) p e) → R ((heardL A t p (hR (aH A) * hC (aH A)).toNat).length : Int) μ') :
    CAi mX9_findHeard d sc [(2, 0), (2, 175 + 2 * t), (0, p)] μ R := by
  obtain ⟨⟨ht, zp⟩, hT0, hn, hall⟩ := refS_0 hr
  have hp0 := zp.1
  have hp1 := zp.2
  have h6 := h.1.wfh.2.2.1
  have hcb := cells_b h.1.wfh
  have hkt := k_tray ht
  obtain ⟨_, b2, q3⟩ := (h.1.tray t ht.1 ht.2).2
  obtain ⟨q1, q2, q4, q5, q6⟩ := q3 (by omega)
  refine byI (d' := 5) (by omega) (Q := fun x μ' => x = ((heardL A t p (hR (aH A) * hC (aH A)).toNat).length : Int) ∧ ∃ PT, (∀ b j, b < 121 ∨ 134 < b → b ≠ 147 → μ' b j = μ b j) ∧ FD μ' (heardL A t p (hR (aH A) * hC (aH A)).toNat) ∧ LC μ' 127 (μ 0 2) 121 (aH A) PT ∧ (∀ e, moveC PT p e = moveC (aP A) p e)) ?_ (fun x μ' q => by
    obtain ⟨rfl, PT, a1, a2, a3, a4⟩ := q
    exact k μ' PT a1 a2 a3 a4)
  refine CTi_of mp_X9_findHeard (Nat.le_of_ble_eq_true rfl) ?_
  refine s_X9_findHeard_0 hkt (ca_startTL (by omega) h.1 ?_)
  intro μ2 f2 L2
  generalize hCe : hR (aH A) * hC (aH A) = ce at *
  generalize hQ : (fun (x : Int) (μ' : Mem) => x = ((heardL A t p ce.toNat).length : Int) ∧ ∃ PT, (∀ b j, b < 121 ∨ 134 < b → b ≠ 147 → μ' b j = μ b j) ∧ FD μ' (heardL A t p ce.toNat) ∧ LC μ' 127 (μ 0 2) 121 (aH A) PT ∧ (∀ e, moveC PT p e = moveC (aP A) p e)) = Q
  have hR : ∀ μ1 : Mem, (∀ b j, b < 121 ∨ 134 < b → b ≠ 147 → μ1 b j = μ b j) → RX μ1 A := fun μ1 hf => h.trial2 (fun b j _ q => hf b j (by omega) (by omega))
  -- the cells
  have key : ∀ (r c : Nat) (PT : PlanT) (μ1 : Mem), (c : Int) + r = ce → (∀ b j, b < 121 ∨ 134 < b → b ≠ 147 → μ1 b j = μ b j) → FD μ1 (heardL A t p c) → LC μ1 127 (μ 0 2) 121 (aH A) PT → (∀ e, moveC PT p e = moveC (aP A) p e) →
      WQ mX9_findHeard 5 sc (ZI sc Q) 9 [(2, 0), (2, 175 + 2 * t), (0, p), (0, ((heardL A t p c).length : Int)), (0, (c : Int)), (9, 0), (9, 0), (9, 0)] [] μ1 := by
    intro r
    induction r with
    | zero =>
      intro c PT μ1 hc hf hF hL hm
      have h1 := hR μ1 hf
      refine s_X9_findHeard_9 hkt ⟨h1.1.now.1, ca_cells (by omega) h1.1 ?_⟩
      rw [hCe]
      refine ⟨fun _ => ?_, fun q => by omega⟩
      rw [← hQ, show ce.toNat = c by omega]
      exact ⟨rfl, PT, hf, hF, hL, hm⟩
    | succ r ih =>
      intro c PT μ1 hc hf hF hL hm
      have h1 := hR μ1 hf
      have hl := heardL_len A t p c
      refine s_X9_findHeard_9 hkt ⟨h1.1.now.1, ca_cells (by omega) h1.1 ?_⟩
      rw [hCe]
      refine ⟨fun q => by omega, fun _ => ⟨fun q => by omega, fun _ => ⟨by omega, ?_⟩⟩⟩
      intro μ7 e7
      have f7 : ∀ b j, b < 121 ∨ 134 < b → b ≠ 147 → μ7 b j = μ b j := fun b j z1 z2 => by rw [e7, mup_ap, if_neg (fun y => by omega)]; exact hf b j z1 z2
      have F7 : FD μ7 (heardL A t p c) := fun k hk => by rw [e7, mup_ap, if_neg (fun y => by omega)]; exact hF k hk
      have L7 : LC μ7 127 (μ 0 2) 121 (aH A) (moveC (aP A) p c) := by rw [← hm, e7]; exact hL.move ⟨by omega, by rw [hCe]; omega⟩
      have hm' : ∀ e, moveC (moveC (aP A) p c) p e = moveC (aP A) p e := fun e => moveC_two _ _ _ _
      -- on to the next cell
      have no : ∀ μ9 : Mem, heardF A t p c = false → (∀ b j, b < 121 ∨ 134 < b → b ≠ 147 → μ9 b j = μ b j) → FD μ9 (heardL A t p c) → LC μ9 127 (μ 0 2) 121 (aH A) (moveC (aP A) p c) →
          WQ mX9_findHeard 5 sc (ZI sc Q) 9 [(2, 0), (2, 175 + 2 * t), (0, p), (0, ((heardL A t p c).length : Int)), (0, (c : Int) + 1), (9, 0), (9, 0), (9, 0)] [] μ9 := by
        intro μ9 e f9 F9 L9
        have el : heardL A t p (c + 1) = heardL A t p c := by rw [heardL, e, if_neg (by decide), List.append_nil]
        have := ih (c + 1) _ μ9 (by omega) f9 (by rw [el]; exact F9) L9 hm'
        rw [el] at this
        exact this
      have yes : ∀ μ9 : Mem, heardF A t p c = true → (∀ b j, b < 121 ∨ 134 < b → b ≠ 147 → μ9 b j = μ b j) → FD μ9 (heardL A t p c) → LC μ9 127 (μ 0 2) 121 (aH A) (moveC (aP A) p c) →
          WQ mX9_findHeard 5 sc (ZI sc Q) 9 [(2, 0), (2, 175 + 2 * t), (0, p), (0, ((heardL A t p c).length : Int) + 1), (0, (c : Int) + 1), (9, 0), (9, 0), (9, 0)] [] (mup μ9 147 ((heardL A t p c).length : Int) c) := by
        intro μ9 e f9 F9 L9
        have el : heardL A t p (c + 1) = heardL A t p c ++ [(c : Int)] := by rw [heardL, if_pos e]
        have := ih (c + 1) _ (mup μ9 147 ((heardL A t p c).length : Int) c) (by omega) (fun b j z1 z2 => by rw [mup_ap, if_neg (fun y => z2 y.1)]; exact f9 b j z1 z2) ?_ ?_ hm'
        · rw [el, List.length_append] at this
          exact this
        · rw [el]
          intro k hk
          rw [List.length_append, List.length_singleton] at hk
          rw [mup_ap]
          by_cases q : k = (heardL A t p c).length
          · subst q
            rw [if_pos ⟨rfl, rfl⟩]; simp
          · rw [if_neg (fun y => by omega), F9 k (by omega), List.getElem_append_left (by omega)]
        · have hh := ik_1 L9.2.1
          exact L9.near (fun b j q => by rw [mup_ap, if_neg (fun y => by omega)])
      -- the numbers heard
      have inner : ∀ (r i : Nat) (fit : Int) (μ9 : Mem), (i : Int) + r = tN (aTray A t) → (fit = if allN (fun i => decide (gapS (aH A) (moveC (aP A) p c) p (tNum (aTray A t) i / 100) = tNum (aTray A t) i % 100)) i = true then 1 else 0) → (∀ b j, b < 121 ∨ 134 < b → b ≠ 147 → μ9 b j = μ b j) → FD μ9 (heardL A t p c) → LC μ9 127 (μ 0 2) 121 (aH A) (moveC (aP A) p c) →
          WQ mX9_findHeard 5 sc (ZI sc Q) 45 [(2, 0), (2, 175 + 2 * t), (0, p), (0, ((heardL A t p c).length : Int)), (0, (c : Int)), (0, fit), (0, (i : Int)), (9, 0)] [] μ9 := by
        intro r
        induction r with
        | zero =>
          intro i fit μ9 hi hfit f9 F9 L9
          have hF2 : heardF A t p c = allN (fun i => decide (gapS (aH A) (moveC (aP A) p c) p (tNum (aTray A t) i / 100) = tNum (aTray A t) i % 100)) i := by unfold heardF; rw [show (tN (aTray A t)).toNat = i by omega]
          refine s_X9_findHeard_45 hkt ⟨fun _ => ⟨fun z => ⟨by omega, ?_⟩, fun z => ⟨by omega, ?_⟩⟩, fun q => by rw [f9 _ _ (by omega) (by omega), q2] at q; omega⟩
          · rintro _ rfl
            refine no μ9 ?_ f9 F9 L9
            rw [hF2]
            exact Bool.eq_false_iff.mpr (fun q => by rw [if_pos q] at hfit; omega)
          · intro μ6 e6
            refine ⟨by omega, ?_⟩
            rintro _ rfl
            refine ⟨by omega, ?_⟩
            rintro _ rfl
            rw [e6]
            refine yes μ9 ?_ f9 F9 L9
            rw [hF2]
            exact Decidable.of_not_not (fun q => by rw [if_neg q] at hfit; omega)
        | succ r ih2 =>
          intro i fit μ9 hi hfit f9 F9 L9
          refine s_X9_findHeard_45 hkt ⟨fun q => by rw [f9 _ _ (by omega) (by omega), q2] at q; omega, fun _ => ⟨fun z => ⟨fun _ => ⟨by omega, ?_⟩, fun z2 => absurd z z2⟩, fun z => ⟨by omega, ?_⟩⟩⟩
          · rintro _ rfl
            refine no μ9 ?_ f9 F9 L9
            have e1 : allN (fun i => decide (gapS (aH A) (moveC (aP A) p c) p (tNum (aTray A t) i / 100) = tNum (aTray A t) i % 100)) i = false := Bool.eq_false_iff.mpr (fun q => by rw [if_pos q] at hfit; omega)
            have := allN_f e1 (r + 1)
            unfold heardF
            rw [show (tN (aTray A t)).toNat = i + (r + 1) by omega]
            exact this
          · rw [f9 _ _ (by omega) (by omega), q6 i (by omega) (by omega)]
            have hv := allN_at hall i (by omega) (by omega)
            have hv2 := of_decide_eq_true hv
            intro v22 h22
            rw [w32_id ⟨by omega, by omega⟩] at h22
            have hfit1 : allN (fun i => decide (gapS (aH A) (moveC (aP A) p c) p (tNum (aTray A t) i / 100) = tNum (aTray A t) i % 100)) i = true := Decidable.of_not_not (fun q => by rw [if_neg q] at hfit; omega)
            refine ⟨by omega, ca_gap (by omega) L9 ⟨hp0, hp1⟩ ⟨by omega, by omega⟩ ?_⟩
            intro μ25 f25 L25
            have g25 : ∀ b j, b < 121 ∨ 134 < b → b ≠ 147 → μ25 b j = μ b j := fun b j z1 z2 => by rw [f25 b j (by omega) (by omega)]; exact f9 b j z1 z2
            have F25 : FD μ25 (heardL A t p c) := fun k hk => by rw [f25 _ _ (by omega) (by omega)]; exact F9 k hk
            refine ⟨by omega, fun z3 => ⟨by omega, ?_⟩, fun z3 => ⟨by omega, ?_⟩⟩
            · rintro _ rfl
              refine ih2 (i + 1) 0 μ25 (by omega) ?_ g25 F25 L25
              rw [allN, hfit1, Bool.true_and, if_neg]
              rw [decide_eq_true_eq, ← h22]
              exact z3
            · rintro _ rfl
              refine ih2 (i + 1) 1 μ25 (by omega) ?_ g25 F25 L25
              rw [allN, hfit1, Bool.true_and, if_pos]
              rw [decide_eq_true_eq, ← h22]
              exact z3
      exact inner (tN (aTray A t)).toNat 0 1 μ7 (by omega) rfl f7 F7 L7
  exact key ce.toNat 0 (aP A) μ2 (by omega) (fun b j z1 _ => f2 b j z1) (fun k hk => absurd hk (by simp [heardL])) L2 (fun _ => rfl)

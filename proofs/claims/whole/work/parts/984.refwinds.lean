/-! THE REFERENCE: winds -/
def FV (μ μ' : Mem) : Prop := ∀ b j, (b = 183 → j = 5 ∨ j = 13 ∨ j = 14 ∨ j = 19) → (b ≤ 186 ∨ 209 ≤ b) → (b = 184 → j ≠ 70) → μ' b j = μ b j
theorem FV.my {n : Int} {μ μ' : Mem} {H : HillT} {P : PlanT} (h : MY μ H P) (hf : FV μ μ') (hn : 0 ≤ n ∧ n < 10) (e : μ' 184 70 = n) : MY μ' H (windP P n) := by
  obtain ⟨h1, h2, h3, h4⟩ := h
  have h6 := h3.2.2.1
  have h8 := h4.2.2.1
  have g : ∀ j, j ≠ 70 → μ' 184 j = μ 184 j := fun j q => hf _ _ (by omega) (by omega) (fun _ => q)
  refine ⟨h1.congr (fun i q => g i (by omega)) h6.2, ?_, h3, h4.wind (if_pos hn)⟩
  obtain ⟨m1, m2, m3, m4⟩ := h2
  refine ⟨(g _ (by omega)).trans m1, fun k k0 k1 => ?_, fun q q0 q1 => (g _ (by omega)).trans (m3 q q0 q1), e⟩
  have k2 : k < pN P := k1
  have x := m2 k k0 k2
  exact ⟨(g _ (by omega)).trans x.1, (g _ (by omega)).trans x.2.1, (g _ (by omega)).trans x.2.2.1, (g _ (by omega)).trans x.2.2.2⟩
theorem cb_isTimed {d : Nat} {sc : SC} {μ : Mem} {Hc : SayL} {T : TrayT} {t p : Int} {R : Int → Mem → Prop} (hd : 2 ≤ d) (ht : 0 ≤ t ∧ t < 4) (hH : HM μ Hc) (hl : Hc.length ≤ 640) (m2 : μ 210 t = tN T) (m4 : 0 ≤ tN T ∧ tN T ≤ 40) (m5 : ∀ i, 0 ≤ i → i < tN T → μ 211 (40 * t + i) = tNum T i)
    (k : R (if timedB (minsL Hc p) (tN T) (tNum T) = true then 1 else 0) μ) : CAi mX10_isTimed d sc [(2, 183), (0, t), (0, p)] μ R := by
  refine byI (d' := 1) (by omega) (Q := R) ?_ (fun _ _ z => z)
  refine CTi_of mp_X10_isTimed (Nat.le_of_ble_eq_true rfl) ?_
  have hml : ((minsL Hc p).length : Int) = hicN Hc p := by rw [minsL_len]
  refine s_X10_isTimed_0 (cb_hiccupsOf (by omega) hH hl ⟨ht, fun z => ?_, fun z => ?_⟩)
  rotate_left
  · have e : timedB (minsL Hc p) (tN T) (tNum T) = false := by unfold timedB; rw [decide_eq_false (by omega), Bool.false_and]
    rw [e, if_neg (by decide)] at k; exact k
  rw [m2] at z
  have hB : timedB (minsL Hc p) (tN T) (tNum T) = allN (fun i => decide (mAt (minsL Hc p) i = tNum T i)) (tN T).toNat := by unfold timedB; rw [decide_eq_true (by omega), Bool.true_and]
  rw [hB] at k
  have key : ∀ (r i : Nat), (i : Int) + r = tN T → allN (fun i => decide (mAt (minsL Hc p) i = tNum T i)) i = true → WQ mX10_isTimed 1 sc (ZI sc R) 18 [(2, 183), (0, t), (0, p), (0, (i : Int))] [] μ := by
    intro r
    induction r with
    | zero =>
      intro i hi ha
      refine s_X10_isTimed_18 ⟨ht, fun _ => ?_, fun q => by omega⟩
      rw [show (tN T).toNat = i by omega, if_pos ha] at k
      exact k
    | succ r ih =>
      intro i hi ha
      refine s_X10_isTimed_18 ⟨ht, fun q => by omega, fun _ => cb_minuteAt (by omega) hH hl (by omega) ?_⟩
      rw [m5 i (by omega) (by omega)]
      refine ⟨by omega, by omega, by omega, fun y => ⟨by omega, ?_⟩, fun y => ?_⟩
      · rintro _ rfl
        exact ih (i + 1) (by omega) (by rw [allN, ha, Bool.true_and]; exact decide_eq_true y)
      · have e1 : allN (fun i => decide (mAt (minsL Hc p) i = tNum T i)) (i + 1) = false := by
          rw [allN]
          show (_ && decide _) = false
          rw [decide_eq_false y, Bool.and_false]
        have := allN_f e1 r
        rw [show (tN T).toNat = i + 1 + r by omega, this, if_neg (by decide)] at k
        exact k
  exact key (tN T).toNat 0 (by omega) rfl
theorem or_zero10 {x : Int} (h : 0 ≤ x ∧ x < 1024) : iOr x 0 = x := by
  have H : ∀ y : Nat, y < 1024 → iOr (y : Int) 0 = y := by decide +kernel
  have := H x.toNat (by omega)
  rwa [show ((x.toNat : Nat) : Int) = x by omega] at this
theorem cm_winds {d : Nat} {sc : SC} {μ : Mem} {A : StT} {t p : Int} (hd : 6 ≤ d) (h : RY μ A) : CTi mX10_winds d sc [(2, 183), (0, t), (0, p)] μ (AM μ A (fun x => x = windsS A t p)) := by
  have h6 := h.n6
  refine CTi_of mp_X10_winds (Nat.le_of_ble_eq_true rfl) ?_
  refine s_X10_winds_0 ?_
  intro μ1 e1
  have f1 := fw0 e1
  have r1 := h.same f1
  have bad : ¬ ((0 ≤ t ∧ t < 4) ∧ ipS A p) → AM μ A (fun x => x = windsS A t p) (-2) μ1 := fun z => AM.of h f1 (if_neg z).symm
  refine cb_within (by omega) (fun z => ⟨fun _ => bad (fun y => by omega), fun q => absurd rfl q⟩) (fun z => ⟨fun q => absurd q (by decide), fun _ => ?_⟩)
  refine cb_isPerson (by omega) r1.np h6 (fun zp => ⟨fun q => absurd rfl q, fun _ => bad (fun y => zp y.2)⟩) (fun zp => ⟨fun _ => ?_, fun q => absurd q (by decide)⟩)
  have ht : 0 ≤ t ∧ t < 4 := by omega
  have hin : (0 ≤ t ∧ t < 4) ∧ ipS A p := ⟨ht, zp⟩
  refine cb_noTray (by omega) r1 (fun y => absurd ht y) (fun _ y => ⟨fun q => absurd q (by decide), fun _ => AM.of h f1 ?_⟩) (fun _ hT => ⟨fun _ => ?_, fun q => absurd rfl q⟩)
  · show _ = _
    unfold windsS; rw [if_pos hin, if_pos y]
  obtain ⟨m1, m2, m3, m4, m5⟩ := (h.tray t ht.1 ht.2).in hT
  have e210 : μ1 210 t = tN (aTray A t) := (f1 _ _ (by omega) (by omega)).trans m2
  rw [e210]
  refine ⟨ht, cb_within (by omega) (fun y => ⟨fun q => absurd rfl q, fun _ => AM.of h f1 ?_⟩) (fun hn => ⟨fun _ => ?_, fun q => absurd q (by decide)⟩)⟩
  · show _ = _
    unfold windsS; rw [if_pos hin, if_neg hT, if_pos (by omega)]
  have hS : windsS A t p = if allN (fun i => minOk (tNum (aTray A t) i)) (tN (aTray A t)).toNat = true then bitsF (windsF A t p) 10 else -3 := by unfold windsS; rw [if_pos hin, if_neg hT, if_neg (by omega)]
  have h1024 : ∀ m : Nat, m < 11 → (2 : Int) ^ m ≤ 1024 := by decide +kernel
  have winds : ∀ (r w : Nat) (μ2 : Mem), w + r = 10 → FV μ μ2 → allN (fun i => minOk (tNum (aTray A t) i)) (tN (aTray A t)).toNat = true → WQ mX10_winds d sc (ZI sc (AM μ A (fun x => x = windsS A t p))) 121 [(2, 183), (0, t), (0, p), (9, 0), (0, pWind (aP A)), (0, bitsF (windsF A t p) w), (0, (w : Int))] [] μ2 := by
    intro r
    induction r with
    | zero =>
      intro w μ2 hw hf ha
      refine s_X10_winds_121 ⟨fun _ => ?_, fun z => by omega⟩
      intro μ3 e3
      refine AM.of h (fun b j q1 q2 => ?_) ?_
      · rw [e3, mup_ap]
        split
        · rename_i y; rw [y.1, y.2]; exact h.mp.2.2.2.symm
        · rename_i y; exact hf b j q1 q2 (fun z z2 => y ⟨z, z2⟩)
      · show _ = _
        rw [hS, if_pos ha, show w = 10 by omega]
    | succ r ih =>
      intro w μ2 hw hf ha
      refine s_X10_winds_121 ⟨fun z => by omega, fun _ => ?_⟩
      intro μ5 e5
      have f5 : FV μ μ5 := fun b j q1 q2 q3 => by rw [e5, mup_ap, if_neg (fun y => q3 y.1 y.2)]; exact hf b j q1 q2 q3
      have Y5 := FV.my (n := (w : Int)) h.q f5 ⟨by omega, by omega⟩ (by rw [e5, mup_at])
      refine cb_laysDay hd Y5 (Or.inl ((f5 _ _ (by omega) (by omega) (by omega)).trans h.2.2.2.2.1)) (fun μ7 f7 C7 G7 M7 => ?_)
      have f57 : FV μ μ7 := fun b j q1 q2 q3 => by rw [f7 b j q1 q2]; exact f5 b j q1 q2 q3
      have hl : (dayOf (aH A) (windP (aP A) w)).length ≤ 500 := dh_len Y5.2.2.2.2.1
      have hHM : HM μ7 (dayOf (aH A) (windP (aP A) w)) := M7.1
      refine cb_isTimed (T := aTray A t) (by omega) ht hHM (by omega) ((f57 _ _ (by omega) (by omega) (by omega)).trans m2) m4 (fun i i0 i1 => (f57 _ _ (by omega) (by omega) (by omega)).trans (m5 i i0 i1)) ?_
      have hwF : windsF A t p w = timedB (minsL (dayOf (aH A) (windP (aP A) w)) p) (tN (aTray A t)) (tNum (aTray A t)) := rfl
      rw [← hwF]
      have hb := bitsF_b (windsF A t p) w
      have h1 := h1024 w (by omega)
      have hstep : bitsF (windsF A t p) (w + 1) = bitsF (windsF A t p) w + if windsF A t p w = true then 2 ^ w else 0 := rfl
      by_cases q : windsF A t p w = true
      · rw [if_pos q] at hstep ⊢
        refine ⟨fun y => absurd y (by decide), fun _ => ?_⟩
        intro v14 h14
        rw [or_up10 hb (by omega), ← hstep] at h14
        rw [h14]
        refine ⟨by omega, ?_⟩
        rintro _ rfl
        exact ih (w + 1) μ7 (by omega) f57 ha
      · rw [if_neg q] at hstep ⊢
        refine ⟨fun _ => ?_, fun y => absurd rfl y⟩
        intro v11 h11
        rw [or_zero10 ⟨hb.1, by omega⟩] at h11
        refine ⟨by omega, ?_⟩
        rintro _ rfl
        have := ih (w + 1) μ7 (by omega) f57 ha
        rw [hstep, Int.add_zero] at this
        rw [h11]
        exact this
  have key : ∀ (r i : Nat), (i : Int) + r = tN (aTray A t) → allN (fun i => minOk (tNum (aTray A t) i)) i = true →
      WQ mX10_winds d sc (ZI sc (AM μ A (fun x => x = windsS A t p))) 64 [(2, 183), (0, t), (0, p), (9, 0), (0, (i : Int)), (9, 0), (9, 0)] [] μ1 := by
    intro r
    induction r with
    | zero =>
      intro i hi ha
      refine s_X10_winds_64 ⟨ht, fun _ => ?_, fun q => by omega⟩
      have e70 : μ1 184 70 = pWind (aP A) := r1.mp.2.2.2
      rw [e70]
      rintro _ rfl
      exact winds 10 0 μ1 rfl (fun b j q1 q2 _ => f1 b j q1 q2) (by rw [show (tN (aTray A t)).toNat = i by omega]; exact ha)
    | succ r ih =>
      intro i hi ha
      refine s_X10_winds_64 ⟨ht, fun q => by omega, fun _ => ⟨by omega, by omega, by omega, ?_⟩⟩
      rw [f1 211 _ (by omega) (by omega), m5 i (by omega) (by omega)]
      refine cb_within (by omega) (fun y => ⟨fun q => absurd rfl q, fun _ => AM.of h f1 ?_⟩) (fun y => ⟨fun _ => ⟨by omega, ?_⟩, fun q => absurd q (by decide)⟩)
      · show _ = _
        have e1 : allN (fun i => minOk (tNum (aTray A t) i)) (i + 1) = false := by
          rw [allN]
          show (_ && decide _) = false
          rw [decide_eq_false (by omega), Bool.and_false]
        have := allN_f e1 r
        rw [hS, show (tN (aTray A t)).toNat = i + 1 + r by omega, this, if_neg (by decide)]
      · rintro _ rfl
        refine ih (i + 1) (by omega) ?_
        rw [allN, ha, Bool.true_and]
        exact decide_eq_true (by omega)
  exact key (tN (aTray A t)).toNat 0 (by omega) rfl

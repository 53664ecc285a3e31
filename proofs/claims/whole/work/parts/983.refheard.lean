/-! THE REFERENCE: cells that fit what was heard -/
theorem cb_noHeard {d : Nat} {sc : SC} {μ : Mem} {A : StT} {t p : Int} {R : Int → Mem → Prop} (hd : 4 ≤ d) (h : RY μ A) (k : R (refS A t p) μ) : CAi mX10_noHeard d sc [(2, 183), (0, t), (0, p)] μ R := by
  refine byI (d' := 3) (by omega) (Q := R) ?_ (fun _ _ z => z)
  refine CTi_of mp_X10_noHeard (Nat.le_of_ble_eq_true rfl) ?_
  have bad : ¬ ((0 ≤ t ∧ t < 4) ∧ ipS A p) → R (-2) μ := fun z => by
    have e : refS A t p = -2 := if_neg z
    rw [e] at k; exact k
  refine s_X10_noHeard_0 (cb_within (by omega) (fun z => ⟨fun _ => bad (fun y => by omega), fun q => absurd rfl q⟩) (fun z => ⟨fun q => absurd q (by decide), fun _ => ?_⟩))
  refine cb_isPerson (by omega) h.np h.n6 (fun zp => ⟨fun q => absurd rfl q, fun _ => bad (fun y => zp y.2)⟩) (fun zp => ⟨fun _ => ?_, fun q => absurd q (by decide)⟩)
  have ht : 0 ≤ t ∧ t < 4 := by omega
  have hin : (0 ≤ t ∧ t < 4) ∧ ipS A p := ⟨ht, zp⟩
  refine cb_noTray (by omega) h (fun y => absurd ht y) (fun _ y => ⟨fun q => absurd q (by decide), fun _ => ?_⟩) (fun _ hT => ⟨fun _ => ?_, fun q => absurd rfl q⟩)
  · have e : refS A t p = -6 := by unfold refS; rw [if_pos hin, if_pos y]
    rw [e] at k; exact k
  obtain ⟨m1, m2, m3, m4, m5⟩ := (h.tray t ht.1 ht.2).in hT
  rw [m2]
  refine ⟨ht, cb_within (by omega) (fun y => ⟨fun q => absurd rfl q, fun _ => ?_⟩) (fun hn => ⟨fun _ => ?_, fun q => absurd q (by decide)⟩)⟩
  · have e : refS A t p = -4 := by unfold refS; rw [if_pos hin, if_neg hT, if_pos (by omega)]
    rw [e] at k; exact k
  have hS : refS A t p = if allN (fun i => vOk A p (tNum (aTray A t) i)) (tN (aTray A t)).toNat = true then 0 else -3 := by unfold refS; rw [if_pos hin, if_neg hT, if_neg (by omega)]
  rw [hS] at k
  have key : ∀ (r i : Nat), (i : Int) + r = tN (aTray A t) → allN (fun i => vOk A p (tNum (aTray A t) i)) i = true →
      WQ mX10_noHeard 3 sc (ZI sc R) 59 [(2, 183), (0, t), (0, p), (9, 0), (0, (i : Int)), (9, 0), (9, 0)] [] μ := by
    intro r
    induction r with
    | zero =>
      intro i hi ha
      refine s_X10_noHeard_59 ⟨ht, fun _ => ?_, fun q => by rw [m2] at q; omega⟩
      rw [show (tN (aTray A t)).toNat = i by omega, if_pos ha] at k
      exact k
    | succ r ih =>
      intro i hi ha
      have no : vOk A p (tNum (aTray A t) i) = false → R (-3) μ := fun e => by
        have e1 : allN (fun i => vOk A p (tNum (aTray A t) i)) (i + 1) = false := by rw [allN, e, Bool.and_false]
        have := allN_f e1 r
        rw [show (tN (aTray A t)).toNat = i + 1 + r by omega, this, if_neg (by decide)] at k
        exact k
      refine s_X10_noHeard_59 ⟨ht, fun q => by rw [m2] at q; omega, fun _ => ⟨by omega, by omega, by omega, ?_⟩⟩
      intro v hv
      rw [m5 i (by omega) (by omega)] at hv
      refine ⟨fun v0 => no (decide_eq_false (by omega)), fun v0 => ⟨v0, ?_⟩⟩
      refine cb_areTwo (by omega) h.np h.n6 (fun v1 => ⟨fun _ => no (decide_eq_false (fun y => v1 ⟨by omega, zp, by omega⟩)), fun q => absurd rfl q⟩) (fun v1 => ⟨fun q => absurd q (by decide), fun _ => ⟨v0, ?_⟩⟩)
      refine cb_within (by omega) (fun v3 => ⟨fun q => absurd rfl q, fun _ => no (decide_eq_false (by omega))⟩) (fun v3 => ⟨fun _ => ⟨by omega, ?_⟩, fun q => absurd q (by decide)⟩)
      rintro _ rfl
      refine ih (i + 1) (by omega) ?_
      rw [allN, ha, Bool.true_and]
      exact decide_eq_true (by omega)
  exact key (tN (aTray A t)).toNat 0 (by omega) rfl
theorem vOk_at {A : StT} {t p : Int} (h : refS A t p = 0) {i : Int} (h0 : 0 ≤ i) (h1 : i < tN (aTray A t)) : 0 ≤ tNum (aTray A t) i ∧ tNum (aTray A t) i / 100 < hP (aH A) ∧ tNum (aTray A t) i / 100 ≠ p ∧ 1 ≤ tNum (aTray A t) i % 100 ∧ tNum (aTray A t) i % 100 ≤ 20 := by
  obtain ⟨_, _, hn, hall⟩ := refS_0 h
  exact of_decide_eq_true (allN_at hall i h0 (by omega))
theorem cb_isHeard {d : Nat} {sc : SC} {μ μ1 : Mem} {A : StT} {t p c : Int} {R : Int → Mem → Prop} (hd : 5 ≤ d) (h : RY μ A) (hr : refS A t p = 0) (hf : FC2 p μ μ1) (hs : μ1 184 (64 + p) = c) (hc : 0 ≤ c ∧ c < hR (aH A) * hC (aH A))
    (k : ∀ μ', FK μ1 μ' → R (if heardF A t p c = true then 1 else 0) μ') : CAi mX10_isHeard d sc [(2, 183), (0, t), (0, p)] μ1 R := by
  obtain ⟨⟨ht, zp⟩, hT, hn, _⟩ := refS_0 hr
  obtain ⟨m1, m2, m3, m4, m5⟩ := (h.tray t ht.1 ht.2).in hT
  have Y1 := FC1.my h.q hf.one zp hc hs
  have h6 := h.n6
  refine byI (d' := 4) (by omega) (Q := R) ?_ (fun _ _ z => z)
  refine CTi_of mp_X10_isHeard (Nat.le_of_ble_eq_true rfl) ?_
  refine s_X10_isHeard_0 ?_
  generalize hF : (fun i => decide (gapS (aH A) (moveC (aP A) p c) p (tNum (aTray A t) i / 100) = tNum (aTray A t) i % 100)) = F
  have hHF : heardF A t p c = allN F (tN (aTray A t)).toNat := by unfold heardF; rw [hF]
  rw [hHF] at k
  have key : ∀ (r i : Nat) (μ2 : Mem), (i : Int) + r = tN (aTray A t) → FK μ1 μ2 → allN F i = true →
      WQ mX10_isHeard 4 sc (ZI sc R) 2 [(2, 183), (0, t), (0, p), (0, (i : Int)), (9, 0)] [] μ2 := by
    intro r
    induction r with
    | zero =>
      intro i μ2 hi f2 ha
      have e2 : μ2 210 t = tN (aTray A t) := by rw [f2 _ _ (by omega) (by omega), hf _ _ (by omega) (by omega) (by omega)]; exact m2
      refine s_X10_isHeard_2 ⟨ht, fun _ => ?_, fun q => by omega⟩
      have := k μ2 f2
      rw [show (tN (aTray A t)).toNat = i by omega, if_pos ha] at this
      exact this
    | succ r ih =>
      intro i μ2 hi f2 ha
      have e2 : μ2 210 t = tN (aTray A t) := by rw [f2 _ _ (by omega) (by omega), hf _ _ (by omega) (by omega) (by omega)]; exact m2
      have e3 : μ2 211 (40 * t + i) = tNum (aTray A t) i := by rw [f2 _ _ (by omega) (by omega), hf _ _ (by omega) (by omega) (by omega)]; exact m5 i (by omega) (by omega)
      have hv := vOk_at hr (i := (i : Int)) (by omega) (by omega)
      have Y2 : MY μ2 (aH A) (moveC (aP A) p c) := Y1.same (fun j => f2 _ _ (by omega) (by omega))
      refine s_X10_isHeard_2 ⟨ht, fun q => by omega, fun _ => ⟨by omega, by omega, by omega, ?_⟩⟩
      rw [e3, w32_id ⟨by omega, by omega⟩]
      rintro _ rfl
      refine ⟨hv.1, cb_gapOf (by omega) Y2 zp ⟨by omega, hv.2.1⟩ (fun μ9 f9 => ⟨hv.1, fun z => ⟨by omega, ?_⟩, fun z => ?_⟩)⟩
      · rintro _ rfl
        refine ih (i + 1) μ9 (by omega) (fun b j q1 q2 => by rw [f9 b j q1 q2]; exact f2 b j q1 q2) ?_
        rw [allN, ha, ← hF]
        exact decide_eq_true z
      · have e1 : allN F (i + 1) = false := by
          rw [allN, ← hF]
          show (_ && decide _) = false
          rw [decide_eq_false z, Bool.and_false]
        have := allN_f e1 r
        have hk := k μ9 (fun b j q1 q2 => by rw [f9 b j q1 q2]; exact f2 b j q1 q2)
        rw [show (tN (aTray A t)).toNat = i + 1 + r by omega, this, if_neg (by decide)] at hk
        exact hk
  exact key (tN (aTray A t)).toNat 0 μ1 (by omega) (fun _ _ _ _ => rfl) rfl
theorem mAt_last (X : List Int) (m : Int) {i : Int} (hi : 0 ≤ i) : mAt (X ++ [m]) i = if i = X.length then m else mAt X i := by
  unfold mAt
  by_cases q : i = X.length
  · rw [if_pos q, q]; simp
  · rw [if_neg q]
    by_cases y : i.toNat < X.length
    · rw [List.getElem?_append_left y]
    · have y1 : X.length ≤ i.toNat := by omega
      have y2 : (X ++ [m]).length ≤ i.toNat := by rw [List.length_append, List.length_singleton]; omega
      rw [List.getElem?_eq_none y1, List.getElem?_eq_none y2]
theorem cb_heardOf {d : Nat} {sc : SC} {μ : Mem} {A : StT} {t p i : Int} {R : Int → Mem → Prop} (hd : 6 ≤ d) (h : RY μ A) (hr : refS A t p = 0) (hi : -1 ≤ i)
    (k : ∀ μ', FW μ μ' → R (if i < 0 then ((heardL A t p (cellsS A)).length : Int) else mAt (heardL A t p (cellsS A)) i) μ') : CAi mX10_heardOf d sc [(2, 183), (0, t), (0, p), (0, i)] μ R := by
  obtain ⟨⟨ht, zp⟩, hT, hn, _⟩ := refS_0 hr
  have h6 := h.n6
  have zp0 := zp.1
  have zp1 := zp.2
  have hcb := cells_b h.q.2.2.1
  refine byI (d' := 5) (by omega) (Q := R) ?_ (fun _ _ z => z)
  refine CTi_of mp_X10_heardOf (Nat.le_of_ble_eq_true rfl) ?_
  refine s_X10_heardOf_0 ⟨by omega, by omega, ?_⟩
  rw [h.cell zp]
  rintro _ rfl
  have hce : cellsS A = (hR (aH A) * hC (aH A)).toNat := rfl
  rw [hce] at k
  have key : ∀ (r c : Nat) (μ1 : Mem), (c : Int) + r = hR (aH A) * hC (aH A) → FC2 p μ μ1 → WQ mX10_heardOf 5 sc (ZI sc R) 20 [(2, 183), (0, t), (0, p), (0, i), (0, pCell (aP A) p), (0, if i < 0 then -1 else mAt (heardL A t p c) i), (0, ((heardL A t p c).length : Int)), (0, (c : Int))] [] μ1 := by
    intro r
    induction r with
    | zero =>
      intro c μ1 hc hf
      refine s_X10_heardOf_20 (hf.cells (by omega) h zp ⟨fun _ => ⟨by omega, by omega, ?_⟩, fun z => by omega⟩)
      intro μ6 e6
      have hk := k μ6 (hf.back h zp e6)
      rw [show (hR (aH A) * hC (aH A)).toNat = c by omega] at hk
      refine ⟨fun z => ?_, fun z => ?_⟩
      · rw [if_neg (by omega)] at hk ⊢; exact hk
      · rw [if_pos z] at hk; exact hk
    | succ r ih =>
      intro c μ1 hc hf
      have hl := heardL_len A t p c
      refine s_X10_heardOf_20 (hf.cells (by omega) h zp ⟨fun z => by omega, fun _ => ⟨by omega, by omega, ?_⟩⟩)
      intro μ10 e10
      obtain ⟨f10, s10⟩ := hf.cell e10
      refine cb_isHeard (by omega) h hr f10 s10 ⟨by omega, by omega⟩ (fun μ12 f12 => ?_)
      have F12 := f10.fw f12.w
      have hstep : heardL A t p (c + 1) = heardL A t p c ++ if heardF A t p c = true then [(c : Int)] else [] := rfl
      by_cases q : heardF A t p c = true
      · rw [if_pos q]
        rw [if_pos q] at hstep
        have hlen : ((heardL A t p (c + 1)).length : Int) = (heardL A t p c).length + 1 := by rw [hstep, List.length_append, List.length_singleton]; omega
        refine ⟨fun _ => ⟨fun y => ⟨by omega, ?_⟩, fun y => ⟨by omega, ?_⟩⟩, fun y => absurd y (by decide)⟩
        · rintro _ rfl
          refine ⟨by omega, ?_⟩
          rintro _ rfl
          have := ih (c + 1) μ12 (by omega) F12
          rw [hlen] at this
          have e : (if i < 0 then (-1 : Int) else mAt (heardL A t p (c + 1)) i) = if i < 0 then -1 else mAt (heardL A t p c) i := by
            by_cases z : i < 0
            · rw [if_pos z, if_pos z]
            · rw [if_neg z, if_neg z, hstep, mAt_last _ _ (by omega), if_neg (fun w => y w.symm)]
          rw [e] at this
          exact this
        · rintro _ rfl
          refine ⟨by omega, ?_⟩
          rintro _ rfl
          have := ih (c + 1) μ12 (by omega) F12
          rw [hlen] at this
          have e : (if i < 0 then (-1 : Int) else mAt (heardL A t p (c + 1)) i) = c := by
            rw [if_neg (by omega), hstep, mAt_last _ _ (by omega), if_pos y.symm]
          rw [e] at this
          exact this
      · rw [if_neg q]
        rw [if_neg q, List.append_nil] at hstep
        refine ⟨fun y => absurd rfl y, fun _ => ⟨by omega, ?_⟩⟩
        rintro _ rfl
        have := ih (c + 1) μ12 (by omega) F12
        rw [hstep] at this
        exact this
  have := key (hR (aH A) * hC (aH A)).toNat 0 μ (by omega) (fun _ _ _ _ _ => rfl)
  have e0 : heardL A t p 0 = [] := rfl
  have e : (if i < 0 then (-1 : Int) else mAt (heardL A t p 0) i) = -1 := by
    split
    · rfl
    · rw [e0]; exact mAt_out (by show (0 : Int) ≤ i; omega)
  rw [e, e0] at this
  exact this
theorem cm_heard {d : Nat} {sc : SC} {μ : Mem} {A : StT} {t p : Int} (hd : 6 ≤ d) (h : RY μ A) : CTi mX10_heard d sc [(2, 183), (0, t), (0, p)] μ (AM μ A (fun x => x = heardS A t p)) := by
  refine CTi_of mp_X10_heard (Nat.le_of_ble_eq_true rfl) ?_
  refine s_X10_heard_0 ?_
  intro μ1 e1
  have f1 := fw0 e1
  have r1 := h.same f1
  refine cb_noHeard (by omega) r1 ⟨fun z => cb_heardOf (by omega) r1 z (Int.le_refl _) (fun μ' f => AM.of h (f1.tr f) ?_), fun z => AM.of h f1 (if_neg z).symm⟩
  show _ = _
  unfold heardS; rw [if_pos z]; exact if_pos (by decide)
theorem cm_heardAt {d : Nat} {sc : SC} {μ : Mem} {A : StT} {t p i : Int} (hd : 6 ≤ d) (h : RY μ A) : CTi mX10_heardAt d sc [(2, 183), (0, t), (0, p), (0, i)] μ (AM μ A (fun x => x = heardAtS A t p i)) := by
  refine CTi_of mp_X10_heardAt (Nat.le_of_ble_eq_true rfl) ?_
  refine s_X10_heardAt_0 ?_
  intro μ1 e1
  have f1 := fw0 e1
  have r1 := h.same f1
  refine cb_noHeard (by omega) r1 ⟨fun z => ⟨fun zi => cb_heardOf (by omega) r1 z (by omega) (fun μ' f => AM.of h (f1.tr f) ?_), fun zi => AM.of h f1 ?_⟩, fun z => AM.of h f1 (if_neg z).symm⟩
  · show _ = _
    rw [if_neg (by omega)]
    unfold heardAtS; rw [if_pos z, if_neg (by omega)]
  · show _ = _
    unfold heardAtS; rw [if_pos z, if_pos zi]
theorem cb_mostOften {d : Nat} {sc : SC} {μ : Mem} {A : StT} {t p q : Int} {R : Int → Mem → Prop} (hd : 6 ≤ d) (h : RY μ A) (hr : refS A t p = 0) (hq : ipS A q) (k : ∀ μ', FW μ μ' → R (alikeS A p q (heardL A t p (cellsS A))) μ') : CAi mX10_mostOften d sc [(2, 183), (0, t), (0, p), (0, q)] μ R := by
  obtain ⟨⟨ht, zp⟩, hT, hn, _⟩ := refS_0 hr
  have h6 := h.n6
  have zp0 := zp.1
  have zp1 := zp.2
  have hcb := cells_b h.q.2.2.1
  refine byI (d' := 5) (by omega) (Q := R) ?_ (fun _ _ z => z)
  refine CTi_of mp_X10_mostOften (Nat.le_of_ble_eq_true rfl) ?_
  refine s_X10_mostOften_0 ⟨by omega, by omega, ?_⟩
  rw [h.cell zp]
  rintro _ rfl
  have hce : cellsS A = (hR (aH A) * hC (aH A)).toNat := rfl
  rw [hce] at k
  have key : ∀ (r c : Nat) (μ1 : Mem), (c : Int) + r = hR (aH A) * hC (aH A) → FC2 p μ μ1 → (∀ g, 0 ≤ g → g < 21 → μ1 206 g = cntG (heardL A t p c) (fun c => gapS (aH A) (moveC (aP A) p c) p q) g) → WQ mX10_mostOften 5 sc (ZI sc R) 41 [(2, 183), (0, t), (0, p), (0, q), (0, pCell (aP A) p), (0, alikeS A p q (heardL A t p c)), (0, (c : Int)), (9, 0)] [] μ1 := by
    intro r
    induction r with
    | zero =>
      intro c μ1 hc hf hg
      refine s_X10_mostOften_41 (hf.cells (by omega) h zp ⟨fun _ => ⟨by omega, by omega, ?_⟩, fun z => by omega⟩)
      intro μ6 e6
      have hk := k μ6 (hf.back h zp e6)
      rw [show (hR (aH A) * hC (aH A)).toNat = c by omega] at hk
      exact hk
    | succ r ih =>
      intro c μ1 hc hf hg
      have hl := heardL_len A t p c
      refine s_X10_mostOften_41 (hf.cells (by omega) h zp ⟨fun z => by omega, fun _ => ⟨by omega, by omega, ?_⟩⟩)
      intro μ9 e9
      obtain ⟨f9, s9⟩ := hf.cell e9
      have g9 : ∀ j, μ9 206 j = μ1 206 j := fun j => by rw [e9, mup_ap, if_neg (fun y => by omega)]
      refine cb_isHeard (by omega) h hr f9 s9 ⟨by omega, by omega⟩ (fun μ11 f11 => ?_)
      have F11 := f9.fw f11.w
      have s11 : μ11 184 (64 + p) = c := by rw [f11 _ _ (by omega) (by omega)]; exact s9
      have hstep : heardL A t p (c + 1) = heardL A t p c ++ if heardF A t p c = true then [(c : Int)] else [] := rfl
      by_cases y : heardF A t p c = true
      · rw [if_pos y]
        rw [if_pos y] at hstep
        refine ⟨fun _ => ?_, fun z => absurd z (by decide)⟩
        have Y11 := FC1.my (c := (c : Int)) h.q F11.one zp ⟨by omega, by omega⟩ s11
        refine cb_gapOf (by omega) Y11 zp hq (fun μ14 f14 => ?_)
        have F14 := F11.fw f14.w
        have hgb := gapS_b (aH A) (moveC (aP A) p c) p q
        generalize hG : gapS (aH A) (moveC (aP A) p c) p q = g at *
        have e14 : ∀ j, μ14 206 j = μ1 206 j := fun j => by rw [f14 _ _ (by omega) (by omega), f11 _ _ (by omega) (by omega)]; exact g9 j
        have hcg := hg g (by omega) (by omega)
        have hcgb := cntG_b (heardL A t p c) (fun c => gapS (aH A) (moveC (aP A) p c) p q) g
        have halb := alikeS_b A p q (heardL A t p c)
        rw [e14, hcg]
        refine ⟨by omega, by omega, by omega, ?_⟩
        intro μ18 e18
        have F18 : FC2 p μ μ18 := F14.fw (fun b j _ z => by rw [e18, mup_ap, if_neg (fun w => by omega)])
        have s18 : μ18 206 g = cntG (heardL A t p c) (fun c => gapS (aH A) (moveC (aP A) p c) p q) g + 1 := by rw [e18, mup_at]
        rw [s18]
        have hal : alikeS A p q (heardL A t p (c + 1)) = max (alikeS A p q (heardL A t p c)) (cntG (heardL A t p c) (fun c => gapS (aH A) (moveC (aP A) p c) p q) g + 1) := by
          rw [hstep]
          unfold alikeS
          rw [maxN_up (f := cntG (heardL A t p c) (fun c => gapS (aH A) (moveC (aP A) p c) p q)) (g := g) (by rw [cntG_snoc, if_pos hG]) (fun i hi => by rw [cntG_snoc, if_neg (fun z => hi (by rw [← z]; exact hG)), Int.add_zero]) (by omega) 21, if_pos (by omega)]
        have nx : WQ mX10_mostOften 5 sc (ZI sc R) 41 [(2, 183), (0, t), (0, p), (0, q), (0, pCell (aP A) p), (0, alikeS A p q (heardL A t p (c + 1))), (0, (c : Int) + 1), (9, 0)] [] μ18 := by
          refine ih (c + 1) μ18 (by omega) F18 (fun g' g0 g1 => ?_)
          rw [hstep, cntG_snoc, e18, mup_ap]
          by_cases z : g' = g
          · rw [if_pos ⟨rfl, z⟩, if_pos (by rw [z]; exact hG), z]
          · rw [if_neg (fun w => z w.2), if_neg (fun w => z (by rw [← w]; exact hG)), e14, hg g' g0 g1, Int.add_zero]
        refine ⟨by omega, fun z => ⟨by omega, ?_⟩, fun z => ⟨by omega, ?_⟩⟩
        · rintro _ rfl
          rw [show alikeS A p q (heardL A t p (c + 1)) = alikeS A p q (heardL A t p c) by omega] at nx
          exact nx
        · intro v24 h24
          refine ⟨by omega, ?_⟩
          rintro _ rfl
          rw [show alikeS A p q (heardL A t p (c + 1)) = v24 by omega] at nx
          exact nx
      · rw [if_neg y]
        rw [if_neg y, List.append_nil] at hstep
        refine ⟨fun z => absurd rfl z, fun _ => ⟨by omega, ?_⟩⟩
        rintro _ rfl
        have := ih (c + 1) μ11 (by omega) F11 (fun g' g0 g1 => by rw [hstep, f11 _ _ (by omega) (by omega), g9]; exact hg g' g0 g1)
        rw [hstep] at this
        exact this
  have e0 : heardL A t p 0 = [] := rfl
  have key2 : ∀ (r i : Nat) (μ1 : Mem), i + r = 21 → FW μ μ1 → (∀ g : Int, 0 ≤ g → g < i → μ1 206 g = 0) → WQ mX10_mostOften 5 sc (ZI sc R) 17 [(2, 183), (0, t), (0, p), (0, q), (0, pCell (aP A) p), (0, 0), (0, (i : Int)), (9, 0)] [] μ1 := by
    intro r
    induction r with
    | zero =>
      intro i μ1 hi hf hg
      refine s_X10_mostOften_17 ⟨fun _ => ?_, fun z => by omega⟩
      exact key (hR (aH A) * hC (aH A)).toNat 0 μ1 (by omega) (FC2.of hf) (fun g g0 g1 => by rw [hg g g0 (by omega), e0]; rfl)
    | succ r ih =>
      intro i μ1 hi hf hg
      refine s_X10_mostOften_17 ⟨fun z => by omega, fun _ => ⟨by omega, ?_⟩⟩
      intro μ3 e3
      refine ⟨by omega, ?_⟩
      rintro _ rfl
      refine ih (i + 1) μ3 (by omega) (fun b j q1 q2 => by rw [e3, mup_ap, if_neg (fun y => by omega)]; exact hf b j q1 q2) (fun g g0 g1 => ?_)
      rw [e3, mup_ap]
      by_cases z : g = i
      · rw [if_pos ⟨rfl, z⟩]
      · rw [if_neg (fun w => z w.2)]; exact hg g g0 (by omega)
  exact key2 21 0 μ rfl (FW.refl μ) (fun g g0 g1 => by omega)
theorem cm_attempt {d : Nat} {sc : SC} {μ : Mem} {A : StT} {t p : Int} (hd : 6 ≤ d) (h : RY μ A) : CTi mX10_attempt d sc [(2, 183), (0, t), (0, p)] μ (AM μ A (fun x => x = attemptS A t p)) := by
  have h6 := h.n6
  have hcb := cells_b h.q.2.2.1
  refine CTi_of mp_X10_attempt (Nat.le_of_ble_eq_true rfl) ?_
  refine s_X10_attempt_0 ?_
  intro μ1 e1
  have f1 := fw0 e1
  have r1 := h.same f1
  refine cb_noHeard (by omega) r1 ⟨fun z => cb_heardOf (by omega) r1 z (Int.le_refl _) (fun μ6 f6 => ?_), fun z => AM.of h f1 (if_neg z).symm⟩
  have F6 := f1.tr f6
  rw [if_pos (by decide)]
  have hl := heardL_len A t p (cellsS A)
  have hcs : (cellsS A : Int) ≤ 64 := by unfold cellsS; omega
  have hS : attemptS A t p = if heardL A t p (cellsS A) = [] then -1 else (attN (fun q => alikeS A p q (heardL A t p (cellsS A))) p (hP (aH A)).toNat).1 := by unfold attemptS; rw [if_pos z]
  have hfb := fun q => alikeS_b A p q (heardL A t p (cellsS A))
  refine ⟨fun y => ?_, fun y => AM.of h F6 ?_⟩
  rotate_left
  · show _ = _
    rw [hS, if_pos (List.eq_nil_of_length_eq_zero (by omega))]
  have hne : ¬ heardL A t p (cellsS A) = [] := fun w => by rw [w] at y; exact y rfl
  rw [if_neg hne] at hS
  have key : ∀ (r q : Nat) (b m : Int) (μ1 : Mem), (q : Int) + r = hP (aH A) → FW μ μ1 → ((b = -1 ∧ m = 268435456 ∧ attN (fun q => alikeS A p q (heardL A t p (cellsS A))) p q = (-1, 65)) ∨ (m ≤ 64 ∧ (b, m) = attN (fun q => alikeS A p q (heardL A t p (cellsS A))) p q)) →
      WQ mX10_attempt d sc (ZI sc (AM μ A (fun x => x = attemptS A t p))) 41 [(2, 183), (0, t), (0, p), (9, 0), (0, b), (0, m), (0, (q : Int)), (9, 0)] [] μ1 := by
    intro r
    induction r with
    | zero =>
      intro q b m μ1 hq hf hB
      have e3 := (h.same hf).np
      refine s_X10_attempt_41 ⟨fun _ => AM.of h hf ?_, fun w => by omega⟩
      show _ = _
      rw [hS, show (hP (aH A)).toNat = q by omega]
      rcases hB with ⟨b1, _, b3⟩ | ⟨_, b3⟩
      · rw [b3, b1]
      · rw [← b3]
    | succ r ih =>
      intro q b m μ1 hq hf hB
      have e3 := (h.same hf).np
      have r2 := h.same hf
      have hstep : attN (fun q => alikeS A p q (heardL A t p (cellsS A))) p (q + 1) = if (q : Int) ≠ p ∧ alikeS A p q (heardL A t p (cellsS A)) < (attN (fun q => alikeS A p q (heardL A t p (cellsS A))) p q).2 then ((q : Int), alikeS A p q (heardL A t p (cellsS A))) else attN (fun q => alikeS A p q (heardL A t p (cellsS A))) p q := rfl
      have hfq := hfb (q : Int)
      refine s_X10_attempt_41 ⟨fun w => by omega, fun _ => ⟨fun w => ?_, fun w => ⟨fun w2 => by rcases hB with ⟨_, b2, _⟩ | ⟨b2, _⟩ <;> omega, fun w2 => ⟨by omega, ?_⟩⟩⟩⟩
      · refine cb_mostOften (by omega) r2 z ⟨by omega, by omega⟩ (fun μ5 f5 => ⟨fun w2 => ⟨by omega, ?_⟩, fun w2 => ⟨by omega, ?_⟩⟩)
        · rintro _ rfl
          refine ih (q + 1) q _ μ5 (by omega) (hf.tr f5) (Or.inr ⟨by omega, ?_⟩)
          have hlt : alikeS A p q (heardL A t p (cellsS A)) < (attN (fun q => alikeS A p q (heardL A t p (cellsS A))) p q).2 := by
            rcases hB with ⟨_, _, b3⟩ | ⟨_, b3⟩
            · rw [b3]; show _ < (65 : Int); omega
            · rw [← b3]; exact w2
          rw [hstep, if_pos ⟨w, hlt⟩]
        · rintro _ rfl
          rcases hB with ⟨_, b2, b3⟩ | ⟨b2, b3⟩
          · omega
          · refine ih (q + 1) b m μ5 (by omega) (hf.tr f5) (Or.inr ⟨b2, ?_⟩)
            rw [hstep, if_neg (fun v => by have := v.2; rw [← b3] at this; have : alikeS A p q (heardL A t p (cellsS A)) < m := this; omega)]
            exact b3
      · rintro _ rfl
        refine ih (q + 1) b m μ1 (by omega) hf ?_
        rw [hstep, if_neg (fun v => v.1 w)]
        exact hB
  exact key (hP (aH A)).toNat 0 (-1) 268435456 μ6 (by omega) F6 (Or.inl ⟨rfl, rfl, rfl⟩)

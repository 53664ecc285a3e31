/-! THE REFERENCE: namings by which one has a hiccup; where one is quiet; at once -/
def kV (v : Nat) : Nat := v / 100 * 6 + min (v % 100) 6
theorem kV_up {v : Nat} (h : v % 100 < 6) : kV (v + 1) = kV v + 1 := by unfold kV; omega
theorem kV_no {v : Nat} (h : ¬ v % 100 < 6) : kV (v + 1) = kV v := by unfold kV; omega
theorem kV_code {v : Nat} (h : v % 100 < 6) : codeC (kV v) = v ∧ ((kV v : Nat) : Int) % 6 = (v : Int) % 100 ∧ ((kV v : Nat) : Int) / 6 = (v : Int) / 100 := by unfold codeC kV; omega
theorem cb_stopAt {d : Nat} {sc : SC} {μ : Mem} {A : StT} {p m i : Int} {R : Int → Mem → Prop} (hd : 7 ≤ d) (h : RY μ A) (hp : ipS A p) (hm : 0 ≤ m ∧ m < 100) (hi : -1 ≤ i) (k : ∀ μ', FW μ μ' → R (if i = -1 then ((stopL A p m 600).length : Int) else mAt (stopL A p m 600) i) μ') : CAi mX10_stopAt d sc [(2, 183), (0, p), (0, m), (0, i)] μ R := by
  have h6 := h.n6
  have hws := h.wfs
  have hn0 := hws.2.1.1.1
  have h8 := hws.2.2.1
  have hp0 := hp.1
  have hp1 := hp.2
  refine byI (d' := 6) (by omega) (Q := R) ?_ (fun _ _ z => z)
  refine CTi_of mp_X10_stopAt (Nat.le_of_ble_eq_true rfl) ?_
  refine s_X10_stopAt_0 (cb_laysGaps (by omega) h.q (Or.inl h.2.2.2.2.1) (fun μ2 f2 C2 G2 => ?_))
  have F2 : FW μ μ2 := fun b j q1 q2 => f2 b j (by omega) (by omega) (by omega) (by omega)
  have key : ∀ (r v : Nat) (μ1 : Mem), v + r = 10000 → FW μ μ1 → CM μ1 (aH A) (pWind (aP A)) → GG μ1 (aH A) (aP A) → (i = -1 ∨ ((stopL A p m (kV v)).length : Int) ≤ i) →
      WQ mX10_stopAt 6 sc (ZI sc R) 10 [(2, 183), (0, p), (0, m), (0, i), (0, ((stopL A p m (kV v)).length : Int)), (0, (v : Int)), (9, 0)] [] μ1 := by
    intro r
    induction r with
    | zero =>
      intro v μ1 hv hF hC hG hnf
      have e : kV v = 600 := by unfold kV; omega
      rw [e] at hnf ⊢
      refine s_X10_stopAt_10 ⟨fun _ => ⟨fun z => ?_, fun z => ?_⟩, fun z => by omega⟩
      · have := k μ1 hF
        rw [if_neg (by omega), mAt_out (by omega)] at this
        exact this
      · have := k μ1 hF
        rw [if_pos (by omega)] at this
        exact this
    | succ r ih =>
      intro v μ1 hv hF hC hG hnf
      have r1 := h.same hF
      have hlc := stopL_len A p m (kV v)
      have hkv : kV v ≤ 600 := by unfold kV; omega
      have no : ∀ μ9 : Mem, (v % 100 < 6 → stopF A p m (kV v) = false) → FW μ μ9 → CM μ9 (aH A) (pWind (aP A)) → GG μ9 (aH A) (aP A) → WQ mX10_stopAt 6 sc (ZI sc R) 10 [(2, 183), (0, p), (0, m), (0, i), (0, ((stopL A p m (kV v)).length : Int)), (0, (v : Int) + 1), (9, 0)] [] μ9 := by
        intro μ9 e F9 C9 G9
        have el : stopL A p m (kV (v + 1)) = stopL A p m (kV v) := by
          by_cases q : v % 100 < 6
          · rw [kV_up q, stopL_up, e q, if_neg (by decide), List.append_nil]
          · rw [kV_no q]
        have := ih (v + 1) μ9 (by omega) F9 C9 G9 (by rw [el]; exact hnf)
        rw [el] at this
        exact this
      refine s_X10_stopAt_10 ⟨fun z => by omega, fun _ => ⟨by omega, ?_⟩⟩
      intro v4 e4
      refine cb_areTwo (by omega) r1.np h6 (fun z => ⟨fun q => absurd rfl q, fun _ => ⟨by omega, ?_⟩⟩) (fun z => ⟨fun _ => ?_, fun q => absurd q (by decide)⟩)
      · rintro _ rfl
        refine no μ1 (fun q => ?_) hF hC hG
        have hk := kV_code q
        unfold stopF
        rw [hk.2.1, decide_eq_false (fun y => z ⟨⟨by omega, by omega⟩, hp, by omega⟩), Bool.false_and]
      have hv6 : v % 100 < 6 := by omega
      obtain ⟨k1, k2, k3⟩ := kV_code hv6
      generalize hc : kV v = c at *
      have hN : isN (hP (aH A)) p c := ⟨by omega, by omega⟩
      have hcc : (c : Int) < 600 := by omega
      have e : addC (aP A) p c = addN (aP A) v4 p ((v : Int) / 100) 10 := by unfold addC; rw [k2, k3, e4]
      have wN : wfNp (hP (aH A)) (addC (aP A) p c) := wf_add hws.2.1 (by omega) ⟨by omega, hcc⟩ hN hp
      refine cb_allTold (by omega) r1.q (fun μ11 f11 T11 => ⟨by omega, cb_tellsToo (s := 10) (by omega) T11 ⟨hn0, by omega⟩ (fun μ14 f14 T14 => ?_)⟩)
      have FF : ∀ b j, (b = 183 → j ≠ 34) → b ≠ 191 → b ≠ 192 → b ≠ 193 → μ14 b j = μ1 b j := fun b j q1 q2 q3 q4 => by rw [f14 b j q1 q2 q3 q4]; exact f11 b j q1 q2 q3 q4
      have F14 : FW μ μ14 := fun b j q1 q2 => by rw [FF b j (fun y => by have := q1 y; omega) (by omega) (by omega) (by omega)]; exact hF b j q1 q2
      have r14 := h.same F14
      have C14 : CM μ14 (aH A) (pWind (aP A)) := hC.same (fun j => FF _ _ (by omega) (by omega) (by omega) (by omega))
      have G14 : GG μ14 (aH A) (aP A) := fun a b a0 a1 b0 b1 hab => by rw [FF _ _ (by omega) (by omega) (by omega) (by omega)]; exact hG a b a0 a1 b0 b1 hab
      refine cb_goesDay (by omega) r14.q C14 G14 T14 (by rw [← e]; exact wN) (fun μ16 f16 C16 M16 => ?_)
      have F16 : FW μ μ16 := F14.tr f16.w
      have G16 : GG μ16 (aH A) (aP A) := fun a b a0 a1 b0 b1 hab => by rw [f16 _ _ (by omega) (by omega)]; exact G14 a b a0 a1 b0 b1 hab
      rw [← e] at M16
      have hle : (hicL (daySt (gapQ (aH A) (aP A)) (ansQ (aH A) (aP A)) (addC (aP A) p c) 100) 100).length ≤ 500 := dh_len wN
      have hsF : stopF A p m c = hasS (hicL (daySt (gapQ (aH A) (aP A)) (ansQ (aH A) (aP A)) (addC (aP A) p c) 100) 100) p m := by
        unfold stopF
        rw [decide_eq_true (show (c : Int) % 6 < hP (aH A) ∧ (c : Int) % 6 ≠ p from hN), Bool.true_and]
      refine cb_hasOneAt (by omega) M16.1 (by omega) ?_
      rw [← hsF]
      by_cases q : stopF A p m c = true
      · rw [if_pos q]
        refine ⟨fun _ => ⟨fun z2 => ⟨by omega, ?_⟩, fun z2 => ?_⟩, fun y => absurd y (by decide)⟩
        · rintro _ rfl
          refine ⟨by omega, ?_⟩
          rintro _ rfl
          have el : stopL A p m (kV (v + 1)) = stopL A p m c ++ [codeC c] := by rw [kV_up hv6, hc, stopL_up, if_pos q]
          have := ih (v + 1) μ16 (by omega) F16 C16 G16 (by rw [el, List.length_append]; simp; omega)
          rw [el, List.length_append] at this
          exact this
        · have := k μ16 F16
          obtain ⟨ext, ex⟩ := stopL_more A p m (c + 1) (600 - (c + 1))
          rw [show c + 1 + (600 - (c + 1)) = 600 by omega, stopL_up A p m c, if_pos q, List.append_assoc] at ex
          rw [if_neg (by omega), ex, ← z2] at this
          have e3 : mAt (stopL A p m c ++ ([codeC c] ++ ext)) ((stopL A p m c).length : Int) = codeC c := mAt_mid _ _ _
          rw [e3, k1] at this
          exact this
      · rw [if_neg q]
        refine ⟨fun y => absurd rfl y, fun _ => ⟨by omega, ?_⟩⟩
        rintro _ rfl
        exact no μ16 (fun _ => Bool.eq_false_iff.mpr q) F16 C16 G16
  have e0 : stopL A p m (kV 0) = [] := rfl
  have := key 10000 0 μ2 rfl F2 C2 G2 (by rw [e0]; show i = -1 ∨ (0 : Int) ≤ i; omega)
  rw [e0] at this
  exact this
theorem cb_noStop {d : Nat} {sc : SC} {μ : Mem} {A : StT} {p m : Int} {R : Int → Mem → Prop} (hd : 3 ≤ d) (h : RY μ A) (k2 : ¬ ipS A p → R (-2) μ) (k3 : ipS A p → ¬ (0 ≤ m ∧ m < 100) → R (-3) μ) (k0 : ipS A p → 0 ≤ m ∧ m < 100 → R 0 μ) : CAi mX10_noStop d sc [(2, 183), (0, p), (0, m)] μ R := by
  refine byI (d' := 2) (by omega) (Q := R) ?_ (fun _ _ z => z)
  refine CTi_of mp_X10_noStop (Nat.le_of_ble_eq_true rfl) ?_
  refine s_X10_noStop_0 (cb_isPerson (by omega) h.np h.n6 (fun z => ⟨fun q => absurd rfl q, fun _ => k2 z⟩) (fun z => ⟨fun _ => ?_, fun q => absurd q (by decide)⟩))
  exact cb_within (by omega) (fun zm => ⟨fun _ => k3 z (by omega), fun q => absurd rfl q⟩) (fun zm => ⟨fun q => absurd q (by decide), fun _ => k0 z (by omega)⟩)
theorem cm_stops {d : Nat} {sc : SC} {μ : Mem} {A : StT} {p m : Int} (hd : 7 ≤ d) (h : RY μ A) : CTi mX10_stops d sc [(2, 183), (0, p), (0, m)] μ (AM μ A (fun x => x = stopsS A p m)) := by
  refine CTi_of mp_X10_stops (Nat.le_of_ble_eq_true rfl) ?_
  refine s_X10_stops_0 ?_
  intro μ1 e1
  have f1 := fw0 e1
  have r1 := h.same f1
  refine cb_noStop (by omega) r1 (fun z => ⟨fun q => absurd q (by decide), fun _ => AM.of h f1 (if_neg z).symm⟩) (fun z zm => ⟨fun q => absurd q (by decide), fun _ => AM.of h f1 ?_⟩) (fun z zm => ⟨fun _ => cb_stopAt hd r1 z zm (Int.le_refl _) (fun μ' f => AM.of h (f1.tr f) ?_), fun q => absurd rfl q⟩)
  · show _ = _
    unfold stopsS; rw [if_pos z, if_neg zm]
  · show _ = _
    unfold stopsS; rw [if_pos z, if_pos zm, if_pos rfl]
theorem cm_stopBy {d : Nat} {sc : SC} {μ : Mem} {A : StT} {p m i : Int} (hd : 7 ≤ d) (h : RY μ A) : CTi mX10_stopBy d sc [(2, 183), (0, p), (0, m), (0, i)] μ (AM μ A (fun x => x = stopByS A p m i)) := by
  refine CTi_of mp_X10_stopBy (Nat.le_of_ble_eq_true rfl) ?_
  refine s_X10_stopBy_0 ?_
  intro μ1 e1
  have f1 := fw0 e1
  have r1 := h.same f1
  refine cb_noStop (by omega) r1 (fun z => ⟨fun q => absurd q (by decide), fun _ => AM.of h f1 (if_neg z).symm⟩) (fun z zm => ⟨fun q => absurd q (by decide), fun _ => AM.of h f1 ?_⟩) (fun z zm => ⟨fun _ => ⟨fun zi => cb_stopAt hd r1 z zm (by omega) (fun μ' f => AM.of h (f1.tr f) ?_), fun zi => AM.of h f1 ?_⟩, fun q => absurd rfl q⟩)
  · show _ = _
    unfold stopByS; rw [if_pos z, if_neg (fun y => zm y.1)]
  · show _ = _
    rw [if_neg (by omega)]; unfold stopByS; rw [if_pos z, if_pos ⟨zm, zi⟩]
  · show _ = _
    unfold stopByS; rw [if_pos z, if_neg (fun y => by omega)]
/-! one is set into another cell for a while -/
def FC1 (p : Int) (μ μ' : Mem) : Prop := ∀ b j, (b = 183 → j = 5 ∨ j = 13 ∨ j = 14) → (b ≤ 186 ∨ 209 ≤ b) → (b = 184 → j ≠ 64 + p) → μ' b j = μ b j
theorem FC1.my {p c : Int} {μ μ' : Mem} {H : HillT} {P : PlanT} (h : MY μ H P) (hf : FC1 p μ μ') (hp : 0 ≤ p ∧ p < hP H) (hc : 0 ≤ c ∧ c < hR H * hC H) (e : μ' 184 (64 + p) = c) : MY μ' H (moveC P p c) := by
  obtain ⟨h1, h2, h3, h4⟩ := h
  have h6 := h3.2.2.1
  have g : ∀ j, j ≠ 64 + p → μ' 184 j = μ 184 j := fun j q => hf _ _ (by omega) (by omega) (fun _ => q)
  refine ⟨h1.congr (fun i q => g i (by omega)) h6.2, ?_, h3, h4.move (if_pos ⟨hp, hc⟩)⟩
  obtain ⟨m1, m2, m3, m4⟩ := h2
  have h8 := h4.2.2.1
  refine ⟨(g _ (by omega)).trans m1, fun k k0 k1 => ?_, fun q q0 q1 => ?_, (g _ (by omega)).trans m4⟩
  · have k2 : k < pN P := k1
    have x := m2 k k0 k2
    exact ⟨(g _ (by omega)).trans x.1, (g _ (by omega)).trans x.2.1, (g _ (by omega)).trans x.2.2.1, (g _ (by omega)).trans x.2.2.2⟩
  · by_cases hq : q = p
    · have u : pCell (moveC P p c) q = c := if_pos hq
      rw [u, hq]
      show μ' 184 (31 + (33 + p)) = c
      rw [show 31 + (33 + p) = 64 + p by omega]; exact e
    · have u : pCell (moveC P p c) q = pCell P q := if_neg hq
      rw [u]
      exact (g _ (by omega)).trans (m3 q q0 q1)
theorem RY.cell {μ : Mem} {A : StT} (h : RY μ A) {p : Int} (hp : ipS A p) : μ 184 (64 + p) = pCell (aP A) p := by
  have := h.mp.2.2.1 p hp.1 hp.2
  rw [← this]
  show _ = μ 184 (31 + (33 + p))
  rw [show 31 + (33 + p) = 64 + p by omega]
theorem cells_at {d : Nat} {sc : SC} {μ : Mem} {H : HillT} {P : PlanT} {R : Int → Mem → Prop} (hd : 1 ≤ d) (h1 : μ 184 1 = hR H) (h2 : μ 184 2 = hC H) (hw : wfH H) (k : R (hR H * hC H) μ) : CAi mX10_cellMany d sc [(2, 183)] μ R := by
  have hb := cells_b hw
  refine byI (d' := 0) (by omega) (Q := R) ?_ (fun _ _ z => z)
  refine CTi_of mp_X10_cellMany (Nat.le_of_ble_eq_true rfl) ?_
  refine s_X10_cellMany_0 ?_
  rw [h1, h2]
  exact ⟨by omega, k⟩
theorem cm_quiet {d : Nat} {sc : SC} {μ : Mem} {A : StT} {p w : Int} (hd : 6 ≤ d) (h : RY μ A) : CTi mX10_quiet d sc [(2, 183), (0, p), (0, w)] μ (AM μ A (fun x => x = quietS A p w)) := by
  refine CTi_of mp_X10_quiet (Nat.le_of_ble_eq_true rfl) ?_
  refine s_X10_quiet_0 ?_
  intro μ1 e1
  have f1 := fw0 e1
  have r1 := h.same f1
  have h6 := h.n6
  have hcb := cells_b h.q.2.2.1
  refine cb_isPerson (by omega) r1.np h6 (fun z => ⟨fun _ => AM.of h f1 (if_neg (fun y => z y.1)).symm, fun q => absurd rfl q⟩) (fun hp => ⟨fun q => absurd q (by decide), fun _ => ?_⟩)
  refine cb_within (by omega) (fun z => ⟨fun q => absurd rfl q, fun _ => AM.of h f1 (if_neg (fun y => z y.2)).symm⟩) (fun zw => ⟨fun _ => ?_, fun q => absurd q (by decide)⟩)
  refine ⟨by omega, by omega, ?_⟩
  rw [r1.cell hp]
  rintro _ rfl
  have hS : quietS A p w = if w = 0 then (quietN A p (hR (aH A) * hC (aH A) - 1).toNat).1 else (quietN A p (hR (aH A) * hC (aH A) - 1).toNat).2 := if_pos ⟨hp, zw⟩
  have hq := h.q
  have hqb : ∀ c, 0 ≤ c → c < hR (aH A) * hC (aH A) → 0 ≤ quietF A p c ∧ quietF A p c ≤ 500 := fun c c0 c1 => by
    have hw := h.wfs.move (if_pos ⟨hp, c0, c1⟩ : moveW (aH A) p c = 0)
    have hl : (dayOf (aH A) (moveC (aP A) p c)).length ≤ 500 := dh_len hw.2.1
    have := hicN_b (dayOf (aH A) (moveC (aP A) p c)) p
    unfold quietF
    omega
  have key : ∀ (r c : Nat) (b f : Int) (μ2 : Mem), (c : Int) + r = hR (aH A) * hC (aH A) → FC1 p μ μ2 → (c = 0 ∨ CM μ2 (aH A) (pWind (aP A))) → ((c = 0 ∧ b = -1 ∧ f = 268435456) ∨ (0 < c ∧ (b, f) = quietN A p (c - 1))) →
      WQ mX10_quiet d sc (ZI sc (AM μ A (fun x => x = quietS A p w))) 48 [(2, 183), (0, p), (0, w), (0, pCell (aP A) p), (0, b), (0, f), (0, (c : Int)), (9, 0)] [] μ2 := by
    intro r
    induction r with
    | zero =>
      intro c b f μ2 hc hF hCM hB
      refine s_X10_quiet_48 (cells_at (P := aP A) (by omega) ((hF _ _ (by omega) (by omega) (by omega)).trans hq.1.2.1) ((hF _ _ (by omega) (by omega) (by omega)).trans hq.1.2.2.1) hq.2.2.1 ⟨fun _ => ?_, fun z => by omega⟩)
      intro μ4 e4
      refine ⟨by omega, by omega, ?_⟩
      intro μ7 e7
      have FF : FW μ μ7 := fun b j q1 q2 => by
        rw [e7, mup_ap]
        split
        · rename_i y; rw [y.1, y.2]; exact (h.cell hp).symm
        · rename_i y
          rw [e4, mup_ap]
          split
          · rename_i y2; rw [y2.1, y2.2]; exact h.2.2.2.2.1.symm
          · rename_i y2; exact hF b j (fun z => by have := q1 z; omega) q2 (fun z z2 => y ⟨z, z2⟩)
      rcases hB with y | ⟨y1, y2⟩
      · omega
      rw [show c - 1 = (hR (aH A) * hC (aH A) - 1).toNat by omega] at y2
      refine ⟨fun z => AM.of h FF ?_, fun z => AM.of h FF ?_⟩
      · show _ = _
        rw [hS, if_neg z, ← y2]
      · show _ = _
        rw [hS, if_pos z, ← y2]
    | succ r ih =>
      intro c b f μ2 hc hF hCM hB
      have hb := hqb c (by omega) (by omega)
      have step : ∀ μ13 : Mem, FC1 p μ μ13 → μ13 184 (64 + p) = c → (μ13 183 19 = 0 ∨ CM μ13 (aH A) (pWind (aP A))) →
          CAv mX10_laysDay d sc [(2, 183)] μ13 (fun μ15 => CAi mX10_hiccupsOf d sc [(2, 183), (0, p)] μ15 (fun r16 μ17 => (r16 < f → (-2147483648 ≤ (c : Int) + 1 ∧ (c : Int) + 1 < 2147483648) ∧ ∀ v20 : Int, v20 = (c : Int) + 1 → WQ mX10_quiet d sc (ZI sc (AM μ A (fun x => x = quietS A p w))) 48 [(2, 183), (0, p), (0, w), (0, pCell (aP A) p), (0, (c : Int)), (0, r16), (0, v20), (9, 0)] [] μ17) ∧ (f ≤ r16 → (-2147483648 ≤ (c : Int) + 1 ∧ (c : Int) + 1 < 2147483648) ∧ ∀ v22 : Int, v22 = (c : Int) + 1 → WQ mX10_quiet d sc (ZI sc (AM μ A (fun x => x = quietS A p w))) 48 [(2, 183), (0, p), (0, w), (0, pCell (aP A) p), (0, b), (0, f), (0, v22), (9, 0)] [] μ17))) := by
        intro μ13 F13 s13 C13
        have Y13 := FC1.my (c := (c : Int)) hq F13 hp ⟨by omega, by omega⟩ s13
        refine cb_laysDay hd Y13 C13 (fun μ15 f15 C15 G15 M15 => ?_)
        have F15 : FC1 p μ μ15 := fun b' j q1 q2 q3 => by rw [f15 b' j (fun z => by have := q1 z; omega) q2]; exact F13 b' j q1 q2 q3
        have hl : (dayOf (aH A) (moveC (aP A) p c)).length ≤ 500 := dh_len Y13.2.2.2.2.1
        refine cb_hiccupsOf (by omega) M15.1 (by have := hl; unfold dayOf at this; omega) ?_
        have eF : hicN (hicL (daySt (gapQ (aH A) (moveC (aP A) p c)) (ansQ (aH A) (moveC (aP A) p c)) (moveC (aP A) p c) 100) 100) p = quietF A p c := rfl
        rw [eF]
        refine ⟨fun z => ⟨by omega, ?_⟩, fun z => ⟨by omega, ?_⟩⟩
        · rintro _ rfl
          refine ih (c + 1) c (quietF A p c) μ15 (by omega) F15 (Or.inr C15) (Or.inr ⟨by omega, ?_⟩)
          rw [Nat.add_sub_cancel]
          rcases hB with ⟨y1, _, _⟩ | ⟨y1, y2⟩
          · rw [y1]; rfl
          · obtain ⟨c', rfl⟩ : ∃ c', c = c' + 1 := ⟨c - 1, by omega⟩
            rw [Nat.add_sub_cancel] at y2
            rw [quietN, ← y2, if_pos z]
        · rintro _ rfl
          refine ih (c + 1) b f μ15 (by omega) F15 (Or.inr C15) (Or.inr ⟨by omega, ?_⟩)
          rw [Nat.add_sub_cancel]
          rcases hB with ⟨y1, _, y3⟩ | ⟨y1, y2⟩
          · omega
          · obtain ⟨c', rfl⟩ : ∃ c', c = c' + 1 := ⟨c - 1, by omega⟩
            rw [Nat.add_sub_cancel] at y2
            rw [quietN, ← y2, if_neg (by omega)]
      refine s_X10_quiet_48 (cells_at (P := aP A) (by omega) ((hF _ _ (by omega) (by omega) (by omega)).trans hq.1.2.1) ((hF _ _ (by omega) (by omega) (by omega)).trans hq.1.2.2.1) hq.2.2.1 ⟨fun z => by omega, fun _ => ⟨by omega, by omega, ?_⟩⟩)
      intro μ11 e11
      have g11 : ∀ b j, (b = 184 → j ≠ 64 + p) → μ11 b j = μ2 b j := fun b j q => by rw [e11, mup_ap, if_neg (fun y => q y.1 y.2)]
      have s11 : μ11 184 (64 + p) = c := by rw [e11, mup_at]
      have fin : ∀ (x : Int) (μ13 : Mem), μ13 = mup μ11 183 19 x → (x = 0 ∨ CM μ2 (aH A) (pWind (aP A))) → FC1 p μ μ13 ∧ μ13 184 (64 + p) = c ∧ (μ13 183 19 = 0 ∨ CM μ13 (aH A) (pWind (aP A))) := fun x μ13 e13 hx => by
        have g13 : ∀ b j, (b = 183 → j ≠ 19) → μ13 b j = μ11 b j := fun b j q => by rw [e13, mup_ap, if_neg (fun y => q y.1 y.2)]
        refine ⟨fun b j q1 q2 q3 => by rw [g13 b j (fun z => by have := q1 z; omega), g11 b j q3]; exact hF b j q1 q2 q3, by rw [g13 _ _ (by omega)]; exact s11, ?_⟩
        rcases hx with y | y
        · exact Or.inl (by rw [e13, mup_at]; exact y)
        · exact Or.inr (y.same (fun j => by rw [g13 _ _ (by omega)]; exact g11 _ _ (by omega)))
      refine ⟨fun z => ?_, fun z => ?_⟩
      · intro μ13 e13
        obtain ⟨q1, q2, q3⟩ := fin 0 μ13 e13 (Or.inl rfl)
        exact step μ13 q1 q2 q3
      · intro μ13 e13
        obtain ⟨q1, q2, q3⟩ := fin 1 μ13 e13 (Or.inr (hCM.resolve_left (by omega)))
        exact step μ13 q1 q2 q3
  exact key (hR (aH A) * hC (aH A)).toNat 0 (-1) 268435456 μ1 (by omega) (fun b j q1 q2 q3 => f1 b j (fun z => by have := q1 z; omega) q2) (Or.inl rfl) (Or.inl ⟨rfl, rfl, rfl⟩)

/-! THE CLASS ASKED OTHERWISE: namings by which one has a hiccup in a minute -/
theorem ca_dayTo {d : Nat} {sc : SC} {μ : Mem} {a L h p tp last : Int} {H : HillT} {P PN : PlanT} {R : Int → Mem → Prop} (hd : 7 ≤ d) (ha : isK 0 a) (htp : isK 6 tp) (hX : LRep μ L h p H P) (hN : XN μ tp PN) (hw : wfNp (hP H) PN) (hl : -1 ≤ last ∧ last ≤ 99)
    (k : ∀ μ', FRd μ μ' a L → LRep μ' L h p H P → DayD μ' a H P PN (last + 1).toNat → R 1 μ') : CAi mX0_run d sc [(2, a), (2, tp), (2, L), (0, last), (0, (-1))] μ R := by
  have hr := ct_run (d := 6) (sc := sc) (w := -1) (last := last) (Nat.le_refl _) ha htp hX hN hw ⟨hl.1, by omega⟩
  rw [show min (last + 1) 100 = last + 1 by omega] at hr
  refine byI (d' := 6) (by omega) hr ?_
  rintro x μ' ⟨r1, r2, r3⟩
  rcases r3 with ⟨rfl, x2, _⟩ | ⟨_, u, _, u2, _⟩
  · exact k μ' r1 r2 x2
  · rw [spk_none hw] at u2; exact absurd u2 (by decide)
def stopF (A : StT) (p m : Int) (c : Nat) : Bool := decide ((c : Int) % 6 < hP (aH A) ∧ (c : Int) % 6 ≠ p) && hasS (hicL (daySt (gapQ (aH A) (aP A)) (ansQ (aH A) (aP A)) (addC (aP A) p c) 100) 100) p m
def stopL (A : StT) (p m : Int) (n : Nat) : List Int := ((List.range n).filter (stopF A p m)).map (fun (c : Nat) => codeC c)
theorem stopL_up (A : StT) (p m : Int) (n : Nat) : stopL A p m (n + 1) = stopL A p m n ++ if stopF A p m n = true then [codeC n] else [] := by
  unfold stopL
  rw [List.range_succ, List.filter_append, List.map_append]
  congr 1
  by_cases h : stopF A p m n = true <;> simp [h]
theorem stopL_len (A : StT) (p m : Int) (n : Nat) : (stopL A p m n).length ≤ n := by
  unfold stopL
  rw [List.length_map]
  have := List.length_filter_le (stopF A p m) (List.range n)
  rw [List.length_range] at this
  exact this
theorem stopL_more (A : StT) (p m : Int) (n : Nat) : ∀ r : Nat, ∃ ext, stopL A p m (n + r) = stopL A p m n ++ ext := by
  intro r
  induction r with
  | zero => exact ⟨[], by simp⟩
  | succ r ih =>
    obtain ⟨ext, e⟩ := ih
    exact ⟨ext ++ if stopF A p m (n + r) = true then [codeC ((n + r : Nat) : Int)] else [], by rw [← Nat.add_assoc, stopL_up, e, List.append_assoc]⟩
theorem codeC_at (c : Int) : codeC c = c / 6 * 100 + c % 6 := rfl
/-- the day to the minute tells what the whole day tells of it -/
theorem has_to {gap : Int → Int} {ans : Int → Int → Bool} {PN : PlanT} (hg : gapOK gap) {p m : Int} (h0 : 0 ≤ m) (h1 : m < 100) : hasS (hicL (daySt gap ans PN (m + 1).toNat) (m + 1).toNat) p m = hasS (hicL (daySt gap ans PN 100) 100) p m := by
  rw [hasS_mute _ h0 (by omega), hasS_mute _ h0 (by omega), hicAt_100 hg (t := (m + 1).toNat) (by omega) (by omega)]
theorem has_late {gap : Int → Int} {ans : Int → Int → Bool} {P : PlanT} (hg : gapOK gap) (hn : 0 ≤ pN P) {p m w v t s : Int} (h0 : 0 ≤ m) (h1 : m < 100) (ht : m ≤ t) : hasS (hicL (daySt gap ans (addN P w v t s) 100) 100) p m = hasS (hicL (daySt gap ans P 100) 100) p m := by
  rw [hasS_mute _ h0 (by omega), hasS_mute _ h0 (by omega), hicAt_100 hg (t := m.toNat) (by omega) (by omega), hicAt_100 (P := P) hg (t := m.toNat) (by omega) (by omega), daySt_add w v t s hn m.toNat (by omega)]
theorem ct_findStops {d : Nat} {sc : SC} {μ : Mem} {A : StT} {p m i : Int} (hd : 8 ≤ d) (h : RX μ A) (hk : KA μ A) (hp : ipS A p) (hm : 0 ≤ m ∧ m < 100) (hi : -1 ≤ i) :
    CTi mX9_findStops d sc [(2, 0), (0, p), (0, m), (0, i)] μ (fun x μ' => x = (if i = -1 then ((stopL A p m 600).length : Int) else mAt (stopL A p m 600) i) ∧ RX μ' A ∧ FX μ μ') := by
  have hn := h.1.now
  have hws := h.1.wfs
  have h6 := h.1.wfh.2.2.1
  have hp0 := hp.1
  have hp1 := hp.2
  have hgo := gapQ_ok (aH A) (aP A)
  refine CTi_of mp_X9_findStops (Nat.le_of_ble_eq_true rfl) ?_
  refine s_X9_findStops_0 ?_
  have hdm : ∀ x ∈ DH A, 0 ≤ x.2 := fun x hx => (dh_mem h6.2 hws.2.1 hx).1.1
  have hdl : (DH A).length ≤ 500 := dh_len hws.2.1
  refine byI (d' := 7) (by omega) (ct_hasHiccup k_105 hk.hr (hicL_sorted _ _) hdm (by omega)) ?_
  rintro any z0 ⟨hany, ez⟩
  rw [ez]
  clear ez z0
  refine ⟨hn.1, ca_begin (by omega) h.1 ?_⟩
  intro μ5 f5 x5
  generalize hQ : (fun (x : Int) (μ' : Mem) => x = (if i = -1 then ((stopL A p m 600).length : Int) else mAt (stopL A p m 600) i) ∧ RX μ' A ∧ FX μ μ') = Q
  have hQi : ∀ (x : Int) (μ' : Mem), x = (if i = -1 then ((stopL A p m 600).length : Int) else mAt (stopL A p m 600) i) → FT μ μ' → LRep μ' 97 (μ 0 2) (μ 0 2 + 7) (aH A) (aP A) → Q x μ' := fun x μ' z1 z2 z3 => by
    rw [← hQ]
    exact ⟨z1, h.trial z2 (fun _ => z3), z2.c.x⟩
  have key : ∀ (r c : Nat) (μ1 : Mem), c + r = 600 → FT μ μ1 → LRep μ1 97 (μ 0 2) (μ 0 2 + 7) (aH A) (aP A) → XE μ1 121 (aP A) → (i = -1 ∨ ((stopL A p m c).length : Int) ≤ i) →
      WQ mX9_findStops d sc (ZI sc Q) 31 [(2, 0), (0, p), (0, m), (0, i), (0, any), (0, ((stopL A p m c).length : Int)), (0, (c : Int)), (9, 0), (9, 0), (9, 0)] [] μ1 := by
    intro r
    induction r with
    | zero =>
      intro c μ1 hc hF hL hE hnf
      have hc6 : c = 600 := by omega
      refine s_X9_findStops_31 ⟨fun _ => ⟨fun z => ?_, fun z => ?_⟩, fun z => by omega⟩
      · refine hQi _ _ ?_ hF hL
        rw [if_neg z, mAt_out]
        rw [hc6] at hnf
        omega
      · refine hQi _ _ ?_ hF hL
        rw [if_pos z, hc6]
    | succ r ih =>
      intro c μ1 hc hF hL hE hnf
      have hlc := stopL_len A p m c
      have e2 : μ1 0 2 = μ 0 2 := hF _ _ (fun _ => by omega) (by omega) (by omega)
      have hR1 : RX μ1 A := h.trial hF (fun _ => hL)
      have hcell : μ1 (μ1 0 2) 3 = hP (aH A) := hR1.1.np
      -- the two ways on
      have no : ∀ μ9 : Mem, stopF A p m c = false → FT μ μ9 → LRep μ9 97 (μ 0 2) (μ 0 2 + 7) (aH A) (aP A) → XE μ9 121 (aP A) → WQ mX9_findStops d sc (ZI sc Q) 31 [(2, 0), (0, p), (0, m), (0, i), (0, any), (0, ((stopL A p m c).length : Int)), (0, (c : Int) + 1), (9, 0), (9, 0), (9, 0)] [] μ9 := by
        intro μ9 e F9 L9 E9
        have el : stopL A p m (c + 1) = stopL A p m c := by rw [stopL_up, e, if_neg (by decide), List.append_nil]
        have := ih (c + 1) μ9 (by omega) F9 L9 E9 (by rw [el]; exact hnf)
        rw [el] at this
        exact this
      have yes : ∀ μ9 : Mem, stopF A p m c = true → (i = -1 ∨ ((stopL A p m c).length : Int) ≠ i) → FT μ μ9 → LRep μ9 97 (μ 0 2) (μ 0 2 + 7) (aH A) (aP A) → XE μ9 121 (aP A) → WQ mX9_findStops d sc (ZI sc Q) 31 [(2, 0), (0, p), (0, m), (0, i), (0, any), (0, ((stopL A p m c).length : Int) + 1), (0, (c : Int) + 1), (9, 0), (9, 0), (9, 0)] [] μ9 := by
        intro μ9 e hne F9 L9 E9
        have el : stopL A p m (c + 1) = stopL A p m c ++ [codeC c] := by rw [stopL_up, if_pos e]
        have := ih (c + 1) μ9 (by omega) F9 L9 E9 (by rw [el, List.length_append]; simp; omega)
        rw [el, List.length_append] at this
        exact this
      have at141 : ∀ (y : Int) (μ9 : Mem), isN (hP (aH A)) p c → (y = if hasS (hicL (daySt (gapQ (aH A) (aP A)) (ansQ (aH A) (aP A)) (addC (aP A) p c) 100) 100) p m = true then 1 else 0) → FT μ μ9 → LRep μ9 97 (μ 0 2) (μ 0 2 + 7) (aH A) (aP A) → XE μ9 121 (aP A) →
          WQ mX9_findStops d sc (ZI sc Q) 141 [(2, 0), (0, p), (0, m), (0, i), (0, any), (0, ((stopL A p m c).length : Int)), (0, (c : Int)), (0, (c : Int) % 6), (0, (c : Int) / 6), (0, y)] [] μ9 := by
        intro y μ9 hN hy F9 L9 E9
        have hv : decide ((c : Int) % 6 < hP (aH A) ∧ (c : Int) % 6 ≠ p) = true := decide_eq_true hN
        refine s_X9_findStops_141 ⟨fun y0 => ⟨fun _ => ⟨by omega, ?_⟩, fun z => absurd y0 z⟩, fun y0 => ⟨fun z => ⟨fun z2 => absurd z2 y0, fun _ => ⟨by omega, ?_⟩⟩, fun z => ⟨by omega, by omega, ?_⟩⟩⟩
        · rintro _ rfl
          refine ⟨by omega, ?_⟩
          rintro _ rfl
          rw [Int.add_zero]
          refine no μ9 ?_ F9 L9 E9
          unfold stopF
          rw [hv, Bool.true_and]
          by_cases q : hasS (hicL (daySt (gapQ (aH A) (aP A)) (ansQ (aH A) (aP A)) (addC (aP A) p c) 100) 100) p m = true
          · rw [if_pos q] at hy; omega
          · exact Bool.eq_false_iff.mpr q
        all_goals
          have q : hasS (hicL (daySt (gapQ (aH A) (aP A)) (ansQ (aH A) (aP A)) (addC (aP A) p c) 100) 100) p m = true := Decidable.of_not_not (fun q => by rw [if_neg q] at hy; exact y0 hy)
          have e : stopF A p m c = true := by unfold stopF; rw [hv, Bool.true_and]; exact q
        · rintro _ rfl
          refine ⟨by omega, ?_⟩
          rintro _ rfl
          exact yes μ9 e (Or.inr z) F9 L9 E9
        · refine hQi _ _ ?_ F9 L9
          rw [if_neg (by omega)]
          obtain ⟨ext, ex⟩ := stopL_more A p m (c + 1) r
          rw [show c + 1 + r = 600 by omega, stopL_up A p m c, if_pos e, List.append_assoc] at ex
          rw [ex, ← z]
          exact (mAt_mid _ _ _).symm
      refine s_X9_findStops_31 ⟨fun z => by omega, fun _ => ⟨by omega, ?_⟩⟩
      intro v4 h4
      refine ⟨by omega, ?_⟩
      intro v6 h6'
      refine ⟨hR1.1.now.1, ?_⟩
      rw [hcell]
      refine ⟨fun z => ⟨by omega, ?_⟩, fun z => ⟨fun z2 => ⟨by omega, ?_⟩, fun z2 => ⟨fun z3 => ?_, fun z3 => ?_⟩⟩⟩
      · rintro _ rfl
        refine no μ1 ?_ hF hL hE
        unfold stopF
        rw [decide_eq_false (by omega), Bool.false_and]
      · rintro _ rfl
        refine no μ1 ?_ hF hL hE
        unfold stopF
        rw [decide_eq_false (by omega), Bool.false_and]
      · have hN : isN (hP (aH A)) p c := ⟨by omega, by omega⟩
        have := at141 any μ1 hN (by rw [hany]; unfold addC; rw [has_late hgo hws.2.1.1.1 hm.1 hm.2 (by omega)]; rfl) hF hL hE
        rw [← h4, ← h6'] at this
        exact this
      · have hN : isN (hP (aH A)) p c := ⟨by omega, by omega⟩
        intro μ15 e15
        have g15 : ∀ b j, (b = 121 → j ≠ 0) → μ15 b j = μ1 b j := fun b j q => by rw [e15, mup_ap, if_neg (fun y => q y.1 y.2)]
        have n15 : XN μ15 121 (aP A) := ⟨by rw [e15, mup_at, hR1.1.xp.1], fun k k0 k1 => by
          rw [g15 _ _ (by omega), g15 _ _ (by omega), g15 _ _ (by omega), g15 _ _ (by omega)]; exact hE k k0 k1⟩
        have hpn := hws.2.1.1
        refine byV (d' := 7) (by omega) (ct_add k_121 (by rw [n15.1]; have := hws.2.2.1; omega)) ?_
        rintro μ17 ⟨f17, _, g3, g4⟩
        have n17 := n15.add g3 g4
        have wN : wfNp (hP (aH A)) (addC (aP A) p c) := wf_add hws.2.1 (by have := hws.2.2.1; omega) ⟨by omega, by omega⟩ hN hp
        have F17 : FT μ μ17 := hF.tr (fun b j q1 q2 q3 => by rw [f17 b j (by omega), g15 b j (by omega)])
        have L17 : LRep μ17 97 (μ 0 2) (μ 0 2 + 7) (aH A) (aP A) := hL.h97 (fun b j q => by rw [f17 b j (by omega), g15 b j (by omega)])
        have n17' : XN μ17 121 (addC (aP A) p c) := by
          have : addC (aP A) p c = addN (aP A) v4 p v6 10 := by rw [h4, h6']; rfl
          rw [this]; exact n17
        refine ca_dayTo (by omega) k_135 k_121 L17 n17' wN ⟨by omega, by omega⟩ ?_
        intro μ19 f19 L19 D19
        have hDm : ∀ x ∈ hicL (daySt (gapQ (aH A) (aP A)) (ansQ (aH A) (aP A)) (addC (aP A) p c) (m + 1).toNat) (m + 1).toNat, 0 ≤ x.2 := fun x hx => (daySt_good h6.2 wN _ x (hicL_mem hx).1).1
        have hDl : (hicL (daySt (gapQ (aH A) (aP A)) (ansQ (aH A) (aP A)) (addC (aP A) p c) (m + 1).toNat) (m + 1).toNat).length ≤ 512 := by
          have q2 := hicL_le (daySt (gapQ (aH A) (aP A)) (ansQ (aH A) (aP A)) (addC (aP A) p c) (m + 1).toNat) (m + 1).toNat
          have q3 := daySt_len (ans := ansQ (aH A) (aP A)) hgo wN.1.2 (show (m + 1).toNat ≤ 100 by omega)
          omega
        refine byI (d' := 7) (by omega) (ct_hasHiccup k_135 D19.1 (hicL_sorted _ _) hDm hDl) ?_
        rintro y z0 ⟨hy, ez⟩
        rw [ez]
        clear ez z0
        have F19 : FT μ μ19 := F17.tr (fun b j q1 q2 q3 => f19 b j (by omega) (by omega) (by omega) (by omega) (by omega))
        have E19 : XE μ19 121 (aP A) := (XE_add n17').same (fun b j q1 q2 => f19 b j (by omega) (by omega) (by omega) (by omega) (by omega))
        have := at141 y μ19 hN (by rw [hy, has_to hgo hm.1 hm.2]) F19 L19 E19
        rw [← h4, ← h6'] at this
        exact this
  have E5 : XE μ5 121 (aP A) := x5.2.1
  exact key 600 0 μ5 rfl (ft_trial f5) (hk.1.h97 (fun b j q => f5 b j (by omega))) E5 (by show i = -1 ∨ (0 : Int) ≤ i; omega)
def stopsS (A : StT) (p m : Int) : Int := if ipS A p then (if 0 ≤ m ∧ m < 100 then ((stopL A p m 600).length : Int) else -3) else -2
def stopByS (A : StT) (p m i : Int) : Int := if ipS A p then (if (0 ≤ m ∧ m < 100) ∧ 0 ≤ i then mAt (stopL A p m 600) i else -3) else -2
theorem cx_stops {d : Nat} {sc : SC} {μ : Mem} {A : StT} {p m : Int} (hd : 9 ≤ d) (h : RX μ A) : CTi mX9_stops d sc [(2, 0), (0, p), (0, m)] μ (AX μ A (fun x => x = stopsS A p m)) := by
  refine CTi_of mp_X9_stops (Nat.le_of_ble_eq_true rfl) ?_
  refine s_X9_stops_0 (ca_isPerson (by omega) h.1 (fun zp => ⟨fun q => absurd rfl q, fun _ => AX.here h (if_neg zp).symm⟩) (fun zp => ⟨fun _ => ?_, fun q => absurd q (by decide)⟩))
  refine ca_isMinute (by omega) (fun zm => ⟨fun q => absurd rfl q, fun _ => AX.here h ?_⟩) (fun zm => ⟨fun _ => ca_know (by omega) h (fun μ8 f8 r8 k8 => ?_), fun q => absurd q (by decide)⟩)
  · show _ = _
    unfold stopsS; rw [if_pos zp, if_neg zm]
  · refine byI (d' := 8) (by omega) (ct_findStops (Nat.le_refl _) r8 k8 zp zm (Int.le_refl _)) ?_
    rintro x μ' ⟨hx, r, fx⟩
    refine ⟨?_, r, f8.x.tr fx⟩
    show _ = _
    unfold stopsS; rw [if_pos zp, if_pos zm, hx, if_pos rfl]
theorem cx_stopBy {d : Nat} {sc : SC} {μ : Mem} {A : StT} {p m i : Int} (hd : 9 ≤ d) (h : RX μ A) : CTi mX9_stopBy d sc [(2, 0), (0, p), (0, m), (0, i)] μ (AX μ A (fun x => x = stopByS A p m i)) := by
  refine CTi_of mp_X9_stopBy (Nat.le_of_ble_eq_true rfl) ?_
  have bad : ipS A p → ¬ ((0 ≤ m ∧ m < 100) ∧ 0 ≤ i) → AX μ A (fun x => x = stopByS A p m i) (-3) μ := fun zp z => AX.here h (by show _ = _; unfold stopByS; rw [if_pos zp, if_neg z])
  refine s_X9_stopBy_0 (ca_isPerson (by omega) h.1 (fun zp => ⟨fun q => absurd rfl q, fun _ => AX.here h (if_neg zp).symm⟩) (fun zp => ⟨fun _ => ?_, fun q => absurd q (by decide)⟩))
  refine ca_isMinute (by omega) (fun zm => ⟨fun _ => bad zp (fun y => zm y.1), fun q => absurd rfl q⟩) (fun zm => ⟨fun q => absurd q (by decide), fun _ => ⟨fun zi => ca_know (by omega) h (fun μ8 f8 r8 k8 => ?_), fun zi => bad zp (fun y => by omega)⟩⟩)
  refine byI (d' := 8) (by omega) (ct_findStops (Nat.le_refl _) r8 k8 zp zm (by omega)) ?_
  rintro x μ' ⟨hx, r, fx⟩
  refine ⟨?_, r, f8.x.tr fx⟩
  show _ = _
  unfold stopByS; rw [if_pos zp, if_pos ⟨zm, zi⟩, hx, if_neg (by omega)]

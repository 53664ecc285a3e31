/-! THE REFERENCE: silence sought -/
theorem kV_b {v : Nat} (h : v ≤ 2000) : kV v ≤ 120 := by unfold kV; omega
theorem kV_2000 : kV 2000 = 120 := rfl
theorem addV {P : PlanT} {p : Int} {v : Nat} (h : v % 100 < 6) : addC P p (kV v) = addN P ((v : Int) % 100) p ((v : Int) / 100) 10 := by
  have := kV_code h
  unfold addC
  rw [this.2.1, this.2.2]
def SI (μ μ' : Mem) (A : StT) : Prop := FW μ μ' ∧ CM μ' (aH A) (pWind (aP A)) ∧ GG μ' (aH A) (aP A)
theorem cb_laysSilence {d : Nat} {sc : SC} {μ : Mem} {A : StT} {p : Int} {R : Mem → Prop} (hd : 7 ≤ d) (h : RY μ A) (hp : ipS A p) (k : ∀ μ', FW μ μ' → SilR (aH A) (aP A) p (μ' 183 40) (μ' 183 41) (μ' 183 42) → R μ') : CAv mX10_laysSilence d sc [(2, 183), (0, p)] μ R := by
  have h6 := h.n6
  have hws := h.wfs
  have hn0 := hws.2.1.1.1
  have h8 := hws.2.2.1
  have hp0 := hp.1
  have hp1 := hp.2
  have hip : 0 ≤ p ∧ p < hP (aH A) := hp
  clear hp
  generalize hH : aH A = H at *
  generalize hPP : aP A = P at *
  refine byV (d' := 6) (by omega) (Q := R) ?_ (fun _ z => z)
  refine CTv_of mp_X10_laysSilence (Nat.le_of_ble_eq_true rfl) ?_
  have hq0 := h.q
  rw [hH, hPP] at hq0
  refine s_X10_laysSilence_0 (cb_laysGaps (by omega) hq0 (Or.inl h.2.2.2.2.1) (fun μ2 f2 C2 G2 => ?_))
  intro μ3 e3 μ4 e4 μ5 e5
  have g5 : ∀ b j, (b = 183 → j ≠ 40 ∧ j ≠ 41 ∧ j ≠ 42) → μ5 b j = μ2 b j := fun b j q => by rw [e5, mup_ap, if_neg (by omega), e4, mup_ap, if_neg (by omega), e3, mup_ap, if_neg (by omega)]
  have s40 : μ5 183 40 = 0 := by rw [e5, mup_ap, if_neg (by omega), e4, mup_ap, if_neg (by omega), e3, mup_at]
  have s41 : μ5 183 41 = -1 := by rw [e5, mup_ap, if_neg (by omega), e4, mup_at]
  have s42 : μ5 183 42 = -1 := by rw [e5, mup_at]
  have I5 : SI μ μ5 A := by
    refine ⟨fun b j q1 q2 => by rw [g5 b j (fun y => by have := q1 y; omega)]; exact f2 b j (by omega) (by omega) (by omega) (by omega), ?_, ?_⟩
    · rw [hH, hPP]; exact C2.same (fun j => g5 _ _ (by omega))
    · rw [hH, hPP]; exact fun a b a0 a1 b0 b1 hab => by rw [g5 _ _ (by omega)]; exact G2 a b a0 a1 b0 b1 hab
  have my : ∀ {μ1 : Mem}, SI μ μ1 A → MY μ1 H P := fun i => by rw [← hH, ← hPP]; exact (h.same i.1).q
  have cm : ∀ {μ1 : Mem}, SI μ μ1 A → CM μ1 H (pWind P) := fun i => by rw [← hH, ← hPP]; exact i.2.1
  have gg : ∀ {μ1 : Mem}, SI μ μ1 A → GG μ1 H P := fun i => by rw [← hH, ← hPP]; exact i.2.2
  have np : ∀ {μ1 : Mem}, SI μ μ1 A → μ1 184 3 = hP H := fun i => by rw [← hH]; exact (h.same i.1).np
  have st : ∀ {μ1 μ' : Mem}, SI μ μ1 A → FDy μ1 μ' → CM μ' H (pWind P) → GG μ' H P → SI μ μ' A := fun i f c g => ⟨i.1.tr f.w, by rw [hH, hPP]; exact c, by rw [hH, hPP]; exact g⟩
  have st2 : ∀ {μ1 μ' : Mem} {j x : Int}, SI μ μ1 A → 40 ≤ j → μ' = mup μ1 183 j x → SI μ μ' A := fun {μ1 μ' j x} i hj e => by
    have g : ∀ b' j', (b' = 183 → j' ≠ j) → μ' b' j' = μ1 b' j' := fun b' j' q => by rw [e, mup_ap, if_neg (fun y => q y.1 y.2)]
    refine ⟨fun b' j' q1 q2 => by rw [g b' j' (fun y => by have := q1 y; omega)]; exact i.1 b' j' q1 q2, i.2.1.same (fun j' => g _ _ (by omega)), fun a b a0 a1 b0 b1 hab => by rw [g _ _ (by omega)]; exact i.2.2 a b a0 a1 b0 b1 hab⟩
  have wN : ∀ {Q : PlanT} {c : Int}, wfNp (hP H) Q → pN Q ≤ 9 → 0 ≤ c → c < 120 → isN (hP H) p c → wfNp (hP H) (addC Q p c) := fun w1 w2 w3 w4 w5 => wf_add w1 w2 ⟨w3, by omega⟩ w5 hip
  refine cb_isSilent (by omega) (my I5) (cm I5) (gg I5) (Or.inl ⟨rfl, rfl⟩) (Or.inl ⟨rfl, rfl⟩) hws.2.1 (fun μ7 f7 C7 G7 => ?_)
  have I7 := st I5 f7 C7 G7
  have t40 : ∀ j, 40 ≤ j → μ7 183 j = μ5 183 j := fun j q => f7 _ _ (by omega) (by omega)
  cases hs0 : silB H P P p with
  | true =>
    rw [if_pos rfl]
    exact ⟨fun z => absurd z (by decide), fun _ => k μ7 I7.1 (Or.inl ⟨hs0, by rw [t40 _ (by omega)]; exact s40, by rw [t40 _ (by omega)]; exact s41, by rw [t40 _ (by omega)]; exact s42⟩)⟩
  | false =>
    rw [if_neg (by decide)]
    refine ⟨fun _ => ?_, fun z => absurd rfl z⟩
    intro μ9 e9
    have I9 := st2 I7 (Int.le_refl _) e9
    have v40 : μ9 183 40 = 1 := by rw [e9, mup_at]
    have v41 : μ9 183 41 = -1 := by rw [e9, mup_ap, if_neg (by omega), t40 _ (by omega)]; exact s41
    have v42 : μ9 183 42 = -1 := by rw [e9, mup_ap, if_neg (by omega), t40 _ (by omega)]; exact s42
    clear e9 I7 t40 f7 C7 G7
    have two : ∀ (r v : Nat) (μ1 : Mem), v + r = 2000 → SI μ μ1 A → μ1 183 40 = 2 → μ1 183 41 = -1 → μ1 183 42 = -1 → One H P p 120 → Two H P p (kV v) 0 → WQ mX10_laysSilence 6 sc (ZV sc R) 90 [(2, 183), (0, p), (0, (v : Int)), (9, 0)] [] μ1 := by
      intro r
      induction r with
      | zero =>
        intro v μ1 hv hI q0 q1 q2 h1n hT
        have ev : v = 2000 := by omega
        rw [ev, kV_2000] at hT
        refine s_X10_laysSilence_90 ⟨fun _ => ?_, fun z => by omega⟩
        intro μ2' e2
        have I2 := st2 hI (Int.le_refl _) e2
        refine k μ2' I2.1 (Or.inr (Or.inr (Or.inr ⟨hs0, h1n, fun c e c0 ce e1 cN eN => hT c e c0 ce e1 (Or.inl (by show c < ((120 : Nat) : Int); omega)) cN eN, by rw [e2, mup_at], by rw [e2, mup_ap, if_neg (by omega)]; exact q1, by rw [e2, mup_ap, if_neg (by omega)]; exact q2⟩)))
      | succ r ih =>
        intro v μ1 hv hI q0 q1 q2 h1n hT
        refine s_X10_laysSilence_90 ⟨fun z => by omega, fun _ => ⟨by omega, ?_⟩⟩
        rintro _ rfl
        have hkv := kV_b (v := v) (by omega)
        have inner : ∀ (r2 w : Nat) (μ1 : Mem), w + r2 = 2000 → v < w → SI μ μ1 A → μ1 183 40 = 2 → μ1 183 41 = -1 → μ1 183 42 = -1 → (v % 100 < 6 → Two H P p (kV v) (kV w)) → WQ mX10_laysSilence 6 sc (ZV sc R) 101 [(2, 183), (0, p), (0, (v : Int)), (0, (w : Int))] [] μ1 := by
          intro r2
          induction r2 with
          | zero =>
            intro w μ1 hw hvw hI q0 q1 q2 hTT
            refine s_X10_laysSilence_101 ⟨fun _ => ⟨by omega, ?_⟩, fun z => by omega⟩
            rintro _ rfl
            refine ih (v + 1) μ1 (by omega) hI q0 q1 q2 h1n ?_
            by_cases q : v % 100 < 6
            · have hT2 := hTT q
              rw [show w = 2000 by omega, kV_2000] at hT2
              rw [kV_up q]
              intro c e c0 ce e1 hc cN eN
              exact hT2 c e c0 ce e1 (by omega) cN eN
            · rw [kV_no q]; exact hT
          | succ r2 ih2 =>
            intro w μ1 hw hvw hI q0 q1 q2 hTT
            have hkw := kV_b (v := w) (by omega)
            refine s_X10_laysSilence_101 ⟨fun z => by omega, fun _ => ⟨by omega, ?_⟩⟩
            refine cb_areTwo (by omega) (np hI) h6 (fun z => ⟨fun _ => ⟨by omega, ?_⟩, fun q => absurd rfl q⟩) (fun z => ⟨fun q => absurd q (by decide), fun _ => ⟨by omega, ?_⟩⟩)
            · rintro _ rfl
              refine ih (v + 1) μ1 (by omega) hI q0 q1 q2 h1n ?_
              by_cases q : v % 100 < 6
              · have hk := kV_code q
                rw [kV_up q]
                intro c e c0 ce e1 hc cN eN
                by_cases q2 : c = kV v
                · rw [q2] at cN
                  have cN' : ((kV v : Nat) : Int) % 6 < hP H ∧ ((kV v : Nat) : Int) % 6 ≠ p := cN
                  exact absurd ⟨⟨by omega, by omega⟩, hip, by omega⟩ z
                · exact hT c e c0 ce e1 (by omega) cN eN
              · rw [kV_no q]; exact hT
            have hv6 : v % 100 < 6 := by omega
            obtain ⟨k1, k2, k3⟩ := kV_code hv6
            have vN : isN (hP H) p (kV v) := ⟨by omega, by omega⟩
            have hT2 := hTT hv6
            have on : ∀ μ1 : Mem, SI μ μ1 A → μ1 183 40 = 2 → μ1 183 41 = -1 → μ1 183 42 = -1 → (w % 100 < 6 → isN (hP H) p (kV w) → silB H P (addC (addC P p (kV v)) p (kV w)) p = false) → WQ mX10_laysSilence 6 sc (ZV sc R) 101 [(2, 183), (0, p), (0, (v : Int)), (0, (w : Int) + 1)] [] μ1 := by
              intro μ1 hI q0 q1 q2 hh
              refine ih2 (w + 1) μ1 (by omega) (by omega) hI q0 q1 q2 (fun _ => ?_)
              by_cases q : w % 100 < 6
              · rw [kV_up q]
                intro c e c0 ce e1 hc cN eN
                by_cases y : c = kV v ∧ e = kV w
                · rw [y.1, y.2]; rw [y.2] at eN; exact hh q eN
                · exact hT2 c e c0 ce e1 (by omega) cN eN
              · rw [kV_no q]; exact hT2
            refine cb_areTwo (by omega) (np hI) h6 (fun z2 => ⟨fun _ => ⟨by omega, ?_⟩, fun q => absurd rfl q⟩) (fun z2 => ⟨fun q => absurd q (by decide), fun _ => ?_⟩)
            · rintro _ rfl
              refine on μ1 hI q0 q1 q2 (fun q eN => ?_)
              have hk := kV_code q
              have eN' : ((kV w : Nat) : Int) % 6 < hP H ∧ ((kV w : Nat) : Int) % 6 ≠ p := eN
              exact absurd ⟨⟨by omega, by omega⟩, hip, by omega⟩ z2
            have hw6 : w % 100 < 6 := by omega
            obtain ⟨l1, l2, l3⟩ := kV_code hw6
            have wNN : isN (hP H) p (kV w) := ⟨by omega, by omega⟩
            have hkvl : kV v < kV w := by unfold kV; omega
            have hkw2 : kV w < 120 := by have := kV_b (v := w + 1) (by omega); rw [kV_up hw6] at this; omega
            have e1 : addC P p (kV v) = _ := addV (P := P) (p := p) hv6
            have e2 : addC (addC P p (kV v)) p (kV w) = _ := addV (P := addC P p (kV v)) (p := p) hw6
            have hwf1 := wN hws.2.1 (by omega) (by omega) (by omega) vN
            have hwf2 := wN hwf1 (by show pN P + 1 ≤ 9; omega) (by omega) (by omega) wNN
            refine cb_isSilent (by omega) (my hI) (cm hI) (gg hI) (Or.inr ⟨by omega, z.2.2, e1⟩) (Or.inr ⟨by omega, z2.2.2, e2⟩) hwf2 (fun μ17 f17 C17 G17 => ?_)
            have I17 := st hI f17 C17 G17
            have u40 : ∀ j, 40 ≤ j → μ17 183 j = μ1 183 j := fun j q => f17 _ _ (by omega) (by omega)
            cases hs : silB H P (addC (addC P p (kV v)) p (kV w)) p with
            | true =>
              rw [if_pos rfl]
              refine ⟨fun _ => ?_, fun y => absurd y (by decide)⟩
              intro μ19 e19 μ20 e20
              have I20 := st2 (st2 I17 (by omega) e19) (by omega) e20
              refine k μ20 I20.1 (Or.inr (Or.inr (Or.inl ⟨hs0, h1n, kV v, kV w, ⟨by omega, by omega, by omega⟩, vN, wNN, hs, fun c e c0 ce e1 hc cN eN => hT2 c e c0 ce e1 hc cN eN, ?_, ?_, ?_⟩)))
              · rw [e20, mup_ap, if_neg (by omega), e19, mup_ap, if_neg (by omega), u40 _ (by omega)]; exact q0
              · rw [e20, mup_ap, if_neg (by omega), e19, mup_at]; exact k1.symm
              · rw [e20, mup_at]; exact l1.symm
            | false =>
              rw [if_neg (by decide)]
              refine ⟨fun y => absurd rfl y, fun _ => ⟨by omega, ?_⟩⟩
              rintro _ rfl
              exact on μ17 I17 (by rw [u40 _ (by omega)]; exact q0) (by rw [u40 _ (by omega)]; exact q1) (by rw [u40 _ (by omega)]; exact q2) (fun _ _ => hs)
        have := inner (2000 - (v + 1)) (v + 1) μ1 (by omega) (by omega) hI q0 q1 q2 (fun q => by
          rw [kV_up q]
          intro c e c0 ce e1 hc cN eN
          exact hT c e c0 ce e1 (by omega) cN eN)
        exact this
    have one : ∀ (r v : Nat) (μ1 : Mem), v + r = 2000 → SI μ μ1 A → μ1 183 40 = 1 → μ1 183 41 = -1 → μ1 183 42 = -1 → One H P p (kV v) → WQ mX10_laysSilence 6 sc (ZV sc R) 37 [(2, 183), (0, p), (0, (v : Int)), (9, 0)] [] μ1 := by
      intro r
      induction r with
      | zero =>
        intro v μ1 hv hI q0 q1 q2 h1n
        have ev : v = 2000 := by omega
        rw [ev, kV_2000] at h1n
        refine s_X10_laysSilence_37 ⟨fun _ => ?_, fun z => by omega⟩
        intro μ2' e2
        exact two 2000 0 μ2' rfl (st2 hI (Int.le_refl _) e2) (by rw [e2, mup_at]) (by rw [e2, mup_ap, if_neg (by omega)]; exact q1) (by rw [e2, mup_ap, if_neg (by omega)]; exact q2) h1n (fun c e c0 ce e1 hc _ _ => by
          have : kV 0 = 0 := rfl
          rw [this] at hc
          omega)
      | succ r ih =>
        intro v μ1 hv hI q0 q1 q2 h1n
        have hkv := kV_b (v := v) (by omega)
        have on : ∀ μ1 : Mem, SI μ μ1 A → μ1 183 40 = 1 → μ1 183 41 = -1 → μ1 183 42 = -1 → (v % 100 < 6 → isN (hP H) p (kV v) → silB H P (addC P p (kV v)) p = false) → WQ mX10_laysSilence 6 sc (ZV sc R) 37 [(2, 183), (0, p), (0, (v : Int) + 1), (9, 0)] [] μ1 := by
          intro μ1 hI q0 q1 q2 hh
          refine ih (v + 1) μ1 (by omega) hI q0 q1 q2 ?_
          by_cases q : v % 100 < 6
          · rw [kV_up q]
            intro c c0 c1 cN
            by_cases y : c = kV v
            · rw [y]; rw [y] at cN; exact hh q cN
            · exact h1n c c0 (by omega) cN
          · rw [kV_no q]; exact h1n
        refine s_X10_laysSilence_37 ⟨fun z => by omega, fun _ => ⟨by omega, ?_⟩⟩
        refine cb_areTwo (by omega) (np hI) h6 (fun z => ⟨fun _ => ⟨by omega, ?_⟩, fun q => absurd rfl q⟩) (fun z => ⟨fun q => absurd q (by decide), fun _ => ?_⟩)
        · rintro _ rfl
          refine on μ1 hI q0 q1 q2 (fun q eN => ?_)
          have hk := kV_code q
          have eN' : ((kV v : Nat) : Int) % 6 < hP H ∧ ((kV v : Nat) : Int) % 6 ≠ p := eN
          exact absurd ⟨⟨by omega, by omega⟩, hip, by omega⟩ z
        have hv6 : v % 100 < 6 := by omega
        obtain ⟨k1, k2, k3⟩ := kV_code hv6
        have vN : isN (hP H) p (kV v) := ⟨by omega, by omega⟩
        have hkv2 : kV v < 120 := by have := kV_b (v := v + 1) (by omega); rw [kV_up hv6] at this; omega
        have e1 : addC P p (kV v) = _ := addV (P := P) (p := p) hv6
        have hwf1 := wN hws.2.1 (by omega) (by omega) (by omega) vN
        refine cb_isSilent (by omega) (my hI) (cm hI) (gg hI) (Or.inr ⟨by omega, z.2.2, e1⟩) (Or.inl ⟨rfl, rfl⟩) hwf1 (fun μ10 f10 C10 G10 => ?_)
        have I10 := st hI f10 C10 G10
        have u40 : ∀ j, 40 ≤ j → μ10 183 j = μ1 183 j := fun j q => f10 _ _ (by omega) (by omega)
        cases hs : silB H P (addC P p (kV v)) p with
        | true =>
          rw [if_pos rfl]
          refine ⟨fun _ => ?_, fun y => absurd y (by decide)⟩
          intro μ12 e12
          have I12 := st2 I10 (by omega) e12
          refine k μ12 I12.1 (Or.inr (Or.inl ⟨hs0, kV v, ⟨by omega, by omega⟩, vN, hs, h1n, ?_, ?_, ?_⟩))
          · rw [e12, mup_ap, if_neg (by omega), u40 _ (by omega)]; exact q0
          · rw [e12, mup_at]; exact k1.symm
          · rw [e12, mup_ap, if_neg (by omega), u40 _ (by omega)]; exact q2
        | false =>
          rw [if_neg (by decide)]
          refine ⟨fun y => absurd rfl y, fun _ => ⟨by omega, ?_⟩⟩
          rintro _ rfl
          exact on μ10 I10 (by rw [u40 _ (by omega)]; exact q0) (by rw [u40 _ (by omega)]; exact q1) (by rw [u40 _ (by omega)]; exact q2) (fun _ _ => hs)
    exact one 2000 0 μ9 rfl I9 v40 v41 v42 (fun c c0 c1 _ => by
      have : kV 0 = 0 := rfl
      rw [this] at c1
      omega)
theorem cm_silence {d : Nat} {sc : SC} {μ : Mem} {A : StT} {p w : Int} (hd : 7 ≤ d) (h : RY μ A) : CTi mX10_silence d sc [(2, 183), (0, p), (0, w)] μ (AM μ A (silenceR A p w)) := by
  refine CTi_of mp_X10_silence (Nat.le_of_ble_eq_true rfl) ?_
  refine s_X10_silence_0 ?_
  intro μ1 e1
  have f1 := fw0 e1
  have r1 := h.same f1
  have bad : ¬ (ipS A p ∧ 0 ≤ w ∧ w ≤ 2) → AM μ A (silenceR A p w) (-2) μ1 := fun z => AM.of h f1 (by unfold silenceR; rw [if_neg z])
  refine cb_isPerson (by omega) r1.np r1.n6 (fun z => ⟨fun _ => bad (fun y => z y.1), fun q => absurd rfl q⟩) (fun z => ⟨fun q => absurd q (by decide), fun _ => ?_⟩)
  refine cb_within (by omega) (fun zw => ⟨fun q => absurd rfl q, fun _ => bad (fun y => zw y.2)⟩) (fun zw => ⟨fun _ => cb_laysSilence hd r1 z (fun μ9 f9 S9 => ?_), fun q => absurd q (by decide)⟩)
  have fin : ∀ x, x = (if w = 0 then μ9 183 40 else if w = 1 then μ9 183 41 else μ9 183 42) → AM μ A (silenceR A p w) x μ9 := fun x hx => AM.of h (f1.tr f9) (by unfold silenceR; rw [if_pos ⟨z, zw⟩]; exact ⟨_, _, _, S9, hx⟩)
  exact ⟨fun w0 => ⟨fun w1 => fin _ (by rw [if_neg w0, if_neg w1]), fun w1 => fin _ (by rw [if_neg w0, if_pos w1])⟩, fun w0 => fin _ (by rw [if_pos w0])⟩

/-! THE REFERENCE: laws -/
theorem bool_io {a b : Int} (ha : a = 0 ∨ a = 1) (hb : b = 0 ∨ b = 1) : iAnd a b = (if a ≠ 0 ∧ b ≠ 0 then 1 else 0) ∧ iOr a b = (if a ≠ 0 ∨ b ≠ 0 then 1 else 0) := by
  rcases ha with rfl | rfl <;> rcases hb with rfl | rfl <;> decide +kernel
theorem cb_between1 {d : Nat} {sc : SC} {μ : Mem} {op a b c : Int} {env : Int → Int} {R : Int → Mem → Prop} (hd : 1 ≤ d) (ha : -1000000 ≤ a ∧ a ≤ 1000000) (hb : -1000000 ≤ b ∧ b ≤ 1000000) (hop : op = 1012 ∨ op = 1013 ∨ op = 1039 ∨ op = 1040 ∨ op = 1041 ∨ op = 1032 ∨ op = 1033 ∨ op = 1034) (h01 : op = 1012 ∨ op = 1013 → (a = 0 ∨ a = 1) ∧ (b = 0 ∨ b = 1)) (k : R (made env op a b c) μ) : CAi mX10_between1 d sc [(0, trC op), (0, a), (0, b)] μ R := by
  refine byI (d' := 0) (by omega) (Q := R) ?_ (fun _ _ z => z)
  refine CTi_of mp_X10_between1 (Nat.le_of_ble_eq_true rfl) ?_
  have fin : ∀ y : Int, -1000000000000 ≤ y ∧ y ≤ 1000000000000 → R (clamp (-1000000) 1000000 y) μ → WQ mX10_between1 0 sc (ZI sc R) 116 [(9, 0), (9, 0), (9, 0), (9, 0), (9, 0)] [(1, y)] μ := by
    intro y hy hk
    refine s_X10_between1_116 ⟨fun z => ⟨fun z2 => ?_, fun z2 => ?_⟩, fun z => ?_⟩
    · have e : clamp (-1000000) 1000000 y = w32 y := by rw [w32_id ⟨by omega, by omega⟩]; unfold clamp; omega
      rw [← e]; exact hk
    · have e : clamp (-1000000) 1000000 y = w32 (-1000000) := by rw [w32_id ⟨by omega, by omega⟩]; unfold clamp; omega
      rw [← e]; exact hk
    · have e : clamp (-1000000) 1000000 y = w32 1000000 := by rw [w32_id ⟨by omega, by omega⟩]; unfold clamp; omega
      rw [← e]; exact hk
  have hab : -1000000000000 ≤ a * b ∧ a * b ≤ 1000000000000 := by
    have h1 : (a * b).natAbs = a.natAbs * b.natAbs := Int.natAbs_mul a b
    have h2 : a.natAbs * b.natAbs ≤ 1000000 * 1000000 := Nat.mul_le_mul (by omega) (by omega)
    omega
  rcases hop with rfl | rfl | rfl | rfl | rfl | rfl | rfl | rfl
  · have e : made env 1012 a b c = if a ≠ 0 ∧ b ≠ 0 then 1 else 0 := rfl
    have := h01 (Or.inl rfl)
    rw [e, ← (bool_io this.1 this.2).1] at k
    exact s_X10_between1_0 ⟨fun z => absurd z (by decide), fun z => absurd z (by decide), fun z => absurd z (by decide), fun _ => k, fun z => absurd z (by decide), fun z => absurd rfl z.2.2.2.1⟩
  · have e : made env 1013 a b c = if a ≠ 0 ∨ b ≠ 0 then 1 else 0 := rfl
    have := h01 (Or.inr rfl)
    rw [e, ← (bool_io this.1 this.2).2] at k
    exact s_X10_between1_0 ⟨fun z => absurd z (by decide), fun z => absurd z (by decide), fun z => absurd z (by decide), fun z => absurd z (by decide), fun _ => k, fun z => absurd rfl z.2.2.2.2⟩
  · have e : made env 1039 a b c = if a = b then 1 else 0 := rfl
    rw [e] at k
    exact s_X10_between1_0 ⟨fun _ => ⟨fun z => by rw [if_neg z] at k; exact k, fun z => by rw [if_pos z] at k; exact k⟩, fun z => absurd z (by decide), fun z => absurd z (by decide), fun z => absurd z (by decide), fun z => absurd z (by decide), fun z => absurd rfl z.1⟩
  · have e : made env 1040 a b c = if a < b then 1 else 0 := rfl
    rw [e] at k
    exact s_X10_between1_0 ⟨fun z => absurd z (by decide), fun _ => ⟨fun z => by rw [if_neg (by omega)] at k; exact k, fun z => by rw [if_pos z] at k; exact k⟩, fun z => absurd z (by decide), fun z => absurd z (by decide), fun z => absurd z (by decide), fun z => absurd rfl z.2.1⟩
  · have e : made env 1041 a b c = if b < a then 1 else 0 := rfl
    rw [e] at k
    exact s_X10_between1_0 ⟨fun z => absurd z (by decide), fun z => absurd z (by decide), fun _ => ⟨fun z => by rw [if_neg (by omega)] at k; exact k, fun z => by rw [if_pos z] at k; exact k⟩, fun z => absurd z (by decide), fun z => absurd z (by decide), fun z => absurd rfl z.2.2.1⟩
  · have e : made env 1032 a b c = clamp (-1000000) 1000000 (a + b) := rfl
    rw [e] at k
    exact s_X10_between1_0 ⟨fun z => absurd z (by decide), fun z => absurd z (by decide), fun z => absurd z (by decide), fun z => absurd z (by decide), fun z => absurd z (by decide), fun _ => ⟨fun z => absurd rfl z, fun _ => ⟨by omega, fin _ (by omega) k⟩⟩⟩
  · have e : made env 1033 a b c = clamp (-1000000) 1000000 (a - b) := rfl
    rw [e] at k
    exact s_X10_between1_0 ⟨fun z => absurd z (by decide), fun z => absurd z (by decide), fun z => absurd z (by decide), fun z => absurd z (by decide), fun z => absurd z (by decide), fun _ => ⟨fun _ => ⟨fun z => absurd rfl z, fun _ => ⟨by omega, fin _ (by omega) k⟩⟩, fun z => absurd z (by decide)⟩⟩
  · have e : made env 1034 a b c = clamp (-1000000) 1000000 (a * b) := rfl
    rw [e] at k
    exact s_X10_between1_0 ⟨fun z => absurd z (by decide), fun z => absurd z (by decide), fun z => absurd z (by decide), fun z => absurd z (by decide), fun z => absurd z (by decide), fun _ => ⟨fun _ => ⟨fun _ => ⟨by omega, fin _ hab k⟩, fun z => absurd z (by decide)⟩, fun z => absurd z (by decide)⟩⟩
theorem trC_num {op : Int} (h : op < 1000) : trC op = op := if_pos h
theorem cb_reckons {d : Nat} {sc : SC} {μ : Mem} {H : HillT} {P : PlanT} {l a b g m : Int} {R : Int → Mem → Prop} (hd : 3 ≤ d) (h : MY μ H P) (hl : 0 ≤ l ∧ l < 3) (hlen : 0 < hLen H l) (ha : 0 ≤ a ∧ a < hP H) (hb : 0 ≤ b ∧ b < hP H) (hg : 0 ≤ g ∧ g ≤ 20) (hm : 0 ≤ m ∧ m ≤ 100) (hgm : l = 2 → μ 189 7 = g ∧ μ 189 8 = m)
    (k : ∀ μ', (∀ b j, b ≠ 188 → (b = 189 → 7 ≤ j) → μ' b j = μ b j) → R (ev (envS H P a b g m) (hCode H l) (hLen H l)) μ') : CAi mX10_reckons d sc [(2, 183), (0, l), (0, a), (0, b)] μ R := by
  have h6 := h.2.2.1.2.2.1
  refine byI (d' := 2) (by omega) (Q := R) ?_ (fun _ _ z => z)
  refine CTi_of mp_X10_reckons (Nat.le_of_ble_eq_true rfl) ?_
  refine s_X10_reckons_0 ?_
  intro μ2 e2 μ4 e4
  have g4 : ∀ b j : Int, (b = 189 → j ≠ 0 ∧ j ≠ 1) → μ4 b j = μ b j := fun b j y => by rw [e4, mup_ap, if_neg (fun z => (y z.1).2 z.2), e2, mup_ap, if_neg (fun z => (y z.1).1 z.2)]
  have h4 : MY μ4 H P := h.same (fun j => g4 _ _ (by omega))
  refine cb_farOf (Nat.le_refl _) h4 ha hb ?_
  intro μ8 e8
  have g8 : ∀ b j : Int, (b = 189 → j ≠ 0 ∧ j ≠ 1 ∧ j ≠ 2) → μ8 b j = μ b j := fun b j y => by rw [e8, mup_ap, if_neg (fun z => (y z.1).2.2 z.2), g4 b j (fun z => ⟨(y z).1, (y z).2.1⟩)]
  refine ⟨by omega, by omega, ?_⟩
  intro μ12 e12
  have g12 : ∀ b j : Int, (b = 189 → j ≠ 0 ∧ j ≠ 1 ∧ j ≠ 2 ∧ j ≠ 3) → μ12 b j = μ b j := fun b j y => by rw [e12, mup_ap, if_neg (fun z => (y z.1).2.2.2 z.2), g8 b j (fun z => ⟨(y z).1, (y z).2.1, (y z).2.2.1⟩)]
  refine ⟨by omega, by omega, ?_⟩
  intro μ16 e16
  have g16 : ∀ b j : Int, (b = 189 → j ≠ 0 ∧ j ≠ 1 ∧ j ≠ 2 ∧ j ≠ 3 ∧ j ≠ 4) → μ16 b j = μ b j := fun b j y => by rw [e16, mup_ap, if_neg (fun z => (y z.1).2.2.2.2 z.2), g12 b j (fun z => ⟨(y z).1, (y z).2.1, (y z).2.2.1, (y z).2.2.2.1⟩)]
  refine ⟨by omega, by omega, ?_⟩
  intro μ20 e20
  have g20 : ∀ b j : Int, (b = 189 → 6 ≤ j) → μ20 b j = μ b j := fun b j y => by rw [e20, mup_ap, if_neg (fun z => by have := y z.1; omega), g16 b j (fun z => by have := y z; omega)]
  intro μ23 e23
  have g23 : ∀ b j : Int, (b = 189 → 7 ≤ j) → μ23 b j = μ b j := fun b j y => by rw [e23, mup_ap, if_neg (fun z => by have := y z.1; omega), g20 b j (fun z => by have := y z; omega)]
  obtain ⟨hMH, hMP, hwH, hwS⟩ := h
  have hfl := hMH.2.2.2.2.1
  have wd : ∀ op : Int, 1015 ≤ op → op ≤ 1023 → (l < 2 → op ≠ 1022 ∧ op ≠ 1023) → (1000 ≤ trC op ∧ trC op ≤ 1008) ∧ μ23 189 (trC op - 1000) = envS H P a b g m (op - 1015) := by
    have w6 : μ23 189 6 = pWind P := by
      rw [e23, mup_at, g20 _ _ (by omega)]
      have : (fun i => μ 184 (31 + i)) 39 = pWind P := hMP.2.2.2
      exact this
    have w5 : μ23 189 5 = hVoice H a := by
      rw [e23, mup_ap, if_neg (fun z => by omega), e20, mup_at, g16 _ _ (by omega)]
      exact (hfl a ha.1 ha.2).2.2
    have w4 : μ23 189 4 = hDeaf H b := by
      rw [e23, mup_ap, if_neg (fun z => by omega), e20, mup_ap, if_neg (fun z => by omega), e16, mup_at, g12 _ _ (by omega)]
      exact (hfl b hb.1 hb.2).2.1
    have w3 : μ23 189 3 = hLoud H a := by
      rw [e23, mup_ap, if_neg (fun z => by omega), e20, mup_ap, if_neg (fun z => by omega), e16, mup_ap, if_neg (fun z => by omega), e12, mup_at, g8 _ _ (by omega)]
      exact (hfl a ha.1 ha.2).1
    have w2 : μ23 189 2 = farOf H P a b := by
      rw [e23, mup_ap, if_neg (fun z => by omega), e20, mup_ap, if_neg (fun z => by omega), e16, mup_ap, if_neg (fun z => by omega), e12, mup_ap, if_neg (fun z => by omega), e8, mup_at]
    have w1 : μ23 189 1 = b := by
      rw [e23, mup_ap, if_neg (fun z => by omega), e20, mup_ap, if_neg (fun z => by omega), e16, mup_ap, if_neg (fun z => by omega), e12, mup_ap, if_neg (fun z => by omega), e8, mup_ap, if_neg (fun z => by omega), e4, mup_at]
    have w0 : μ23 189 0 = a := by
      rw [e23, mup_ap, if_neg (fun z => by omega), e20, mup_ap, if_neg (fun z => by omega), e16, mup_ap, if_neg (fun z => by omega), e12, mup_ap, if_neg (fun z => by omega), e8, mup_ap, if_neg (fun z => by omega), e4, mup_ap, if_neg (fun z => by omega), e2, mup_at]
    have w78 : l = 2 → μ23 189 7 = g ∧ μ23 189 8 = m := fun z => by rw [g23 _ _ (by omega), g23 _ _ (by omega)]; exact hgm z
    intro op o0 o1 hno
    have : op = 1015 ∨ op = 1016 ∨ op = 1017 ∨ op = 1018 ∨ op = 1019 ∨ op = 1020 ∨ op = 1021 ∨ op = 1022 ∨ op = 1023 := by omega
    rcases this with rfl | rfl | rfl | rfl | rfl | rfl | rfl | rfl | rfl
    · exact ⟨by decide, w6⟩
    · exact ⟨by decide, w3⟩
    · exact ⟨by decide, w4⟩
    · exact ⟨by decide, w5⟩
    · exact ⟨by decide, w0⟩
    · exact ⟨by decide, w1⟩
    · exact ⟨by decide, w2⟩
    · exact ⟨by decide, (w78 (by have := hno; omega)).1⟩
    · exact ⟨by decide, (w78 (by have := hno; omega)).2⟩
  have hlw := hwH.2.2.2.2 l hl.1 hl.2
  have hwf := hlw.2.1 hlen
  have henv := envS_b hwH hwS.1 ha hb (g := g) (m := m) hg hm
  have hrow : μ 184 (10 + l) = hLen H l ∧ (0 ≤ μ 184 (7 + l) ∧ μ 184 (7 + l) + hLen H l ≤ 900) ∧ ∀ k, 0 ≤ k → k < hLen H l → μ 184 (473 + μ 184 (7 + l) + k) = trC (hCode H l k) := by
    rcases hMH.2.2.2.2.2 l hl.1 hl.2 with q | q
    · exact q.2.2
    · have := q.2; omega
  generalize hE : envS H P a b g m = env at *
  generalize hCd : hCode H l = c at *
  generalize hnn : hLen H l = n at *
  have key : ∀ (r kk : Nat) (μ1 : Mem), (kk : Int) + r = n → (∀ b j : Int, b ≠ 188 → μ1 b j = μ23 b j) → (∀ j, 0 ≤ j → j < (evN env c kk).1 → μ1 188 j = (evN env c kk).2 j) →
      WQ mX10_reckons 2 sc (ZI sc R) 91 [(2, 183), (0, l), (9, 0), (9, 0), (0, (evN env c kk).1), (0, (kk : Int)), (9, 0)] [] μ1 := by
    intro r
    induction r with
    | zero =>
      intro kk μ1 hk hf hs
      refine s_X10_reckons_91 ⟨by omega, by omega, fun _ => ?_, fun z => by rw [hf _ _ (by omega), g23 _ _ (by omega), hrow.1] at z; omega⟩
      have ht : (evN env c n.toNat).1 = 1 := by rw [← ty_ev]; exact hwf.2.1
      rw [show n.toNat = kk by omega] at ht
      have : μ1 188 0 = ev env c n := by
        rw [hs 0 (Int.le_refl _) (by omega)]
        unfold ev
        rw [show n.toNat = kk by omega]
      rw [this]
      exact k μ1 (fun b j y1 y2 => by rw [hf b j y1]; exact g23 b j y2)
    | succ r ih =>
      intro kk μ1 hk hf hs
      have f184 : ∀ j, μ1 184 j = μ 184 j := fun j => by rw [hf _ _ (by omega), g23 _ _ (by omega)]
      refine s_X10_reckons_91 ⟨by omega, by omega, fun z => by rw [f184, hrow.1] at z; omega, fun _ => ⟨by omega, by omega, ?_⟩⟩
      rw [f184]
      refine ⟨by omega, by omega, by omega, ?_⟩
      intro v10 h10
      rw [f184, hrow.2.2 kk (by omega) (by omega)] at h10
      obtain ⟨o1, o2, o3, o4⟩ := hwf.1 kk (by omega)
      have hok := ev_ok henv hwf kk (by omega)
      have hty := ty_ev env c kk
      have hop22 : l < 2 → c kk ≠ 1022 ∧ c kk ≠ 1023 := fun z => by
        have := hlw.2.2 z kk (by omega) (by omega)
        exact this
      have eN : evN env c (kk + 1) = evStep env (c kk) (evN env c kk) := rfl
      generalize hst : evN env c kk = st at *
      generalize hop : c (kk : Int) = op at *
      have fin : ∀ (top' : Int) (w : Int), top' = st.1 - taken op + 1 → w = made env op (st.2 (st.1 - taken op)) (st.2 (st.1 - taken op + 1)) (st.2 (st.1 - taken op + 2)) → ∀ μ9 : Mem, μ9 = mup μ1 188 (st.1 - taken op) w → WQ mX10_reckons 2 sc (ZI sc R) 292 [(2, 183), (0, l), (9, 0), (9, 0), (0, top'), (0, (kk : Int)), (9, 0)] [] μ9 := by
        intro top' w ht hw μ9 e9
        refine s_X10_reckons_292 ⟨by omega, ?_⟩
        rintro _ rfl
        have := ih (kk + 1) μ9 (by omega) (fun b j y => by rw [e9, mup_ap, if_neg (fun z => y z.1)]; exact hf b j y) (fun j j0 j1 => ?_)
        · rw [eN] at this
          have e1 : (evStep env op st).1 = top' := by rw [ht]; rfl
          rw [e1] at this
          exact this
        · rw [eN] at j1 ⊢
          have e1 : (evStep env op st).1 = st.1 - taken op + 1 := rfl
          have e2 : (evStep env op st).2 j = if j = st.1 - taken op then made env op (st.2 (st.1 - taken op)) (st.2 (st.1 - taken op + 1)) (st.2 (st.1 - taken op + 2)) else st.2 j := rfl
          rw [e2, e9, mup_ap]
          by_cases y : j = st.1 - taken op
          · rw [if_pos ⟨rfl, y⟩, if_pos y]; exact hw
          · rw [if_neg (fun z => y z.2), if_neg y]
            have : 0 ≤ taken op := by unfold taken; split <;> (try split) <;> (try split) <;> decide
            exact hs j j0 (by omega)
      rw [← hst] at hty
      rw [hty, hst] at o2 o3 o4
      have vals : ∀ j, 0 ≤ j → j < st.1 → (-1000000 ≤ st.2 j ∧ st.2 j ≤ 1000000) ∧ ((tyN c kk).2 j = 1 → st.2 j = 0 ∨ st.2 j = 1) := hok.2.2
      have binary : ∀ (x : Int), (op = 1012 ∨ op = 1013 ∨ op = 1039 ∨ op = 1040 ∨ op = 1041 ∨ op = 1032 ∨ op = 1033 ∨ op = 1034) → x = st.1 + -1 → (-2147483648 ≤ x - 1 ∧ x - 1 < 2147483648) ∧ (-2147483648 ≤ x - 1 ∧ x - 1 < 2147483648) ∧ (0 ≤ x - 1 ∧ x - 1 < 900) ∧ (0 ≤ x ∧ x < 900) ∧ CAi mX10_between1 2 sc [(0, v10), (0, μ1 188 (x - 1)), (0, μ1 188 x)] μ1 (fun r20 μ21 => (0 ≤ x - 1 ∧ x - 1 < 900) ∧ (∀ μ23, μ23 = mup μ21 188 (x - 1) r20 → WQ mX10_reckons 2 sc (ZI sc R) 292 [(2, 183), (0, l), (9, 0), (9, 0), (0, x), (0, (kk : Int)), (9, 0)] [] μ23)) := by
        intro x hb2 hx
        have ht2 : taken op = 2 := by unfold taken; rw [if_neg (by omega), if_neg (by omega), if_neg (by omega)]
        rw [ht2] at o2 o3 fin
        have v1 := vals (st.1 - 2) (by omega) (by omega)
        have v2 := vals (st.1 - 1) (by omega) (by omega)
        refine ⟨by omega, by omega, by omega, by omega, ?_⟩
        rw [h10, show x - 1 = st.1 - 2 by omega, show x = st.1 - 1 by omega, hs _ (by omega) (by omega), hs _ (by omega) (by omega)]
        refine cb_between1 (env := env) (c := st.2 (st.1 - 2 + 2)) (by omega) v1.1 v2.1 hb2 (fun y => ?_) ?_
        · have := o4.2.2.1 y
          exact ⟨v1.2 this.1, v2.2 this.2⟩
        · refine ⟨by omega, fun μ9 e9 => ?_⟩
          exact fin _ _ (by omega) (by rw [show st.1 - 2 + 1 = st.1 - 1 by omega]) μ9 e9
      refine ⟨fun z3000 => ?_, fun z3000 => ?_⟩
      · -- operators
        refine ⟨fun n6 => ⟨fun n9 => ?_, fun y9 => ?_⟩, fun y6 => ?_⟩
        · have hb2 : op = 1012 ∨ op = 1013 ∨ op = 1039 ∨ op = 1040 ∨ op = 1041 ∨ op = 1032 ∨ op = 1033 ∨ op = 1034 := by
            rcases o1 with q | q | q | q | q | q | q | q | q | q | q | q
            · rw [trC_num q.2] at h10; omega
            · have := (wd op q.1 q.2 hop22).1; omega
            · rw [q] at h10; exact absurd h10 n6
            · rw [q] at h10; exact absurd h10 n9
            all_goals omega
          exact ⟨by omega, fun v15 h15 => binary v15 hb2 h15⟩
        · have ho : op = 1008 := by
            rcases o1 with q | q | q | q | q | q | q | q | q | q | q | q
            · rw [trC_num q.2] at h10; omega
            · have := (wd op q.1 q.2 hop22).1; omega
            · rw [q] at h10; rw [h10] at y9; exact absurd y9 (by decide)
            · exact q
            all_goals (rw [q] at h10; rw [h10] at y9; exact absurd y9 (by decide))
          have ht3 : taken op = 3 := by rw [ho]; decide
          rw [ht3] at o2 o3 fin
          have o5 := o4.2.1 ho
          have v1 := vals (st.1 - 3) (by omega) (by omega)
          have hv := v1.2 o5.1
          have hmd : ∀ x y z : Int, made env op x y z = if x ≠ 0 then y else z := fun x y z => by rw [ho]; rfl
          refine ⟨by omega, ?_⟩
          rintro v25 h25
          rw [show v25 - 1 = st.1 - 3 by omega, show v25 + 1 = st.1 - 1 by omega, show v25 = st.1 - 2 by omega, hs _ (by omega) (by omega), hs _ (by omega) (by omega), hs _ (by omega) (by omega)]
          refine ⟨by omega, by omega, by omega, fun n1 => ⟨by omega, by omega, by omega, fun μ33 e33 => fin _ _ (by omega) ?_ μ33 e33⟩, fun y1 => ⟨by omega, by omega, fun μ36 e36 => fin _ _ (by omega) ?_ μ36 e36⟩⟩
          · rw [hmd, if_neg (by omega), show st.1 - 3 + 2 = st.1 - 1 by omega]
          · rw [hmd, if_pos (by omega), show st.1 - 3 + 1 = st.1 - 2 by omega]
        · have ho : op = 1014 := by
            rcases o1 with q | q | q | q | q | q | q | q | q | q | q | q
            · rw [trC_num q.2] at h10; omega
            · have := (wd op q.1 q.2 hop22).1; omega
            · exact q
            all_goals (rw [q] at h10; rw [h10] at y6; exact absurd y6 (by decide))
          have ht1 : taken op = 1 := by rw [ho]; decide
          rw [ht1] at o2 o3 fin
          have v1 := vals (st.1 - 1) (by omega) (by omega)
          have hmd : ∀ x y z : Int, made env op x y z = 1 - x := fun x y z => by rw [ho]; rfl
          rw [hs _ (by omega) (by omega)]
          exact ⟨by omega, by omega, by omega, by omega, by omega, fun μ42 e42 => fin _ _ (by omega) (by rw [hmd]) μ42 e42⟩
      · refine ⟨fun z1000 => ?_, fun z1000 => ?_⟩
        · have ho : 1015 ≤ op ∧ op ≤ 1023 := by
            rcases o1 with q | q | q | q | q | q | q | q | q | q | q | q
            · rw [trC_num q.2] at h10; omega
            · exact q
            all_goals (rw [q] at h10; rw [h10] at z3000; exact absurd z3000 (by decide))
          have w := wd op ho.1 ho.2 hop22
          have ht0 : taken op = 0 := by unfold taken; rw [if_pos (Or.inr ho)]
          rw [ht0] at o2 o3 fin
          have hmd : ∀ x y z : Int, made env op x y z = env (op - 1015) := fun x y z => by unfold made; rw [if_neg (by omega), if_pos ho]
          rw [h10, hf 189 _ (by omega), w.2]
          refine ⟨by omega, by omega, by omega, fun μ47 e47 => ⟨by omega, ?_⟩⟩
          rintro _ rfl
          exact fin _ _ (by omega) (by rw [hmd]) μ47 (by rw [e47, Int.sub_zero])
        · have ho : 0 ≤ op ∧ op < 1000 := by
            rcases o1 with q | q | q | q | q | q | q | q | q | q | q | q
            · exact q
            · have := (wd op q.1 q.2 hop22).1; omega
            all_goals (rw [q] at h10; rw [h10] at z1000; exact absurd z1000 (by decide))
          have ht0 : taken op = 0 := by unfold taken; rw [if_pos (Or.inl ho.2)]
          rw [ht0] at o2 o3 fin
          have hmd : ∀ x y z : Int, made env op x y z = op := fun x y z => by unfold made; rw [if_pos ho.2]
          rw [h10, trC_num ho.2]
          refine ⟨by omega, fun μ51 e51 => ⟨by omega, ?_⟩⟩
          rintro _ rfl
          exact fin _ _ (by omega) (by rw [hmd]) μ51 (by rw [e51, Int.sub_zero])
  exact key n.toNat 0 μ23 (by omega) (fun _ _ _ => rfl) (fun j j0 j1 => by have : j < 0 := j1; omega)

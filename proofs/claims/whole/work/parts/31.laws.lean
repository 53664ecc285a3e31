/-! THE CLASS'S LAWS: work() tells what the code tells -/
theorem clamp_id {x : Int} (h : -1000000 ≤ x ∧ x ≤ 1000000) : clamp (-1000000) 1000000 x = x := by unfold clamp; omega
theorem iAnd01 : iAnd 0 0 = 0 ∧ iAnd 0 1 = 0 ∧ iAnd 1 0 = 0 ∧ iAnd 1 1 = 1 := by decide +kernel
theorem iOr01 : iOr 0 0 = 0 ∧ iOr 0 1 = 1 ∧ iOr 1 0 = 1 ∧ iOr 1 1 = 1 := by decide +kernel
/-- the switch: to the one end with what is made, but for the last clamp -/
theorem work_161 {d : Nat} {sc : SC} {Q : Int → Mem → Prop} {μ : Mem} {L law top x3 op a b c : Int} {env : Int → Int} (hL : isK 3 L) (hop : okOp op) (ht : 0 ≤ top ∧ top + taken op ≤ 40)
    (hb : (-1000000 ≤ a ∧ a ≤ 1000000) ∧ (-1000000 ≤ b ∧ b ≤ 1000000) ∧ (-1000000 ≤ c ∧ c ≤ 1000000)) (hc : op = 1008 → c = μ (L + 5) (top + 2))
    (h01 : (op = 1012 ∨ op = 1013) → (a = 0 ∨ a = 1) ∧ (b = 0 ∨ b = 1)) (h14 : op = 1014 → a = 0 ∨ a = 1) (henv : 1015 ≤ op → op ≤ 1023 → μ (L + 4) (op - 1015) = env (op - 1015))
    (hfin : ∀ x : Int, clamp (-1000000) 1000000 x = clamp (-1000000) 1000000 (made env op a b c) → WQ mX3_work d sc (ZI sc Q) 482 [(2, L), (0, law), (0, top), (0, x3), (9, 0), (9, 0), (9, 0), (9, 0), (9, 0), (9, 0), (1, x), (9, 0)] [] μ) :
    WQ mX3_work d sc (ZI sc Q) 161 [(2, L), (0, law), (0, top), (0, x3), (0, op), (0, op - 1000), (0, if 1015 ≤ op ∧ op ≤ 1023 then 1 else 0), (9, 0), (0, a), (9, 0), (9, 0), (9, 0)] [(0, b)] μ := by
  refine s_X3_work_161 hL ?_
  have hca := @clamp_id
  rcases hop with q | q | q | q | q | q | q | q | q | q | q | q
  · have e5 : made env op a b c = op := by unfold made; rw [if_pos q.2]
    rw [e5] at hfin
    rw [if_neg (by omega)]
    refine ⟨by omega, by omega, by omega, by omega, by omega, by omega, by omega, by omega, by omega, by omega, fun _ => ⟨fun _ => hfin _ rfl, fun z => absurd rfl z⟩⟩
  · have e5 : made env op a b c = env (op - 1015) := by unfold made; rw [if_neg (by omega), if_pos q]
    rw [e5] at hfin
    rw [if_pos q]
    have e6 := henv q.1 q.2
    refine ⟨by omega, by omega, by omega, by omega, by omega, by omega, by omega, by omega, by omega, by omega, fun _ => ⟨fun z => absurd z (by decide), fun _ => ⟨by omega, by omega, fun v hv => hfin _ ?_⟩⟩⟩
    rw [hv, ← e6, show op - 1000 - 15 = op - 1015 by omega]
  all_goals
    subst q
    refine ⟨?_, ?_, ?_, ?_, ?_, ?_, ?_, ?_, ?_, ?_, ?_⟩ <;> intro z <;> first | (exfalso; omega) | skip
  · exact ⟨by omega, fun v hv => hfin v (by rw [hv]; simp [made])⟩
  · have hc' := hc rfl
    have ht2 : 0 ≤ top ∧ top + 3 ≤ 40 := ht
    refine ⟨fun e => ⟨by omega, by omega, s_X3_work_346 hL (hfin _ ?_)⟩, fun e => s_X3_work_346 hL (hfin _ ?_)⟩
    · rw [hc']; simp [made, e]
    · simp [made, e]
  · intro v hv
    refine hfin v ?_
    rw [hv]
    rcases h01 (Or.inl rfl) with ⟨rfl | rfl, rfl | rfl⟩ <;> simp [made, iAnd01]
  · intro v hv
    refine hfin v ?_
    rw [hv]
    rcases h01 (Or.inr rfl) with ⟨rfl | rfl, rfl | rfl⟩ <;> simp [made, iOr01]
  · exact ⟨fun e => s_X3_work_385 hL (hfin _ (by simp [made, e])), fun e => s_X3_work_385 hL (hfin _ (by simp [made, e]))⟩
  · exact ⟨fun e => hfin _ (by simp [made, Int.not_lt.mpr e]), fun e => hfin _ (by simp [made, e])⟩
  · exact ⟨fun e => hfin _ (by simp [made, Int.not_lt.mpr e]), fun e => hfin _ (by simp [made, e])⟩
  · exact ⟨by omega, fun v hv => hfin v (by rw [hv]; simp [made, hca (clamp_b (a + b))])⟩
  · exact ⟨by omega, fun v hv => hfin v (by rw [hv]; simp [made, hca (clamp_b (a - b))])⟩
  · have h1 : a * b ≤ 1000000 * 1000000 ∧ -(1000000 * 1000000) ≤ a * b := by
      have h2 : (a * b).natAbs ≤ 1000000 * 1000000 := by
        rw [Int.natAbs_mul]
        exact Nat.mul_le_mul (by omega) (by omega)
      omega
    exact ⟨by omega, fun v hv => hfin v (by rw [hv]; simp [made, hca (clamp_b (a * b))])⟩
/-- one more token -/
theorem work_12 {d : Nat} {sc : SC} {Q : Int → Mem → Prop} {μ : Mem} {L H law n b fr : Int} {env : Int → Int} (hd : 2 ≤ d) (hL : isK 3 L) (hH : isK 1 H) (hl : 0 ≤ law ∧ law < 3) (hLH : μ L 3 = H) (hfr : 0 ≤ fr ∧ fr + n ≤ 900) (hn : 0 ≤ n)
    (hto : μ (H + 6) law = fr + n) (hwf : wfCode (fun k => μ (H + 4) (fr + k)) n b) (he : ∀ i, -1000000 ≤ env i ∧ env i ≤ 1000000)
    (henv : ∀ k, 0 ≤ k → k < n → 1015 ≤ μ (H + 4) (fr + k) → μ (H + 4) (fr + k) ≤ 1023 → μ (L + 4) (μ (H + 4) (fr + k) - 1015) = env (μ (H + 4) (fr + k) - 1015))
    (hQ : ∀ μ', (∀ b j, b ≠ L + 5 → μ' b j = μ b j) → Q (ev env (fun k => μ (H + 4) (fr + k)) n) μ') :
    ∀ (r k : Nat) (μ1 : Mem), (k : Int) + r = n → (∀ b j, b ≠ L + 5 → μ1 b j = μ b j) → (∀ j, 0 ≤ j → j < (evN env (fun k => μ (H + 4) (fr + k)) k).1 → μ1 (L + 5) j = (evN env (fun k => μ (H + 4) (fr + k)) k).2 j) →
      WQ mX3_work d sc (ZI sc Q) 12 [(2, L), (0, law), (0, (evN env (fun k => μ (H + 4) (fr + k)) k).1), (0, fr + k), (9, 0), (9, 0), (9, 0), (9, 0), (9, 0), (9, 0), (9, 0), (9, 0)] [] μ1 := by
  have hLv := ik_3 hL
  have hHv := ik_1 hH
  have hne : L ≠ L + 5 ∧ H ≠ L + 5 ∧ H + 4 ≠ L + 5 ∧ H + 5 ≠ L + 5 ∧ H + 6 ≠ L + 5 ∧ L + 4 ≠ L + 5 := by omega
  intro r
  induction r with
  | zero =>
    intro k μ1 hk hm hs
    have hkn : (k : Int) = n := by omega
    have hok := ev_ok he hwf k (by omega)
    have htop : (evN env (fun k => μ (H + 4) (fr + k)) k).1 = 1 := by
      rw [← ty_ev]
      have := hwf.2.1
      rwa [show n.toNat = k by omega] at this
    rw [htop] at hs ⊢
    refine s_X3_work_12 hL ?_
    rw [hm _ _ hne.1, hLH, hm _ _ hne.2.2.2.2.1, hto]
    refine ⟨hH, hl, fun _ => ⟨fun z => absurd z (by decide), fun _ => ⟨by omega, by omega, ?_⟩⟩, fun z => by omega⟩
    rw [hs _ (by omega) (by omega)]
    have e1 : (1 : Int) - 1 = 0 := rfl
    have e2 : (evN env (fun k => μ (H + 4) (fr + k)) k).2 0 = ev env (fun k => μ (H + 4) (fr + k)) n := by rw [ev, show n.toNat = k by omega]
    rw [e1, e2]
    exact hQ μ1 hm
  | succ r ih =>
    intro k μ1 hk hm hs
    have hok := ev_ok he hwf k (by omega)
    have hst := hwf.1 k (by omega)
    have hty := ty_ev env (fun k => μ (H + 4) (fr + k)) k
    have ihk := ih (k + 1)
    have ex : evN env (fun k => μ (H + 4) (fr + k)) (k + 1) = evStep env (μ (H + 4) (fr + k)) (evN env (fun k => μ (H + 4) (fr + k)) k) := rfl
    rw [ex] at ihk
    obtain ⟨o1, o2, o3, o4⟩ := hst
    rw [hty] at o2 o3 o4
    have hop : μ1 (H + 4) (fr + k) = μ (H + 4) (fr + k) := hm _ _ hne.2.2.1
    have hen := henv k (by omega) (by omega)
    have hok1 := (ev_ok he hwf (k + 1) (by omega)).2.2
    rw [ex] at hok1
    generalize hS : evN env (fun k => μ (H + 4) (fr + k)) k = S at *
    obtain ⟨top, f⟩ := S
    generalize hG : (tyN (fun k => μ (H + 4) (fr + k)) k).2 = tg at *
    dsimp only at *
    generalize hO : μ (H + 4) (fr + k) = op at *
    have hn4 : ∀ i, μ1 (L + 4) i = μ (L + 4) i := fun i => hm _ _ hne.2.2.2.2.2
    obtain ⟨k1, k2, k3⟩ := hok
    have hto0 : 0 ≤ taken op := by unfold taken; split <;> (try split) <;> (try split) <;> omega
    have hto3 : taken op ≤ 3 := by unfold taken; split <;> (try split) <;> (try split) <;> omega
    -- the end of all roads
    have hfin : ∀ x : Int, clamp (-1000000) 1000000 x = clamp (-1000000) 1000000 (made env op (f (top - taken op)) (f (top - taken op + 1)) (f (top - taken op + 2))) →
        WQ mX3_work d sc (ZI sc Q) 482 [(2, L), (0, law), (0, top - taken op), (0, fr + k), (9, 0), (9, 0), (9, 0), (9, 0), (9, 0), (9, 0), (1, x), (9, 0)] [] μ1 := by
      intro x hx
      refine s_X3_work_482 hd hL ⟨by omega, ?_⟩
      rintro _ rfl
      refine ⟨by omega, ?_⟩
      rintro v4 rfl
      refine ⟨by omega, ?_⟩
      rintro v6 rfl
      have hw : w32 (max (-1000000) (min 1000000 x)) = made env op (f (top - taken op)) (f (top - taken op + 1)) (f (top - taken op + 2)) := by
        have h1 := (hok1 (top - taken op) (by omega) (by simp only [evStep]; omega)).1
        simp only [evStep, if_true] at h1
        rw [clamp_id h1] at hx
        rw [← hx]
        exact w32_id (by have := clamp_b x; unfold clamp at this; omega)
      rw [hw]
      have := ihk (mup μ1 (L + 5) (top - taken op) (made env op (f (top - taken op)) (f (top - taken op + 1)) (f (top - taken op + 2)))) (by omega) (fun b j hb => by rw [mup_ap, if_neg (fun z => hb z.1)]; exact hm b j hb) (fun j h0 h1 => by
        rw [mup_ap]
        simp only [evStep] at h1 ⊢
        by_cases hj : j = top - taken op
        · simp [hj]
        · simp only [hj, and_false, if_false]; exact hs j h0 (by omega))
      rw [show (fr + (k : Int) + 1) = fr + ((k + 1 : Nat) : Int) by omega]
      exact this
    have hL5 : ∀ j, 0 ≤ j → j < top → μ1 (L + 5) j = f j := hs
    -- behind the switch's values
    have h102 : ∀ (fl : Int), fl = (if 1015 ≤ op ∧ op ≤ 1023 then 1 else 0) → WQ mX3_work d sc (ZI sc Q) 102 [(2, L), (0, law), (0, top), (0, fr + k), (0, op), (0, op - 1000), (0, fl), (9, 0), (9, 0), (9, 0), (9, 0), (9, 0)] [(0, taken op)] μ1 := by
      rintro fl rfl
      have b0 := k3 (top - taken op)
      have b1 := k3 (top - taken op + 1)
      have b2 := k3 (top - taken op + 2)
      refine s_X3_work_102 hL ⟨fun z => by omega, fun _ => ⟨by omega, fun _ => ⟨by omega, ?_⟩, fun z => by omega⟩⟩
      rintro _ rfl
      refine ⟨fun z => ?_, fun z => ⟨by omega, ?_⟩⟩
      · refine s_X3_work_141 hL ⟨fun _ => ?_, fun y => by omega⟩
        have ht0 : taken op = 0 := by omega
        refine work_161 (c := 0) (env := env) hL o1 (by omega) (by omega) ?_ ?_ ?_ (by rw [hn4]; exact hen) (fun x hx => hfin x ?_)
        · intro q; rw [q] at ht0; exact absurd ht0 (by decide)
        · intro q; rcases q with q | q <;> (rw [q] at ht0; exact absurd ht0 (by decide))
        · intro q; rw [q] at ht0; exact absurd ht0 (by decide)
        · rw [hx]
          unfold taken at ht0
          unfold made
          grind
      · rw [hL5 _ (by omega) (by omega)]
        refine s_X3_work_141 hL ⟨fun y => ?_, fun y => ⟨by omega, by omega, ?_⟩⟩
        · have ht1 : taken op = 1 := by omega
          have hq : op = 1014 := by unfold taken at ht1; grind
          refine work_161 (c := 0) (env := env) hL o1 (by omega) (by omega) (fun q => by omega) (fun q => by omega) ?_ (by rw [hn4]; exact hen) (fun x hx => hfin x ?_)
          · intro _
            rw [ht1]
            exact (k3 (top - 1) (by omega) (by omega)).2 (o4.1 hq)
          · rw [hx, hq]; simp [made]
        · rw [hL5 _ (by omega) (by omega)]
          refine work_161 (c := if op = 1008 then f (top - taken op + 2) else 0) (env := env) hL o1 (by omega) ?_ ?_ ?_ ?_ (by rw [hn4]; exact hen) (fun x hx => hfin x ?_)
          · refine ⟨(b0 (by omega) (by omega)).1, (b1 (by omega) (by omega)).1, ?_⟩
            by_cases q : op = 1008
            · rw [if_pos q]; exact (b2 (by omega) (by rw [q]; have : taken 1008 = 3 := rfl; omega)).1
            · rw [if_neg q]; omega
          · intro q
            rw [if_pos q]
            exact (hL5 _ (by omega) (by rw [q]; have : taken 1008 = 3 := rfl; omega)).symm
          · intro q
            have ht2 : taken op = 2 := by rcases q with q | q <;> rw [q] <;> rfl
            have q4 := o4.2.2.1 q
            rw [ht2]
            refine ⟨(k3 (top - 2) (by omega) (by omega)).2 q4.1, ?_⟩
            rw [show top - 2 + 1 = top - 1 by omega]
            exact (k3 (top - 1) (by omega) (by omega)).2 q4.2
          · intro q; rw [q] at y; exact absurd y (by decide)
          · rw [hx]
            congr 1
            by_cases q : op = 1008
            · rw [if_pos q]
            · rw [if_neg q]; unfold made; rw [if_neg q, if_neg q]
    have h63 : ∀ fl : Int, fl = (if 1015 ≤ op ∧ op ≤ 1023 then 1 else 0) → WQ mX3_work d sc (ZI sc Q) 63 [(2, L), (0, law), (0, top), (0, fr + k), (0, op), (0, op - 1000), (9, 0), (9, 0), (9, 0), (9, 0), (9, 0), (9, 0)] [(0, fl)] μ1 := by
      intro fl hfl
      have h := h102 fl hfl
      refine s_X3_work_63 hL ?_
      have e0 : op - 1000 < 0 → taken op = 0 := fun z => by unfold taken; rw [if_pos (by omega)]
      have e1 : fl ≠ 0 → taken op = 0 := fun z => by
        unfold taken
        by_cases q : 1015 ≤ op ∧ op ≤ 1023
        · rw [if_pos (Or.inr q)]
        · rw [if_neg q] at hfl; exact absurd hfl z
      have e2 : 0 ≤ op - 1000 → fl = 0 → op - 1000 ≠ 14 → op - 1000 ≠ 8 → taken op = 2 := fun z1 z2 z3 z4 => by
        unfold taken; rw [hfl] at z2
        split at z2
        · exact absurd z2 (by decide)
        · rw [if_neg (by omega), if_neg (by omega), if_neg (by omega)]
      have e3 : op - 1000 = 8 → taken op = 3 := fun z => by rw [show op = 1008 by omega]; rfl
      have e4 : op - 1000 = 14 → taken op = 1 := fun z => by rw [show op = 1014 by omega]; rfl
      exact ⟨fun z => e0 z ▸ h, fun z => ⟨fun z2 => ⟨fun z3 => ⟨fun z4 => e2 z z2 z3 z4 ▸ h, fun z4 => e3 z4 ▸ h⟩, fun z3 => e4 z3 ▸ h⟩, fun z2 => e1 z2 ▸ h⟩⟩
    refine s_X3_work_12 hL ?_
    rw [hm _ _ hne.1, hLH, hm _ _ hne.2.2.2.2.1, hto, hop]
    have hop2 : 0 ≤ op ∧ op ≤ 1041 := by unfold okOp at o1; omega
    refine ⟨hH, hl, fun z => by omega, fun _ => ⟨by omega, ?_⟩⟩
    rintro _ rfl
    refine ⟨by omega, ?_⟩
    rintro _ rfl
    refine ⟨fun z => h63 0 (by rw [if_neg (by omega)]), fun z => ⟨fun y => h63 0 (by rw [if_neg (by omega)]), fun y => h63 1 (by rw [if_pos (by omega)])⟩⟩

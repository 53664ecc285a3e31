/-! THE REFERENCE: gaps, pitches, answers, what is told -/
theorem cb_kept {d : Nat} {sc : SC} {μ : Mem} {v lo hi : Int} {R : Int → Mem → Prop} (hd : 1 ≤ d) (hlh : lo ≤ hi) (k : R (clamp lo hi v) μ) : CAi mX10_kept d sc [(0, v), (0, lo), (0, hi)] μ R := by
  refine byI (d' := 0) (by omega) (Q := R) ?_ (fun _ _ z => z)
  refine CTi_of mp_X10_kept (Nat.le_of_ble_eq_true rfl) ?_
  refine s_X10_kept_0 ⟨fun z => ⟨fun z2 => ?_, fun z2 => ?_⟩, fun z => ?_⟩
  · have e : clamp lo hi v = v := by unfold clamp; omega
    rw [← e]; rw [e]; rw [e] at k; exact k
  · have e : clamp lo hi v = hi := by unfold clamp; omega
    rw [e] at k; exact k
  · have e : clamp lo hi v = lo := by unfold clamp; omega
    rw [e] at k; exact k
/-- reckoning alone -/
def FK (μ μ' : Mem) : Prop := ∀ b j, b ≠ 188 → (b = 189 → 7 ≤ j) → μ' b j = μ b j
theorem FK.w {μ μ' : Mem} (h : FK μ μ') : FW μ μ' := fun b j q1 q2 => h b j (by omega) (by omega)
theorem FK.refl (μ : Mem) : FK μ μ := fun _ _ _ _ => rfl
theorem MY.told {μ : Mem} {H : HillT} {P : PlanT} (h : MY μ H P) {l : Int} (h0 : 0 ≤ l) (h3 : l < 3) : (μ 184 (4 + l) = 1 ∧ 0 < hLen H l) ∨ (μ 184 (4 + l) = 0 ∧ hLen H l = 0) := (h.1.2.2.2.2.2 l h0 h3).imp (fun q => ⟨q.1, q.2.1⟩) id
theorem cb_gapOf {d : Nat} {sc : SC} {μ : Mem} {H : HillT} {P : PlanT} {a b : Int} {R : Int → Mem → Prop} (hd : 4 ≤ d) (h : MY μ H P) (ha : 0 ≤ a ∧ a < hP H) (hb : 0 ≤ b ∧ b < hP H) (k : ∀ μ', FK μ μ' → R (gapS H P a b) μ') : CAi mX10_gapOf d sc [(2, 183), (0, a), (0, b)] μ R := by
  have hf := far_b h.2.2.1 h.2.2.2.1 ha hb
  have ht := h.told (l := 0) (by decide) (by decide)
  rw [Int.add_zero] at ht
  refine byI (d' := 3) (by omega) (Q := R) ?_ (fun _ _ z => z)
  refine CTi_of mp_X10_gapOf (Nat.le_of_ble_eq_true rfl) ?_
  refine s_X10_gapOf_0 ⟨fun z => cb_farOf (by omega) h ha hb ⟨by omega, cb_kept (by omega) (by decide) ?_⟩, fun z => cb_reckons (g := 0) (m := 0) (Nat.le_refl _) h (by decide) (by omega) ha hb (by decide) (by decide) (fun y => absurd y (by decide)) (fun μ' f => cb_kept (by omega) (by decide) ?_)⟩
  · have e : gapS H P a b = clamp 1 20 (farOf H P a b + 1) := by unfold gapS; rw [if_neg (by omega)]
    rw [← e]; exact k μ (FK.refl μ)
  · have e : gapS H P a b = clamp 1 20 (ev (envS H P a b 0 0) (hCode H 0) (hLen H 0)) := by unfold gapS; rw [if_pos (by omega)]
    rw [← e]; exact k μ' f
theorem cb_pitchOf {d : Nat} {sc : SC} {μ : Mem} {H : HillT} {P : PlanT} {a b : Int} {R : Int → Mem → Prop} (hd : 4 ≤ d) (h : MY μ H P) (ha : 0 ≤ a ∧ a < hP H) (hb : 0 ≤ b ∧ b < hP H) (k : ∀ μ', FK μ μ' → R (pitchS H P a b) μ') : CAi mX10_pitchOf d sc [(2, 183), (0, a), (0, b)] μ R := by
  have h6 := h.2.2.1.2.2.1
  have ht := h.told (l := 1) (by decide) (by decide)
  have hv := (h.1.2.2.2.2.1 a ha.1 ha.2).2.2
  refine byI (d' := 3) (by omega) (Q := R) ?_ (fun _ _ z => z)
  refine CTi_of mp_X10_pitchOf (Nat.le_of_ble_eq_true rfl) ?_
  have ht' : (μ 184 5 = 1 ∧ 0 < hLen H 1) ∨ (μ 184 5 = 0 ∧ hLen H 1 = 0) := ht
  refine s_X10_pitchOf_0 ⟨fun z => ⟨by omega, by omega, ?_⟩, fun z => cb_reckons (g := 0) (m := 0) (Nat.le_refl _) h (by decide) (by omega) ha hb (by decide) (by decide) (fun y => absurd y (by decide)) (fun μ' f => cb_kept (by omega) (by decide) ?_)⟩
  · rw [hv]
    refine cb_kept (by omega) (by decide) ?_
    have e : pitchS H P a b = clamp 0 9 (hVoice H a) := by unfold pitchS; rw [if_neg (by omega)]
    rw [← e]; exact k μ (FK.refl μ)
  · have e : pitchS H P a b = clamp 0 9 (ev (envS H P a b 0 0) (hCode H 1) (hLen H 1)) := by unfold pitchS; rw [if_pos (by omega)]
    rw [← e]; exact k μ' f
/-! the answers kept -/
def idxA (a b f t : Int) : Int := 100 * (15 * (6 * a + b) + f) + t
def CM (μ : Mem) (H : HillT) (w : Int) : Prop := ∀ P' : PlanT, wfP H P' → pWind P' = w → ∀ a b t, 0 ≤ a → a < hP H → 0 ≤ b → b < hP H → 0 ≤ t → t < 100 → μ 190 (idxA a b (farOf H P' a b) t) = 0 ∨ (μ 190 (idxA a b (farOf H P' a b) t) = 2 ∧ ansQ H P' (a * 6 + b) t = true) ∨ (μ 190 (idxA a b (farOf H P' a b) t) = 1 ∧ ansQ H P' (a * 6 + b) t = false)
theorem CM.same {μ μ' : Mem} {H : HillT} {w : Int} (h : CM μ H w) (hs : ∀ j, μ' 190 j = μ 190 j) : CM μ' H w := fun P' h1 h2 a b t a0 a1 b0 b1 t0 t1 => by rw [hs]; exact h P' h1 h2 a b t a0 a1 b0 b1 t0 t1
theorem ans_far {H : HillT} {P P' : PlanT} (hw : pWind P = pWind P') {a b t : Int} (hb : 0 ≤ b ∧ b < 6) (hf : farOf H P a b = farOf H P' a b) : ansQ H P (a * 6 + b) t = ansQ H P' (a * 6 + b) t := by
  have e1 : (a * 6 + b) / 6 = a := by omega
  have e2 : (a * 6 + b) % 6 = b := by omega
  have he : ∀ g m, envS H P a b g m = envS H P' a b g m := fun g m => by unfold envS; rw [hw, hf]
  have hg : gapS H P a b = gapS H P' a b := by unfold gapS; rw [he, hf]
  unfold ansQ
  rw [e1, e2, hg, he]
theorem cb_isAnswered {d : Nat} {sc : SC} {μ : Mem} {H : HillT} {P : PlanT} {a b t : Int} {R : Int → Mem → Prop} (hd : 4 ≤ d) (h : MY μ H P) (hC : CM μ H (pWind P)) (ha : 0 ≤ a ∧ a < hP H) (hb : 0 ≤ b ∧ b < hP H) (ht : 0 ≤ t ∧ t < 100)
    (k : ∀ μ', (∀ c j, c ≠ 188 → c ≠ 189 → c ≠ 190 → μ' c j = μ c j) → CM μ' H (pWind P) → R (if ansQ H P (a * 6 + b) t = true then 1 else 0) μ') : CAi mX10_isAnswered d sc [(2, 183), (0, a), (0, b), (0, gapS H P a b), (0, t)] μ R := by
  have h6 := h.2.2.1.2.2.1
  have hf := far_b h.2.2.1 h.2.2.2.1 ha hb
  have hgb := gapS_b H P a b
  have htl : (μ 184 6 = 1 ∧ 0 < hLen H 2) ∨ (μ 184 6 = 0 ∧ hLen H 2 = 0) := h.told (l := 2) (by decide) (by decide)
  have q1 : (a * 6 + b) / 6 = a := by omega
  have q2 : (a * 6 + b) % 6 = b := by omega
  refine byI (d' := 3) (by omega) (Q := R) ?_ (fun _ _ z => z)
  refine CTi_of mp_X10_isAnswered (Nat.le_of_ble_eq_true rfl) ?_
  refine s_X10_isAnswered_0 ⟨fun z => ⟨by omega, by omega, by omega, cb_farOf (by omega) h ha hb ?_⟩, fun z => ?_⟩
  rotate_left
  · have e : ansQ H P (a * 6 + b) t = false := by unfold ansQ; rw [decide_eq_false (by omega), Bool.false_and]
    rw [e, if_neg (by decide)] at k
    exact k μ (fun _ _ _ _ _ => rfl) hC
  have hl : 0 < hLen H 2 := by omega
  refine ⟨by omega, by omega, by omega, ?_⟩
  intro v11 h11
  have hidx : v11 = idxA a b (farOf H P a b) t := h11
  have hc := hC P h.2.2.2.1 rfl a b t ha.1 ha.2 hb.1 hb.2 ht.1 ht.2
  rw [← hidx] at hc
  have same : ∀ v : Int, v = μ 190 v11 → v ≠ 0 → (v ≠ 2 → R 0 μ) ∧ (v = 2 → R 1 μ) := fun v hv hne => by
    rw [← hv] at hc
    rcases hc with q | q | q
    · exact absurd q hne
    · rw [q.2, if_pos rfl] at k
      exact ⟨fun y => absurd q.1 y, fun _ => k μ (fun _ _ _ _ _ => rfl) hC⟩
    · rw [q.2, if_neg (by decide)] at k
      exact ⟨fun _ => k μ (fun _ _ _ _ _ => rfl) hC, fun y => by omega⟩
  refine ⟨by omega, fun hne => ⟨by omega, same _ rfl hne⟩, fun hz => ?_⟩
  intro μ17 e17 μ19 e19
  have g19 : ∀ c j : Int, c ≠ 189 → μ19 c j = μ c j := fun c j y => by rw [e19, mup_ap, if_neg (fun q => y q.1), e17, mup_ap, if_neg (fun q => y q.1)]
  have w7 : μ19 189 7 = gapS H P a b := by rw [e19, mup_ap, if_neg (fun q => by omega), e17, mup_at]
  have w8 : μ19 189 8 = t := by rw [e19, mup_at]
  refine cb_reckons (g := gapS H P a b) (m := t) (Nat.le_refl _) (h.same (fun j => g19 _ _ (by omega))) (by decide) hl ha hb ⟨by omega, by omega⟩ ⟨ht.1, by omega⟩ (fun _ => ⟨w7, w8⟩) ?_
  intro μ21 f21
  have hans : ansQ H P (a * 6 + b) t = decide (ev (envS H P a b (gapS H P a b) t) (hCode H 2) (hLen H 2) = 1) := by unfold ansQ; rw [q1, q2, decide_eq_true hl, Bool.true_and]
  have g21 : ∀ c j : Int, c ≠ 188 → c ≠ 189 → μ21 c j = μ c j := fun c j y1 y2 => by rw [f21 c j y1 (fun y => absurd y y2)]; exact g19 c j y2
  have fin : ∀ (v : Int) (μ24 : Mem), μ24 = mup μ21 190 v11 v → ((v = 2 ∧ ansQ H P (a * 6 + b) t = true) ∨ (v = 1 ∧ ansQ H P (a * 6 + b) t = false)) → (0 ≤ v11 ∧ v11 < 54000) ∧ (μ24 190 v11 ≠ 2 → R 0 μ24) ∧ (μ24 190 v11 = 2 → R 1 μ24) := by
    intro v μ24 e24 hv
    have g24 : ∀ c j : Int, c ≠ 188 → c ≠ 189 → c ≠ 190 → μ24 c j = μ c j := fun c j y1 y2 y3 => by rw [e24, mup_ap, if_neg (fun q => y3 q.1)]; exact g21 c j y1 y2
    have hC24 : CM μ24 H (pWind P) := by
      intro P' p1 p2 a' b' t' a0 a1 b0 b1 t0 t1
      have hf' := far_b h.2.2.1 p1 (a := a') (b := b') ⟨a0, a1⟩ ⟨b0, b1⟩
      rw [e24, mup_ap]
      by_cases y : idxA a' b' (farOf H P' a' b') t' = v11
      · rw [if_pos ⟨rfl, y⟩]
        rw [hidx] at y
        unfold idxA at y
        have y1 : t' = t := by omega
        have y2 : 15 * (6 * a' + b') + farOf H P' a' b' = 15 * (6 * a + b) + farOf H P a b := by omega
        have y3 : farOf H P' a' b' = farOf H P a b := by omega
        have y4 : 6 * a' + b' = 6 * a + b := by omega
        have y5 : b' = b := by omega
        have y6 : a' = a := by omega
        subst y1 y5 y6
        have e := ans_far (H := H) (P := P') (P' := P) p2 (a := a') (b := b') (t := t') ⟨b0, by omega⟩ y3
        rw [e]
        rcases hv with q | q
        · exact Or.inr (Or.inl q)
        · exact Or.inr (Or.inr q)
      · rw [if_neg (fun q => y q.2), g21 _ _ (by omega) (by omega)]
        exact hC P' p1 p2 a' b' t' a0 a1 b0 b1 t0 t1
    have ev24 : μ24 190 v11 = v := by rw [e24, mup_at]
    rw [ev24]
    refine ⟨by omega, fun y => ?_, fun y => ?_⟩
    · rcases hv with q | q
      · exact absurd q.1 y
      · rw [q.2, if_neg (by decide)] at k; exact k μ24 g24 hC24
    · rcases hv with q | q
      · rw [q.2, if_pos rfl] at k; exact k μ24 g24 hC24
      · omega
  refine ⟨fun y => ⟨by omega, fun μ24 e24 => fin 1 μ24 e24 (Or.inr ⟨rfl, by rw [hans]; exact decide_eq_false y⟩)⟩, fun y => ⟨by omega, fun μ24 e24 => fin 2 μ24 e24 (Or.inl ⟨rfl, by rw [hans]; exact decide_eq_true y⟩)⟩⟩
def GG (μ : Mem) (H : HillT) (P : PlanT) : Prop := ∀ a b, 0 ≤ a → a < hP H → 0 ≤ b → b < hP H → a ≠ b → μ 194 (a * 6 + b) = gapS H P a b
theorem cb_laysGaps {d : Nat} {sc : SC} {μ : Mem} {H : HillT} {P : PlanT} {R : Mem → Prop} (hd : 5 ≤ d) (h : MY μ H P) (hc : μ 183 19 = 0 ∨ CM μ H (pWind P)) (k : ∀ μ', (∀ c j, c ≠ 188 → c ≠ 189 → c ≠ 190 → c ≠ 194 → μ' c j = μ c j) → CM μ' H (pWind P) → GG μ' H P → R μ') : CAv mX10_laysGaps d sc [(2, 183)] μ R := by
  have h6 := h.2.2.1.2.2.1
  have hnp := h.1.2.2.2.1
  refine byV (d' := 4) (by omega) (Q := R) ?_ (fun _ z => z)
  refine CTv_of mp_X10_laysGaps (Nat.le_of_ble_eq_true rfl) ?_
  refine s_X10_laysGaps_0 ?_
  -- the gaps
  have gaps : ∀ (r x : Nat) (μ1 : Mem), x + r = 36 → (∀ c j : Int, c ≠ 188 → c ≠ 189 → c ≠ 190 → c ≠ 194 → μ1 c j = μ c j) → CM μ1 H (pWind P) → (∀ a b, 0 ≤ a → a < hP H → 0 ≤ b → b < hP H → a ≠ b → a * 6 + b < x → μ1 194 (a * 6 + b) = gapS H P a b) → WQ mX10_laysGaps 4 sc (ZV sc R) 30 [(2, 183), (0, (x : Int))] [] μ1 := by
    intro r
    induction r with
    | zero =>
      intro x μ1 hx hf hC hG
      exact s_X10_laysGaps_30 ⟨fun _ => k μ1 hf hC (fun a b a0 a1 b0 b1 hab => hG a b a0 a1 b0 b1 hab (by omega)), fun z => by omega⟩
    | succ r ih =>
      intro x μ1 hx hf hC hG
      have h1 : MY μ1 H P := h.same (fun j => hf _ _ (by omega) (by omega) (by omega) (by omega))
      have go : ∀ (v : Int) (μ5 μ8 : Mem), FK μ1 μ5 → μ8 = mup μ5 194 (x : Int) v → (∀ a b, 0 ≤ a → a < hP H → 0 ≤ b → b < hP H → a ≠ b → a * 6 + b = (x : Int) → v = gapS H P a b) → (-2147483648 ≤ (x : Int) + 1 ∧ (x : Int) + 1 < 2147483648) ∧ ∀ v10 : Int, v10 = (x : Int) + 1 → WQ mX10_laysGaps 4 sc (ZV sc R) 30 [(2, 183), (0, v10)] [] μ8 := by
        intro v μ5 μ8 f5 e8 hv
        refine ⟨by omega, ?_⟩
        rintro _ rfl
        refine ih (x + 1) μ8 (by omega) (fun c j y1 y2 y3 y4 => by rw [e8, mup_ap, if_neg (fun q => y4 q.1), f5 c j y1 (fun q => absurd q y2)]; exact hf c j y1 y2 y3 y4) (hC.same (fun j => by rw [e8, mup_ap, if_neg (fun q => by omega), f5 _ _ (by omega) (by omega)])) (fun a b a0 a1 b0 b1 hab hlt => ?_)
        rw [e8, mup_ap]
        by_cases y : a * 6 + b = x
        · rw [if_pos ⟨rfl, y⟩]; exact hv a b a0 a1 b0 b1 hab y
        · rw [if_neg (fun q => y q.2), f5 _ _ (by omega) (by omega)]
          exact hG a b a0 a1 b0 b1 hab (by omega)
      refine s_X10_laysGaps_30 ⟨fun z => by omega, fun _ => ⟨by omega, by omega, ?_⟩⟩
      have n1 : μ1 184 3 = hP H := h1.1.2.2.2.1
      refine cb_areTwo (by omega) n1 h6 (fun z => ⟨fun _ => ⟨by omega, fun μ8 e8 => go 0 μ1 μ8 (FK.refl _) e8 (fun a b a0 a1 b0 b1 hab hq => absurd ⟨⟨by omega, by omega⟩, ⟨by omega, by omega⟩, by omega⟩ z)⟩, fun q => absurd rfl q⟩) (fun z => ⟨fun q => absurd q (by decide), fun _ => ⟨by omega, by omega, cb_gapOf (Nat.le_refl _) h1 z.1 z.2.1 (fun μ14 f14 => ⟨by omega, fun μ16 e16 => go _ μ14 μ16 f14 e16 (fun a b a0 a1 b0 b1 hab hq => by rw [show (x : Int) / 6 = a by omega, show (x : Int) % 6 = b by omega])⟩)⟩⟩)
  have zero : ∀ (r x : Nat) (μ1 : Mem), x + r = 54000 → μ 183 19 = 0 → (∀ c j : Int, c ≠ 190 → μ1 c j = μ c j) → (∀ j : Int, 0 ≤ j → j < x → μ1 190 j = 0) → WQ mX10_laysGaps 4 sc (ZV sc R) 2 [(2, 183), (0, (x : Int))] [] μ1 := by
    intro r
    induction r with
    | zero =>
      intro x μ1 hx hz hf h0
      refine s_X10_laysGaps_2 ⟨fun _ => ?_, fun z => by omega⟩
      refine gaps 36 0 μ1 (by omega) (fun c j y1 y2 y3 y4 => hf c j y3) (fun P' p1 p2 a b t a0 a1 b0 b1 t0 t1 => Or.inl (h0 _ ?_ ?_)) (fun a b a0 a1 b0 b1 hab hq => by omega)
      all_goals
        have hf' := far_b h.2.2.1 p1 (a := a) (b := b) ⟨a0, a1⟩ ⟨b0, b1⟩
        unfold idxA
        omega
    | succ r ih =>
      intro x μ1 hx hz hf h0
      refine s_X10_laysGaps_2 ⟨fun z => by omega, fun _ => ⟨fun z => by rw [hf _ _ (by omega)] at z; exact absurd hz z, fun _ => ⟨by omega, ?_⟩⟩⟩
      intro μ4 e4
      refine ⟨by omega, ?_⟩
      rintro _ rfl
      refine ih (x + 1) μ4 (by omega) hz (fun c j y => by rw [e4, mup_ap, if_neg (fun q => y q.1)]; exact hf c j y) (fun j j0 j1 => ?_)
      rw [e4, mup_ap]
      by_cases y : j = x
      · rw [if_pos ⟨rfl, y⟩]
      · rw [if_neg (fun q => y q.2)]; exact h0 j j0 (by omega)
  by_cases hz : μ 183 19 = 0
  · exact zero 54000 0 μ (by omega) hz (fun _ _ _ => rfl) (fun j j0 j1 => by omega)
  · have hC : CM μ H (pWind P) := by rcases hc with q | q; exact absurd q hz; exact q
    exact s_X10_laysGaps_2 ⟨fun z => absurd z (by decide), fun _ => ⟨fun _ => gaps 36 0 μ (by omega) (fun _ _ _ _ _ _ => rfl) hC (fun a b a0 a1 b0 b1 hab hq => by omega), fun z => absurd z hz⟩⟩
/-! what is told -/
def TL (μ : Mem) (PN : PlanT) : Prop := μ 183 34 = pN PN ∧ ∀ k, 0 ≤ k → k < pN PN → μ 191 k = pWho PN k ∧ μ 192 k = pWhom PN k ∧ μ 193 k = pAt PN k
def FT4 (μ μ' : Mem) : Prop := ∀ b j, (b = 183 → j ≠ 34) → b ≠ 191 → b ≠ 192 → b ≠ 193 → μ' b j = μ b j
theorem FT4.refl (μ : Mem) : FT4 μ μ := fun _ _ _ _ _ _ => rfl
theorem FT4.tr {μ1 μ2 μ3 : Mem} (h : FT4 μ1 μ2) (h' : FT4 μ2 μ3) : FT4 μ1 μ3 := fun b j q1 q2 q3 q4 => by rw [h' b j q1 q2 q3 q4]; exact h b j q1 q2 q3 q4
theorem TL.same {μ μ' : Mem} {PN : PlanT} (h : TL μ PN) (h0 : μ' 183 34 = μ 183 34) (hs : ∀ b j, 191 ≤ b → b ≤ 193 → μ' b j = μ b j) : TL μ' PN := ⟨by rw [h0]; exact h.1, fun k k0 k1 => by rw [hs _ _ (by omega) (by omega), hs _ _ (by omega) (by omega), hs _ _ (by omega) (by omega)]; exact h.2 k k0 k1⟩
theorem cb_tellsToo {d : Nat} {sc : SC} {μ : Mem} {PN : PlanT} {a b t s : Int} {R : Mem → Prop} (hd : 1 ≤ d) (h : TL μ PN) (hn : 0 ≤ pN PN ∧ pN PN ≤ 9) (k : ∀ μ', FT4 μ μ' → TL μ' (addN PN a b t s) → R μ') : CAv mX10_tellsToo d sc [(2, 183), (0, a), (0, b), (0, t)] μ R := by
  refine byV (d' := 0) (by omega) (Q := R) ?_ (fun _ z => z)
  refine CTv_of mp_X10_tellsToo (Nat.le_of_ble_eq_true rfl) ?_
  obtain ⟨h0, h1⟩ := h
  refine s_X10_tellsToo_0 ?_
  rw [h0]
  refine ⟨by omega, ?_⟩
  intro μ2 e2
  have a2 : μ2 183 34 = pN PN := by rw [e2, mup_ap, if_neg (fun y => by omega)]; exact h0
  rw [a2]
  refine ⟨by omega, ?_⟩
  intro μ4 e4
  have a4 : μ4 183 34 = pN PN := by rw [e4, mup_ap, if_neg (fun y => by omega)]; exact a2
  rw [a4]
  refine ⟨by omega, ?_⟩
  intro μ6 e6
  have a6 : μ6 183 34 = pN PN := by rw [e6, mup_ap, if_neg (fun y => by omega)]; exact a4
  rw [a6]
  refine ⟨by omega, ?_⟩
  intro μ8 e8
  refine k μ8 (fun b j q1 q2 q3 q4 => by rw [e8, mup_ap, if_neg (fun y => q1 y.1 y.2), e6, mup_ap, if_neg (fun y => q4 y.1), e4, mup_ap, if_neg (fun y => q3 y.1), e2, mup_ap, if_neg (fun y => q2 y.1)]) ⟨by rw [e8, mup_at]; rfl, fun i i0 i1 => ?_⟩
  have i1' : i < pN PN + 1 := i1
  by_cases y : i = pN PN
  · have e := add_new PN a b t s
    rw [y, e.1, e.2.1, e.2.2.1]
    refine ⟨?_, ?_, ?_⟩
    · rw [e8, mup_ap, if_neg (fun y => by omega), e6, mup_ap, if_neg (fun y => by omega), e4, mup_ap, if_neg (fun y => by omega), e2, mup_at]
    · rw [e8, mup_ap, if_neg (fun y => by omega), e6, mup_ap, if_neg (fun y => by omega), e4, mup_at]
    · rw [e8, mup_ap, if_neg (fun y => by omega), e6, mup_at]
  · have e := add_old PN a b t s y
    rw [e.1, e.2.1, e.2.2.1]
    rw [e8, mup_ap, if_neg (fun y => by omega), mup_ap, if_neg (fun y => by omega), mup_ap, if_neg (fun y => by omega), e6, mup_ap, if_neg (fun y => by omega), mup_ap, if_neg (fun y => by omega), mup_ap, if_neg (fun z => y z.2), e4, mup_ap, if_neg (fun y => by omega), mup_ap, if_neg (fun z => y z.2), mup_ap, if_neg (fun y => by omega), e2, mup_ap, if_neg (fun z => y z.2), mup_ap, if_neg (fun y => by omega), mup_ap, if_neg (fun y => by omega)]
    exact h1 i i0 (by omega)
theorem isIn_b {x k : Nat} (hx : x < 256) (hk : k < 8) : (lAnd (lShr (x : Int) (k : Int)) 1 = 1 ↔ bitN (x : Int) (k : Int) = true) := by
  have H : ∀ y : Nat, y < 256 → ∀ m : Nat, m < 8 → (lAnd (lShr (y : Int) (m : Int)) 1 = 1 ↔ bitN (y : Int) (m : Int) = true) := by decide +kernel
  exact H x hx k hk
theorem cb_isIn {d : Nat} {sc : SC} {μ : Mem} {x k : Int} {R : Int → Mem → Prop} (hd : 1 ≤ d) (hx : 0 ≤ x ∧ x < 256) (hk : 0 ≤ k ∧ k < 8) (k0 : bitN x k = false → R 0 μ) (k1 : bitN x k = true → R 1 μ) : CAi mX10_isIn d sc [(1, x), (0, k)] μ R := by
  have hb := isIn_b (x := x.toNat) (k := k.toNat) (by omega) (by omega)
  rw [show ((x.toNat : Nat) : Int) = x by omega, show ((k.toNat : Nat) : Int) = k by omega] at hb
  refine byI (d' := 0) (by omega) (Q := R) ?_ (fun _ _ z => z)
  refine CTi_of mp_X10_isIn (Nat.le_of_ble_eq_true rfl) ?_
  exact s_X10_isIn_0 ⟨fun z => k0 (Bool.eq_false_iff.mpr (fun q => z (hb.mpr q))), fun z => k1 (hb.mp z)⟩
theorem cb_laysTold {d : Nat} {sc : SC} {μ : Mem} {H : HillT} {P : PlanT} {x : Int} {R : Mem → Prop} (hd : 2 ≤ d) (h : MY μ H P) (hx : 0 ≤ x ∧ x < 256) (k : ∀ μ', FT4 μ μ' → TL μ' (someN P x (pN P).toNat) → R μ') : CAv mX10_laysTold d sc [(2, 183), (0, x)] μ R := by
  have hn := h.2.2.2.2.1.1
  have h8 := h.2.2.2.2.2.1
  refine byV (d' := 1) (by omega) (Q := R) ?_ (fun _ z => z)
  refine CTv_of mp_X10_laysTold (Nat.le_of_ble_eq_true rfl) ?_
  refine s_X10_laysTold_0 ?_
  intro μ1 e1
  have f1 : FT4 μ μ1 := fun b j q1 q2 q3 q4 => by rw [e1, mup_ap, if_neg (fun y => q1 y.1 y.2)]
  have key : ∀ (r i : Nat) (μ2 : Mem), (i : Int) + r = pN P → FT4 μ μ2 → TL μ2 (someN P x i) → WQ mX10_laysTold 1 sc (ZV sc R) 7 [(2, 183), (0, x), (0, (i : Int))] [] μ2 := by
    intro r
    induction r with
    | zero =>
      intro i μ2 hi hf hT
      have e31 : μ2 184 31 = pN P := by rw [hf _ _ (by omega) (by omega) (by omega) (by omega)]; exact h.2.1.1
      refine s_X10_laysTold_7 ⟨fun _ => k μ2 hf (by rw [show (pN P).toNat = i by omega]; exact hT), fun z => by omega⟩
    | succ r ih =>
      intro i μ2 hi hf hT
      have f184 : ∀ j, μ2 184 j = μ 184 j := fun j => hf _ _ (by omega) (by omega) (by omega) (by omega)
      have e31 : μ2 184 31 = pN P := by rw [f184]; exact h.2.1.1
      refine s_X10_laysTold_7 ⟨fun z => by omega, fun _ => cb_isIn (Nat.le_refl _) hx ⟨by omega, by omega⟩ (fun y => ⟨fun _ => ⟨by omega, ?_⟩, fun q => absurd rfl q⟩) (fun y => ⟨fun q => absurd q (by decide), fun _ => ⟨by omega, by omega, by omega, by omega, by omega, by omega, by omega, by omega, by omega, by omega, by omega, ?_⟩⟩)⟩
      · rintro _ rfl
        refine ih (i + 1) μ2 (by omega) hf ?_
        rw [someN, y, if_neg (by decide)]; exact hT
      · have hp := h.2.1.2.1 (i : Int) (by omega) (by omega)
        have p1 : μ 184 (31 + (1 + 4 * (i : Int))) = pWho P i := hp.1
        have p2 : μ 184 (31 + (2 + 4 * (i : Int))) = pWhom P i := hp.2.1
        have p3 : μ 184 (31 + (3 + 4 * (i : Int))) = pAt P i := hp.2.2.1
        rw [f184, f184, f184, show 32 + 4 * (i : Int) = 31 + (1 + 4 * (i : Int)) by omega, p1, show 31 + (1 + 4 * (i : Int)) + 1 = 31 + (2 + 4 * (i : Int)) by omega, p2, show 31 + (1 + 4 * (i : Int)) + 2 = 31 + (3 + 4 * (i : Int)) by omega, p3]
        have hsn := someN_n P x i
        refine cb_tellsToo (s := 10) (Nat.le_refl _) hT (by omega) (fun μ20 f20 t20 => ⟨by omega, ?_⟩)
        rintro _ rfl
        refine ih (i + 1) μ20 (by omega) (hf.tr f20) ?_
        rw [someN, if_pos y]; exact t20
  have t0 : TL μ1 (someN P x 0) := ⟨by rw [e1, mup_at]; rfl, fun i i0 i1 => by have : i < 0 := i1; omega⟩
  exact key (pN P).toNat 0 μ1 (by omega) f1 t0
theorem someN_all {P : PlanT} {x : Int} : ∀ n : Nat, (∀ i : Nat, i < n → bitN x i = true) → pN (someN P x n) = n ∧ ∀ i, 0 ≤ i → i < (n : Int) → pWho (someN P x n) i = pWho P i ∧ pWhom (someN P x n) i = pWhom P i ∧ pAt (someN P x n) i = pAt P i := by
  intro n
  induction n with
  | zero => intro _; exact ⟨rfl, fun i i0 i1 => by omega⟩
  | succ n ih =>
    intro h
    obtain ⟨a1, a2⟩ := ih (fun i hi => h i (by omega))
    rw [someN, if_pos (h n (by omega))]
    refine ⟨by show pN (someN P x n) + 1 = _; omega, fun i i0 i1 => ?_⟩
    by_cases y : i = n
    · have e := add_new (someN P x n) (pWho P n) (pWhom P n) (pAt P n) 10
      rw [a1] at e
      rw [y, e.1, e.2.1, e.2.2.1]; exact ⟨rfl, rfl, rfl⟩
    · have e := add_old (someN P x n) (pWho P n) (pWhom P n) (pAt P n) 10 (k := i) (by omega)
      rw [e.1, e.2.1, e.2.2.1]
      exact a2 i i0 (by omega)
theorem full_b : ∀ n : Nat, n < 9 → ∀ i : Nat, i < n → bitN (iShl 1 (n : Int) - 1) (i : Int) = true := by decide +kernel
theorem full_r : ∀ n : Nat, n < 9 → 0 ≤ iShl 1 (n : Int) - 1 ∧ iShl 1 (n : Int) - 1 < 256 := by decide +kernel
/-- all namings told -/
theorem cb_allTold {d : Nat} {sc : SC} {μ : Mem} {H : HillT} {P : PlanT} {R : Mem → Prop} (hd : 2 ≤ d) (h : MY μ H P) (k : ∀ μ', FT4 μ μ' → TL μ' P → R μ') : (-2147483648 ≤ (iShl 1 (μ 184 31)) - 1 ∧ (iShl 1 (μ 184 31)) - 1 < 2147483648) ∧ CAv mX10_laysTold d sc [(2, 183), (0, (iShl 1 (μ 184 31)) - 1)] μ R := by
  have hn := h.2.2.2.2.1.1
  have h8 := h.2.2.2.2.2.1
  have e31 : μ 184 31 = pN P := h.2.1.1
  have e : ((pN P).toNat : Int) = pN P := by omega
  have hr := full_r (pN P).toNat (by omega)
  have hb := full_b (pN P).toNat (by omega)
  rw [e] at hr hb
  rw [e31]
  refine ⟨by omega, cb_laysTold hd h hr (fun μ' f t => k μ' f ?_)⟩
  obtain ⟨a1, a2⟩ := someN_all (P := P) (x := iShl 1 (pN P) - 1) (pN P).toNat hb
  refine ⟨by rw [t.1, a1]; exact e, fun i i0 i1 => ?_⟩
  have := t.2 i i0 (by rw [a1]; omega)
  have h2 := a2 i i0 (by omega)
  rw [this.1, this.2.1, this.2.2]; exact h2

/-! THE CLASS'S DAY: answers of a minute -/
theorem apart01 {a h : Int} (ha : isK 0 a) (hh : isK 1 h) : ∀ b, h ≤ b ∧ b ≤ h + 6 → b < a ∨ a + 11 < b := by
  intro b
  have h1 := ik_0 ha
  have h2 := ik_1 hh
  omega
theorem LRep.same {μ μ' : Mem} {L h p : Int} {H : HillT} {P : PlanT} (hX : LRep μ L h p H P) (hs : ∀ b j, (L ≤ b ∧ b ≤ L + 7) ∨ (h ≤ b ∧ b ≤ h + 6) ∨ (p ≤ b ∧ b ≤ p + 5) → μ' b j = μ b j) : LRep μ' L h p H P := by
  obtain ⟨⟨a1, a2, a3, a4, a5, a6, a7, a8, a9⟩, hg, hc⟩ := hX
  refine ⟨⟨a1, a2, a3, ?_, ?_, a6.same (fun b j q1 q2 => hs b j (by omega)), a7.same (fun b j q1 q2 => hs b j (by omega)), a8, a9⟩, ?_, ?_⟩
  · rw [hs L 3 (by omega)]; exact a4
  · rw [hs L 4 (by omega)]; exact a5
  · intro a b q1 q2 q3 q4 q5
    rw [hs (L + 2) _ (by omega), hs (L + 3) _ (by omega), hs (L + 1) _ (by omega)]
    exact hg a b q1 q2 q3 q4 q5
  · intro a b t q1 q2 q3 q4 q5 q6 q7
    rw [hs (L + 6) _ (by omega), hs (L + 7) _ (by omega)]
    exact hc a b t q1 q2 q3 q4 q5 q6 q7
def gapQ (H : HillT) (P : PlanT) (q : Int) : Int := gapS H P (q / 6) (q % 6)
def ansQ (H : HillT) (P : PlanT) (q t : Int) : Bool := decide (0 < hLen H 2) && decide (ev (envS H P (q / 6) (q % 6) (gapS H P (q / 6) (q % 6)) t) (hCode H 2) (hLen H 2) = 1)
theorem ansQ_t {H : HillT} {P : PlanT} {q t : Int} : ansQ H P q t = true ↔ ansS H P (q / 6) (q % 6) t := by simp [ansQ, ansS]
theorem ansQ_f {H : HillT} {P : PlanT} {q t : Int} : ansQ H P q t = false ↔ ¬ ansS H P (q / 6) (q % 6) t := by rw [← ansQ_t]; simp
def goodQ (np q : Int) : Prop := 0 ≤ q ∧ q / 6 < np ∧ q % 6 < np ∧ q / 6 ≠ q % 6
theorem anss_app (ans : Int → Int → Bool) (t : Int) (hs l m : List Int) : anss ans t hs (l ++ m) = anss ans t hs l ++ anss ans t hs m := by simp [anss]
theorem anss_len (ans : Int → Int → Bool) (t : Int) (hs l : List Int) : (anss ans t hs l).length ≤ l.length := by
  unfold anss
  rw [List.length_map]
  exact List.length_filter_le _ _
/-- who answers -/
def cntA (l : List Int) (p : Int) : Int := (l.countP (fun q => q / 6 == p) : Nat)
theorem cntA_app (l m : List Int) (p : Int) : cntA (l ++ m) p = cntA l p + cntA m p := by unfold cntA; rw [List.countP_append]; omega
theorem ct_sayAnswers {d : Nat} {sc : SC} {μ : Mem} {a L h p t t0 bz f : Int} {S : SayL} {H : HillT} {P : PlanT} {hs hb : List Int} (hd : 5 ≤ d) (ha : isK 0 a) (haL : μ a 8 = L) (ht : 0 ≤ t ∧ t < 100) (ht1 : hb ≠ [] → 1 ≤ t) (hX : LRep μ L h p H P)
    (hhb : ∀ i : Nat, ∀ z : i < hb.length, μ (a + 1) (f + i) = hb[i]) (hf : 0 ≤ f ∧ f + hb.length ≤ 512) (hq : ∀ q ∈ hb, goodQ (hP H) q) (hbm : ∀ q, 0 ≤ q → q < 6 → (bitI bz q ↔ muteB hs q = true))
    (hD : DR μ a S t0) (ht0 : 0 ≤ t0 ∧ t0 ≤ t + 1) (hS : S.length + (dueL (gapQ H P) t (anss (ansQ H P) t hs hb)).length ≤ 511) (h4 : ∀ q, 0 ≤ q → q < 6 → 0 ≤ μ (a + 4) q ∧ μ (a + 4) q + hb.length ≤ 1000000) :
    CTv mX0_sayAnswers d sc [(2, a), (0, t), (0, bz), (0, f), (0, f + hb.length)] μ (fun μ' => (∀ b j, (b = a → j ≠ 13) → b ≠ a + 4 → b ≠ a + 8 → b ≠ a + 9 → b ≠ a + 10 → b ≠ a + 11 → b ≠ L + 4 → b ≠ L + 5 → b ≠ L + 6 → b ≠ L + 7 → μ' b j = μ b j) ∧ LRep μ' L h p H P ∧
      DR μ' a (S ++ dueL (gapQ H P) t (anss (ansQ H P) t hs hb)) t0 ∧ ∀ q, 0 ≤ q → q < 6 → μ' (a + 4) q = μ (a + 4) q + cntA (anss (ansQ H P) t hs hb) q) := by
  have hL := hX.1.1
  have apL := apart03 ha hL
  have ap1 := apart01 ha hX.1.2.1
  have ap6 := apart0 ha hX.1.2.2.1
  have hav := ik_0 ha
  have hp6 := hX.1.2.2.2.2.2.2.2.1.2.2.1
  refine CTv_of mp_X0_sayAnswers (Nat.le_of_ble_eq_true rfl) ?_
  refine s_X0_sayAnswers_0 ha ?_
  have key : ∀ (l pre : List Int) (i : Int) (μ1 : Mem), pre ++ l = hb → i = f + pre.length →
      (∀ b j, (b = a → j ≠ 13) → b ≠ a + 4 → b ≠ a + 8 → b ≠ a + 9 → b ≠ a + 10 → b ≠ a + 11 → b ≠ L + 4 → b ≠ L + 5 → b ≠ L + 6 → b ≠ L + 7 → μ1 b j = μ b j) → LRep μ1 L h p H P → DR μ1 a (S ++ dueL (gapQ H P) t (anss (ansQ H P) t hs pre)) t0 →
      (∀ q, 0 ≤ q → q < 6 → μ1 (a + 4) q = μ (a + 4) q + cntA (anss (ansQ H P) t hs pre) q) →
      WQ mX0_sayAnswers d sc (ZV sc (fun μ' => (∀ b j, (b = a → j ≠ 13) → b ≠ a + 4 → b ≠ a + 8 → b ≠ a + 9 → b ≠ a + 10 → b ≠ a + 11 → b ≠ L + 4 → b ≠ L + 5 → b ≠ L + 6 → b ≠ L + 7 → μ' b j = μ b j) ∧ LRep μ' L h p H P ∧
      DR μ' a (S ++ dueL (gapQ H P) t (anss (ansQ H P) t hs hb)) t0 ∧ ∀ q, 0 ≤ q → q < 6 → μ' (a + 4) q = μ (a + 4) q + cntA (anss (ansQ H P) t hs hb) q)) 3 [(2, a), (0, t), (0, bz), (9, 0), (0, f + hb.length), (0, i), (9, 0), (9, 0)] [] μ1 := by
    intro l
    induction l with
    | nil =>
      intro pre i μ1 hl hi hfr hLR hDR hct
      rw [List.append_nil] at hl
      rw [hl] at hDR hct hi
      exact s_X0_sayAnswers_3 ha ⟨fun _ => ⟨hfr, hLR, hDR, hct⟩, fun z => by omega⟩
    | cons y l ih =>
      intro pre i μ1 hl hi hfr hLR hDR hct
      have hlen : (hb.length : Int) = pre.length + (l.length + 1) := by rw [← hl]; simp
      have hy : μ1 (a + 1) i = y := by
        rw [hfr _ _ (by omega) (by omega) (by omega) (by omega) (by omega) (by omega) (by have := apL (L + 4); omega) (by have := apL (L + 5); omega) (by have := apL (L + 6); omega) (by have := apL (L + 7); omega), hi, hhb pre.length (by omega)]
        simp [← hl]
      obtain ⟨g1, g2, g3, g4⟩ := hq y (by rw [← hl]; simp)
      have ht1 := ht1 (by rw [← hl]; simp)
      refine s_X0_sayAnswers_3 ha ⟨fun z => by omega, fun _ => ⟨by omega, ?_⟩⟩
      rw [hy]
      intro z3 e3
      rw [e3]
      clear e3 z3
      refine ⟨g1, ?_⟩
      rintro _ rfl
      have hbz := hbm (y % 6) (by omega) (by omega)
      have ea : anss (ansQ H P) t hs (pre ++ [y]) = anss (ansQ H P) t hs pre ++ anss (ansQ H P) t hs [y] := anss_app _ _ _ _ _
      have hln := anss_len (ansQ H P) t hs pre
      have hdl : (dueL (gapQ H P) t (anss (ansQ H P) t hs pre)).length ≤ (dueL (gapQ H P) t (anss (ansQ H P) t hs hb)).length := by rw [← hl, anss_app, dueL_app, List.length_append]; omega
      refine ⟨fun hm => ⟨by omega, ?_⟩, fun hm => ?_⟩
      · have e0 : anss (ansQ H P) t hs [y] = [] := by simp [anss, hbz.mp hm]
        rw [e0, List.append_nil] at ea
        rintro _ rfl
        exact ih (pre ++ [y]) _ μ1 (by rw [← hl]; simp) (by simp; omega) hfr hLR (by rw [ea]; exact hDR) (by rw [ea]; exact hct)
      · have hmb : muteB hs (y % 6) = false := by
          cases hb : muteB hs (y % 6) with
          | false => rfl
          | true => exact absurd hm (hbz.mpr hb)
        have h8 : μ1 a 8 = L := by
          rw [hfr _ _ (by omega) (by omega) (by omega) (by omega) (by omega) (by omega) (by have := apL (L + 4); omega) (by have := apL (L + 5); omega) (by have := apL (L + 6); omega) (by have := apL (L + 7); omega)]
          exact haL
        rw [h8]
        have ey : y = (y / 6) * 6 + y % 6 := by omega
        refine ⟨by omega, hL, ?_⟩
        have hia := ct_isAnswered (d := 4) (sc := sc) (Nat.le_refl _) hLR (a := y / 6) (b := y % 6) (t := t - 1) (by omega) (by omega) g4 (by omega)
        rw [← ey] at hia
        refine byI (d' := 4) (by omega) hia ?_
        rintro x μ12 ⟨x1, x2, x3, x4⟩
        have f12 : ∀ b j, (b = a → j ≠ 13) → b ≠ a + 4 → b ≠ a + 8 → b ≠ a + 9 → b ≠ a + 10 → b ≠ a + 11 → b ≠ L + 4 → b ≠ L + 5 → b ≠ L + 6 → b ≠ L + 7 → μ12 b j = μ b j := fun b j q1 q2 q3 q4 q5 q6 q7 q8 q9 q10 => by rw [x3 b j q7 q8 q9 q10]; exact hfr b j q1 q2 q3 q4 q5 q6 q7 q8 q9 q10
        have n12 : ∀ b j, a ≤ b → b ≤ a + 11 → μ12 b j = μ1 b j := fun b j q1 q2 => x3 b j (by have := apL (L + 4); omega) (by have := apL (L + 5); omega) (by have := apL (L + 6); omega) (by have := apL (L + 7); omega)
        have d12 : DR μ12 a (S ++ dueL (gapQ H P) t (anss (ansQ H P) t hs pre)) t0 := by
          obtain ⟨q1, q2⟩ := hDR
          exact ⟨q1.congr (fun u _ _ => ⟨n12 _ _ (by omega) (by omega), n12 _ _ (by omega) (by omega)⟩) (fun j _ _ => ⟨n12 _ _ (by omega) (by omega), n12 _ _ (by omega) (by omega)⟩) ht0.1, by rw [n12 _ _ (by omega) (by omega)]; exact q2⟩
        have c12 : ∀ q, 0 ≤ q → q < 6 → μ12 (a + 4) q = μ (a + 4) q + cntA (anss (ansQ H P) t hs pre) q := fun q q1 q2 => by rw [n12 _ _ (by omega) (by omega)]; exact hct q q1 q2
        refine ⟨fun hx => ⟨by omega, ?_⟩, fun hx => ?_⟩
        · have na : ansQ H P y (t - 1) = false := by
            rw [ansQ_f, ← x1]
            omega
          have e0 : anss (ansQ H P) t hs [y] = [] := by simp [anss, na]
          rw [e0, List.append_nil] at ea
          rintro _ rfl
          exact ih (pre ++ [y]) _ μ12 (by rw [← hl]; simp) (by simp; omega) f12 x4 (by rw [ea]; exact d12) (by rw [ea]; exact c12)
        · have na : ansQ H P y (t - 1) = true := by
            rw [ansQ_t, ← x1]
            omega
          have e0 : anss (ansQ H P) t hs [y] = [y % 6 * 6 + y / 6] := by simp [anss, na, hmb]
          rw [e0] at ea
          have hc4 := c12 (y % 6) (by omega) (by omega)
          have hcb : 0 ≤ cntA (anss (ansQ H P) t hs pre) (y % 6) ∧ cntA (anss (ansQ H P) t hs pre) (y % 6) ≤ (anss (ansQ H P) t hs pre).length := by
            unfold cntA
            have := List.countP_le_length (p := fun q => q / 6 == y % 6) (l := anss (ansQ H P) t hs pre)
            omega
          have hb4 := h4 (y % 6) (by omega) (by omega)
          refine ⟨by omega, by omega, by omega, ?_⟩
          intro μ19 e19
          have n19 : ∀ b j, b ≠ a + 4 → μ19 b j = μ12 b j := fun b j q => by rw [e19, mup_ap, if_neg (fun z => q z.1)]
          have hpr := pair6 (a := y % 6) (b := y / 6) (by omega) (by omega)
          have d19 : DR μ19 a (S ++ dueL (gapQ H P) t (anss (ansQ H P) t hs pre)) t0 := by
            obtain ⟨q1, q2⟩ := d12
            exact ⟨q1.congr (fun u _ _ => ⟨n19 _ _ (by omega), n19 _ _ (by omega)⟩) (fun j _ _ => ⟨n19 _ _ (by omega), n19 _ _ (by omega)⟩) ht0.1, by rw [n19 _ _ (by omega)]; exact q2⟩
          have L19 : LRep μ19 L h p H P := x4.same (fun b j q => n19 b j (by have := apL b; have := ap1 b; have := ap6 b; omega))
          have g19 := (L19.2.1 (y % 6) (y / 6) (by omega) g3 (by omega) g2 (fun z => g4 z.symm)).1
          refine ⟨by omega, g1, by omega, byV (d' := 1) (by omega) (ct_say (gap := gapQ H P) ha hL (by rw [n19 _ _ (by omega), n12 _ _ (by omega) (by omega)]; exact h8) ⟨hpr.2.2.1, hpr.2.2.2⟩ ht (by rw [g19]; unfold gapQ; rw [hpr.1, hpr.2.1]) (gapS_b _ _ _ _) d19 ht0 (by rw [List.length_append]; omega)) ?_⟩
          rintro μ24 ⟨s1, s2⟩
          rw [List.append_assoc, ← dueL_app, ← ea] at s2
          refine ⟨by omega, ?_⟩
          rintro _ rfl
          refine ih (pre ++ [y]) _ μ24 (by rw [← hl]; simp) (by simp; omega) (fun b j q1 q2 q3 q4 q5 q6 q7 q8 q9 q10 => ?_) (L19.same (fun b j q => ?_)) s2 (fun q q1 q2 => ?_)
          · rw [s1 b j q1 q3 q4 q5 q6, n19 b j q2]; exact f12 b j q1 q2 q3 q4 q5 q6 q7 q8 q9 q10
          · have := apL b
            have := ap1 b
            have := ap6 b
            exact s1 b j (by omega) (by omega) (by omega) (by omega) (by omega)
          · rw [s1 _ _ (by omega) (by omega) (by omega) (by omega) (by omega), ea, cntA_app, e19, mup_ap]
            by_cases hqy : q = y % 6
            · rw [if_pos ⟨rfl, hqy⟩, hc4, hqy]
              have : cntA [y % 6 * 6 + y / 6] (y % 6) = 1 := by unfold cntA; simp [hpr.1]
              omega
            · rw [if_neg (fun z => hqy z.2), c12 q q1 q2]
              have : cntA [y % 6 * 6 + y / 6] q = 0 := by unfold cntA; simp [hpr.1]; omega
              omega
  refine key hb [] f μ rfl (by simp) (fun _ _ _ _ _ _ _ _ _ _ _ _ => rfl) hX ?_ (fun q _ _ => by simp [anss, cntA])
  have e : dueL (gapQ H P) t (anss (ansQ H P) t hs []) = [] := by simp [anss, dueL]
  rw [e, List.append_nil]
  exact hD

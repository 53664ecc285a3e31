/-! THE REFERENCE: a day -/
def namsN (P : PlanT) (t : Int) (hs : List Int) (n : Nat) : List Int := ((List.range n).filter (fun (k : Nat) => pAt P k == t && !muteB hs (pWho P k))).map (fun (k : Nat) => pWho P k * 6 + pWhom P k)
theorem namsN_up (P : PlanT) (t : Int) (hs : List Int) (n : Nat) : namsN P t hs (n + 1) = namsN P t hs n ++ if pAt P n = t ∧ muteB hs (pWho P n) = false then [pWho P n * 6 + pWhom P n] else [] := by
  unfold namsN
  rw [List.range_succ, List.filter_append, List.map_append]
  congr 1
  by_cases h : pAt P n = t
  · cases hm : muteB hs (pWho P n) <;> simp [h, hm]
  · simp [h]
theorem namsN_len (P : PlanT) (t : Int) (hs : List Int) (n : Nat) : (namsN P t hs n).length ≤ n := by
  unfold namsN
  rw [List.length_map]
  have := List.length_filter_le (fun (k : Nat) => pAt P k == t && !muteB hs (pWho P k)) (List.range n)
  rw [List.length_range] at this
  exact this
theorem dueL_lenM (gap : Int → Int) (t : Int) (l : List Int) : (dueL gap t l).length ≤ l.length := by
  unfold dueL
  have := List.length_filter_le (fun x : Int × Int => decide (x.1 < 100)) (l.map (fun q => (t + gap q, q)))
  rw [List.length_map] at this
  exact this
theorem gd_told {d : Nat} {sc : SC} {μ : Mem} {R : Mem → Prop} {H : HillT} {P PN : PlanT} {S : SayL} {hs : List Int} {t x1 x3 bz : Int} (hd : 1 ≤ d) (hG : GG μ H P) (h6 : hP H ≤ 6) (hT : TL μ PN) (hw : wfNp (hP H) PN) (ht : 0 ≤ t ∧ t < 100) (hD : DRm μ S t) (hS : S.length ≤ 600) (hbz : 0 ≤ bz ∧ bz < 64) (hbits : ∀ p, 0 ≤ p → p < 6 → bitN bz p = muteB hs p)
    (k : ∀ μ', DRm μ' (S ++ dueL (gapQ H P) t (nams PN t hs)) t → (∀ j, 0 ≤ j → j < pN PN → μ' 204 j = if pAt PN j = t ∧ muteB hs (pWho PN j) = false then 1 else μ 204 j) → (∀ b j, (b = 183 → j ≠ 35) → (b < 195 ∨ 199 < b) → b ≠ 204 → μ' b j = μ b j) → WQ mX10_goesDay d sc (ZV sc R) 263 [(2, 183), (9, 0), (0, t), (0, x3), (0, bz), (0, x1), (9, 0)] [] μ') :
    WQ mX10_goesDay d sc (ZV sc R) 188 [(2, 183), (0, x1), (0, t), (0, x3), (0, bz), (0, 0), (9, 0)] [] μ := by
  have hn := hw.1
  have key : ∀ (r i : Nat) (μ1 : Mem), (i : Int) + r = pN PN → DRm μ1 (S ++ dueL (gapQ H P) t (namsN PN t hs i)) t → (∀ j : Int, 0 ≤ j → j < pN PN → μ1 204 j = if j < i ∧ pAt PN j = t ∧ muteB hs (pWho PN j) = false then 1 else μ 204 j) → (∀ b j : Int, (b = 183 → j ≠ 35) → (b < 195 ∨ 199 < b) → b ≠ 204 → μ1 b j = μ b j) →
      WQ mX10_goesDay d sc (ZV sc R) 188 [(2, 183), (0, x1), (0, t), (0, x3), (0, bz), (0, (i : Int)), (9, 0)] [] μ1 := by
    intro r
    induction r with
    | zero =>
      intro i μ1 hi hD1 hs1 hf
      have e34 : μ1 183 34 = pN PN := by rw [hf _ _ (by omega) (by omega) (by omega)]; exact hT.1
      refine s_X10_goesDay_188 ⟨fun _ => k μ1 ?_ (fun j j0 j1 => ?_) hf, fun z => by omega⟩
      · have e : nams PN t hs = namsN PN t hs i := by unfold nams namsN; rw [show (pN PN).toNat = i by omega]
        rw [e]; exact hD1
      · rw [hs1 j j0 j1]
        by_cases y : pAt PN j = t ∧ muteB hs (pWho PN j) = false
        · rw [if_pos y, if_pos ⟨by omega, y⟩]
        · rw [if_neg y, if_neg (fun q => y q.2)]
    | succ r ih =>
      intro i μ1 hi hD1 hs1 hf
      have e34 : μ1 183 34 = pN PN := by rw [hf _ _ (by omega) (by omega) (by omega)]; exact hT.1
      have hTi := hT.2 (i : Int) (by omega) (by omega)
      have hwi := hw.2 (i : Int) (by omega) (by omega)
      have e191 : μ1 191 i = pWho PN i := by rw [hf _ _ (by omega) (by omega) (by omega)]; exact hTi.1
      have e192 : μ1 192 i = pWhom PN i := by rw [hf _ _ (by omega) (by omega) (by omega)]; exact hTi.2.1
      have e193 : μ1 193 i = pAt PN i := by rw [hf _ _ (by omega) (by omega) (by omega)]; exact hTi.2.2
      have hl1 := namsN_len PN t hs i
      have hl2 := dueL_lenM (gapQ H P) t (namsN PN t hs i)
      have hup := namsN_up PN t hs i
      have no : ¬ (pAt PN i = t ∧ muteB hs (pWho PN i) = false) → WQ mX10_goesDay d sc (ZV sc R) 188 [(2, 183), (0, x1), (0, t), (0, x3), (0, bz), (0, (i : Int) + 1), (9, 0)] [] μ1 := fun y => by
        rw [if_neg y, List.append_nil] at hup
        refine ih (i + 1) μ1 (by omega) (by rw [hup]; exact hD1) (fun j j0 j1 => ?_) hf
        rw [hs1 j j0 j1]
        by_cases q : j = i
        · rw [q, if_neg (fun z => by omega), if_neg (fun z => y z.2)]
        · by_cases q2 : j < i ∧ pAt PN j = t ∧ muteB hs (pWho PN j) = false
          · rw [if_pos q2, if_pos ⟨by omega, q2.2⟩]
          · rw [if_neg q2, if_neg (fun z => q2 ⟨by omega, z.2⟩)]
      refine s_X10_goesDay_188 ⟨fun z => by omega, fun _ => ⟨by omega, ?_⟩⟩
      rw [e193, e191]
      refine ⟨fun z => ⟨by omega, ?_⟩, fun z => ⟨by omega, cb_isIn hd ⟨hbz.1, by omega⟩ ⟨by omega, by omega⟩ (fun y => ⟨fun _ => ⟨by omega, ?_⟩, fun q => absurd rfl q⟩) (fun y => ⟨fun q => absurd q (by decide), fun _ => ⟨by omega, ?_⟩⟩)⟩⟩
      · rintro _ rfl
        exact no (fun q => z q.1)
      · rw [hbits _ hwi.1.1 (by omega)] at y
        intro μ11 e11
        have g11 : ∀ b j : Int, b ≠ 204 → μ11 b j = μ1 b j := fun b j y => by rw [e11, mup_ap, if_neg (fun q => y q.1)]
        rw [g11 191 _ (by omega), g11 192 _ (by omega), e191, e192]
        refine ⟨by omega, by omega, ?_⟩
        rw [if_pos ⟨z, y⟩] at hup
        refine cb_says hd (fun a b a0 a1 b0 b1 hab => by rw [g11 _ _ (by omega), hf _ _ (by omega) (by omega) (by omega)]; exact hG a b a0 a1 b0 b1 hab) h6 hwi.1 hwi.2.1 hwi.2.2.1 ht (hD1.same ht.1 (g11 _ _ (by omega)) (fun b j _ _ => g11 b j (by omega))) ⟨ht.1, by omega⟩ (by rw [List.length_append]; omega) ?_
        intro μ15 f15 d15
        refine ⟨by omega, ?_⟩
        rintro _ rfl
        refine ih (i + 1) μ15 (by omega) ?_ (fun j j0 j1 => ?_) (fun b j y1 y2 y3 => by rw [f15 b j y1 y2, g11 b j y3]; exact hf b j y1 y2 y3)
        · rw [hup, dueL_app, ← List.append_assoc]; exact d15
        · rw [f15 _ _ (by omega) (by omega), e11, mup_ap]
          by_cases q : j = i
          · rw [if_pos ⟨rfl, q⟩, q, if_pos ⟨by omega, z, y⟩]
          · rw [if_neg (fun z => q z.2), hs1 j j0 j1]
            by_cases q2 : j < i ∧ pAt PN j = t ∧ muteB hs (pWho PN j) = false
            · rw [if_pos q2, if_pos ⟨by omega, q2.2⟩]
            · rw [if_neg q2, if_neg (fun z => q2 ⟨by omega, z.2⟩)]
      · rw [hbits _ hwi.1.1 (by omega)] at y
        rintro _ rfl
        exact no (fun q => by rw [y] at q; exact absurd q.2 (by decide))
  exact key (pN PN).toNat 0 μ (by omega) (by simpa [namsN, dueL] using hD) (fun j j0 j1 => by rw [if_neg (fun z => by omega)]) (fun _ _ _ _ _ => rfl)
theorem anss_appM (ans : Int → Int → Bool) (t : Int) (hs l m : List Int) : anss ans t hs (l ++ m) = anss ans t hs l ++ anss ans t hs m := by simp [anss]
theorem anss_lenM (ans : Int → Int → Bool) (t : Int) (hs l : List Int) : (anss ans t hs l).length ≤ l.length := by
  unfold anss
  rw [List.length_map]
  exact List.length_filter_le _ _
theorem gd_ans {d : Nat} {sc : SC} {μ : Mem} {R : Mem → Prop} {H : HillT} {P : PlanT} {S : SayL} {hs hb : List Int} {t ah bz : Int} (hd : 4 ≤ d) (hY : MY μ H P) (hC : CM μ H (pWind P)) (hG : GG μ H P) (ht : 0 ≤ t ∧ t < 100) (ht1 : hb ≠ [] → 1 ≤ t) (hD : DRm μ S t) (hS : S.length + (dueL (gapQ H P) t (anss (ansQ H P) t hs hb)).length ≤ 600) (hbz : 0 ≤ bz ∧ bz < 64) (hbits : ∀ p, 0 ≤ p → p < 6 → bitN bz p = muteB hs p) (hah : 0 ≤ ah ∧ ah + hb.length ≤ 620)
    (hrow : ∀ i : Nat, ∀ h : i < hb.length, μ 200 (ah + i) = hb[i] % 6 ∧ μ 202 (ah + i) = hb[i] / 6) (hgood : ∀ q ∈ hb, goodQ (hP H) q) (hcnt : ∀ p, 0 ≤ p → p < 6 → 0 ≤ μ 203 p ∧ μ 203 p ≤ 1000000)
    (k : ∀ μ', DRm μ' (S ++ dueL (gapQ H P) t (anss (ansQ H P) t hs hb)) t → CM μ' H (pWind P) → (∀ p, 0 ≤ p → p < 6 → μ' 203 p = μ 203 p + cntA (anss (ansQ H P) t hs hb) p) → (∀ b j, (b = 183 → j ≠ 35) → (b < 195 ∨ 199 < b) → b ≠ 203 → b ≠ 188 → b ≠ 189 → b ≠ 190 → μ' b j = μ b j) → (-2147483648 ≤ t + 1 ∧ t + 1 < 2147483648) ∧ ∀ v3 : Int, v3 = t + 1 → WQ mX10_goesDay d sc (ZV sc R) 79 [(2, 183), (0, ah + hb.length), (0, v3), (9, 0), (9, 0), (9, 0), (9, 0)] [] μ') :
    WQ mX10_goesDay d sc (ZV sc R) 263 [(2, 183), (9, 0), (0, t), (0, ah + hb.length), (0, bz), (0, ah), (9, 0)] [] μ := by
  have h6 := hY.2.2.1.2.2.1
  have key : ∀ (l pre : List Int) (μ1 : Mem), pre ++ l = hb → DRm μ1 (S ++ dueL (gapQ H P) t (anss (ansQ H P) t hs pre)) t → CM μ1 H (pWind P) → (∀ p, 0 ≤ p → p < 6 → μ1 203 p = μ 203 p + cntA (anss (ansQ H P) t hs pre) p) → (∀ b j : Int, (b = 183 → j ≠ 35) → (b < 195 ∨ 199 < b) → b ≠ 203 → b ≠ 188 → b ≠ 189 → b ≠ 190 → μ1 b j = μ b j) →
      WQ mX10_goesDay d sc (ZV sc R) 263 [(2, 183), (9, 0), (0, t), (0, ah + hb.length), (0, bz), (0, ah + pre.length), (9, 0)] [] μ1 := by
    intro l
    induction l with
    | nil =>
      intro pre μ1 hl hD1 hC1 hc1 hf
      rw [List.append_nil] at hl
      subst hl
      refine s_X10_goesDay_263 ⟨fun _ => k μ1 hD1 hC1 hc1 hf, fun z => by omega⟩
    | cons q l ih =>
      intro pre μ1 hl hD1 hC1 hc1 hf
      have hlen : hb.length = pre.length + (l.length + 1) := by rw [← hl]; simp
      have hq := hgood q (by rw [← hl]; simp)
      have ht1 := ht1 (by rw [← hl]; simp)
      obtain ⟨q0, q1, q2, q3⟩ := hq
      have hr := hrow pre.length (by omega)
      have hget : hb[pre.length]'(by omega) = q := by simp [← hl]
      rw [hget] at hr
      have f200 : μ1 200 (ah + pre.length) = q % 6 := by rw [hf _ _ (by omega) (by omega) (by omega) (by omega) (by omega) (by omega)]; exact hr.1
      have f202 : μ1 202 (ah + pre.length) = q / 6 := by rw [hf _ _ (by omega) (by omega) (by omega) (by omega) (by omega) (by omega)]; exact hr.2
      have hY1 : MY μ1 H P := hY.same (fun j => hf _ _ (by omega) (by omega) (by omega) (by omega) (by omega) (by omega))
      have hG1 : GG μ1 H P := fun a b a0 a1 b0 b1 hab => by rw [hf _ _ (by omega) (by omega) (by omega) (by omega) (by omega) (by omega)]; exact hG a b a0 a1 b0 b1 hab
      have hone : anss (ansQ H P) t hs [q] = if muteB hs (q % 6) = false ∧ ansQ H P q (t - 1) = true then [q % 6 * 6 + q / 6] else [] := by
        unfold anss
        cases hm : muteB hs (q % 6) <;> cases ha : ansQ H P q (t - 1) <;> simp [hm, ha]
      have no : ¬ (muteB hs (q % 6) = false ∧ ansQ H P q (t - 1) = true) → ∀ μ2 : Mem, (∀ b j : Int, b ≠ 188 → b ≠ 189 → b ≠ 190 → μ2 b j = μ1 b j) → CM μ2 H (pWind P) → (-2147483648 ≤ (ah + (pre.length : Int)) + 1 ∧ (ah + (pre.length : Int)) + 1 < 2147483648) ∧ ∀ v10 : Int, v10 = (ah + (pre.length : Int)) + 1 → WQ mX10_goesDay d sc (ZV sc R) 263 [(2, 183), (9, 0), (0, t), (0, ah + hb.length), (0, bz), (0, v10), (9, 0)] [] μ2 := by
        intro y μ2 f2 C2
        refine ⟨by omega, ?_⟩
        rintro _ rfl
        have e : anss (ansQ H P) t hs (pre ++ [q]) = anss (ansQ H P) t hs pre := by rw [anss_appM, hone, if_neg y, List.append_nil]
        have := ih (pre ++ [q]) μ2 (by rw [← hl]; simp) (by rw [e]; exact hD1.same ht.1 (f2 _ _ (by omega) (by omega) (by omega)) (fun b j _ _ => f2 b j (by omega) (by omega) (by omega))) C2 (fun p p0 p1 => by rw [e, f2 _ _ (by omega) (by omega) (by omega)]; exact hc1 p p0 p1) (fun b j y1 y2 y3 y4 y5 y6 => by rw [f2 b j y4 y5 y6]; exact hf b j y1 y2 y3 y4 y5 y6)
        rw [List.length_append, List.length_singleton, show (ah + ((pre.length + 1 : Nat) : Int)) = ah + (pre.length : Int) + 1 by omega] at this
        exact this
      refine s_X10_goesDay_263 ⟨fun z => by omega, fun _ => ⟨by omega, ?_⟩⟩
      intro v5 h5
      rw [f200] at h5
      rw [h5]
      refine cb_isIn (by omega) ⟨hbz.1, by omega⟩ ⟨by omega, by omega⟩ (fun y => ⟨fun z => absurd rfl z, fun _ => ⟨by omega, by omega, ?_⟩⟩) (fun y => ⟨fun _ => no (fun z => ?_) μ1 (fun _ _ _ _ _ => rfl) hC1, fun z => absurd z (by decide)⟩)
      rotate_left
      · rw [hbits _ (by omega) (by omega)] at y
        rw [y] at z; exact absurd z.1 (by decide)
      rw [hbits _ (by omega) (by omega)] at y
      rw [f202]
      have hg := hG1 (q / 6) (q % 6) (by omega) q1 (by omega) q2 q3
      rw [show q / 6 * 6 + q % 6 = 6 * (q / 6) + q % 6 by omega] at hg
      rw [hg]
      refine ⟨by omega, by omega, by omega, by omega, ?_⟩
      refine cb_isAnswered hd hY1 hC1 ⟨by omega, q1⟩ ⟨by omega, q2⟩ ⟨by omega, by omega⟩ ?_
      intro μ18 f18 C18
      rw [show q / 6 * 6 + q % 6 = q by omega]
      by_cases ha : ansQ H P q (t - 1) = true
      · rw [if_pos ha]
        refine ⟨fun _ => ?_, fun z => absurd z (by decide)⟩
        have hc18 : ∀ p, 0 ≤ p → p < 6 → μ18 203 p = μ 203 p + cntA (anss (ansQ H P) t hs pre) p := fun p p0 p1 => by rw [f18 _ _ (by omega) (by omega) (by omega)]; exact hc1 p p0 p1
        have hcb := hcnt (q % 6) (by omega) (by omega)
        have hcc : 0 ≤ cntA (anss (ansQ H P) t hs pre) (q % 6) ∧ cntA (anss (ansQ H P) t hs pre) (q % 6) ≤ 1000 := by
          have h1 := anss_lenM (ansQ H P) t hs pre
          have h2 := List.countP_le_length (p := fun z => z / 6 == q % 6) (l := anss (ansQ H P) t hs pre)
          unfold cntA
          omega
        rw [hc18 _ (by omega) (by omega)]
        refine ⟨by omega, by omega, by omega, ?_⟩
        intro μ23 e23
        have g23 : ∀ b j : Int, b ≠ 203 → μ23 b j = μ18 b j := fun b j y => by rw [e23, mup_ap, if_neg (fun z => y z.1)]
        have c202 : μ23 202 (ah + pre.length) = q / 6 := by rw [g23 _ _ (by omega), f18 _ _ (by omega) (by omega) (by omega)]; exact f202
        rw [c202]
        have hl1 := anss_lenM (ansQ H P) t hs pre
        have hl2 : (dueL (gapQ H P) t (anss (ansQ H P) t hs pre)).length ≤ (dueL (gapQ H P) t (anss (ansQ H P) t hs hb)).length := by
          rw [← hl, anss_app, dueL_app, List.length_append]; omega
        refine ⟨by omega, cb_says (by omega) (fun a b a0 a1 b0 b1 hab => by rw [g23 _ _ (by omega), f18 _ _ (by omega) (by omega) (by omega)]; exact hG1 a b a0 a1 b0 b1 hab) h6.2 ⟨by omega, q2⟩ ⟨by omega, q1⟩ (fun z => q3 z.symm) ht (S := S ++ dueL (gapQ H P) t (anss (ansQ H P) t hs pre)) (t0 := t) ?_ ⟨ht.1, by omega⟩ (by rw [List.length_append]; omega) ?_⟩
        · exact (hD1.same ht.1 (f18 _ _ (by omega) (by omega) (by omega)) (fun b j _ _ => f18 b j (by omega) (by omega) (by omega))).same ht.1 (g23 _ _ (by omega)) (fun b j _ _ => g23 b j (by omega))
        · intro μ26 f26 d26
          refine ⟨by omega, ?_⟩
          rintro _ rfl
          have e : anss (ansQ H P) t hs (pre ++ [q]) = anss (ansQ H P) t hs pre ++ [q % 6 * 6 + q / 6] := by rw [anss_appM, hone, if_pos ⟨y, ha⟩]
          have := ih (pre ++ [q]) μ26 (by rw [← hl]; simp) (by rw [e, dueL_app, ← List.append_assoc]; exact d26) (C18.same (fun j => by rw [f26 _ _ (by omega) (by omega), g23 _ _ (by omega)])) (fun p p0 p1 => ?_) (fun b j y1 y2 y3 y4 y5 y6 => by rw [f26 b j y1 y2, g23 b j y3, f18 b j y4 y5 y6]; exact hf b j y1 y2 y3 y4 y5 y6)
          · rw [List.length_append, List.length_singleton, show (ah + ((pre.length + 1 : Nat) : Int)) = ah + (pre.length : Int) + 1 by omega] at this
            exact this
          · rw [e, cntA_app, f26 _ _ (by omega) (by omega), e23, mup_ap]
            have e1 : cntA [q % 6 * 6 + q / 6] p = if p = q % 6 then 1 else 0 := by
              have e2 : (q % 6 * 6 + q / 6) / 6 = q % 6 := by omega
              unfold cntA
              rw [List.countP_cons, List.countP_nil, e2]
              by_cases z : p = q % 6
              · simp [z]
              · have : ¬ q % 6 = p := fun y => z y.symm
                simp [z, this]
            rw [e1]
            by_cases z : p = q % 6
            · rw [if_pos ⟨rfl, z⟩, if_pos z, z]; omega
            · rw [if_neg (fun y => z y.2), if_neg z, hc18 p p0 p1]; omega
      · rw [if_neg ha]
        exact ⟨fun z => absurd rfl z, fun _ => no (fun z => ha z.2) μ18 f18 C18⟩
  have := key hb [] μ rfl (by simpa [anss, dueL] using hD) hC (fun p p0 p1 => by simp [anss, cntA]) (fun _ _ _ _ _ _ _ _ => rfl)
  rw [List.length_nil, show ah + ((0 : Nat) : Int) = ah by omega] at this
  exact this

/-! THE CLASS'S DAY: namings of a minute are said -/
def sayKs (P : PlanT) (bm : Int → Bool) (ks : List Int) : List Int := (ks.filter (fun k => !bm (pWho P k))).map (fun k => pWho P k * 6 + pWhom P k)
def spk (P : PlanT) (bm : Int → Bool) (w : Int) (ks : List Int) : Bool := ks.any (fun k => !bm (pWho P k) && pWho P k == w)
theorem nams_ks (P : PlanT) (t : Int) (hs : List Int) : nams P t hs = sayKs P (muteB hs) (ksF P 0 (pN P).toNat t) := by
  unfold nams sayKs ksF
  rw [List.range_eq_range', List.filter_map, List.map_map, List.filter_filter]
  congr 1
  apply List.filter_congr
  intro k _
  simp [Bool.and_comm]
theorem dueL_app (gap : Int → Int) (t : Int) (l m : List Int) : dueL gap t (l ++ m) = dueL gap t l ++ dueL gap t m := by simp [dueL]
theorem dueL_len (gap : Int → Int) (t : Int) (l : List Int) : (dueL gap t l).length ≤ l.length := by
  unfold dueL
  exact Nat.le_trans (List.length_filter_le _ _) (by simp)
theorem sayKs_cons (P : PlanT) (bm : Int → Bool) (k : Int) (ks : List Int) : sayKs P bm (k :: ks) = if bm (pWho P k) = true then sayKs P bm ks else (pWho P k * 6 + pWhom P k) :: sayKs P bm ks := by
  unfold sayKs
  rw [List.filter_cons]
  cases bm (pWho P k) <;> simp
theorem sayKs_len (P : PlanT) (bm : Int → Bool) (ks : List Int) : (sayKs P bm ks).length ≤ ks.length := by
  unfold sayKs
  rw [List.length_map]
  exact List.length_filter_le _ _
theorem ct_sayNamings {d : Nat} {sc : SC} {μ : Mem} {a p L t t0 bz w : Int} {S : SayL} {P : PlanT} {gap : Int → Int} {bm : Int → Bool} {np : Int} (hd : 2 ≤ d) (ha : isK 0 a) (hp : isK 6 p) (hL : isK 3 L) (hap : μ a 7 = p) (haL : μ a 8 = L) (ht : 0 ≤ t ∧ t < 100) (hX : XN μ p P) (hn : 0 ≤ pN P ∧ pN P ≤ 10) (hnp : 0 ≤ np ∧ np ≤ 6)
    (hwf : ∀ k, 0 ≤ k → k < pN P → (0 ≤ pWho P k ∧ pWho P k < np) ∧ (0 ≤ pWhom P k ∧ pWhom P k < np) ∧ pWho P k ≠ pWhom P k)
    (hC : chain (μ (a + 7)) (ksF P 0 (pN P).toNat t) (μ (a + 6) t)) (hD : DR μ a S t0) (ht0 : 0 ≤ t0 ∧ t0 ≤ t + 1) (hS : S.length + 10 ≤ 511) (hbm : ∀ q, 0 ≤ q → q < 6 → (bitI bz q ↔ bm q = true))
    (hg : ∀ x y, 0 ≤ x → x < np → 0 ≤ y → y < np → x ≠ y → μ (L + 2) (x * 6 + y) = gap (x * 6 + y)) (hgb : ∀ q, 1 ≤ gap q ∧ gap q ≤ 20) :
    CTv mX0_sayNamings d sc [(2, a), (0, t), (0, bz), (0, w)] μ (fun μ' => (∀ b j, (b = a → j ≠ 13 ∧ j ≠ 6) → b ≠ a + 5 → b ≠ a + 8 → b ≠ a + 9 → b ≠ a + 10 → b ≠ a + 11 → μ' b j = μ b j) ∧ DR μ' a (S ++ dueL gap t (sayKs P bm (ksF P 0 (pN P).toNat t))) t0 ∧
      (∀ k, 0 ≤ k → k < 10 → μ' (a + 5) k = if k ∈ ksF P 0 (pN P).toNat t ∧ bm (pWho P k) = false then 1 else μ (a + 5) k) ∧ μ' a 6 = if spk P bm w (ksF P 0 (pN P).toNat t) = true then t else μ a 6) := by
  have ap := apart0 ha hp
  have apL := apart03 ha hL
  have hav := ik_0 ha
  refine CTv_of mp_X0_sayNamings (Nat.le_of_ble_eq_true rfl) ?_
  refine s_X0_sayNamings_0 ha ⟨ht, ?_⟩
  rintro _ rfl
  rw [hap]
  refine ⟨hp, ?_⟩
  rintro _ rfl
  have key : ∀ (l pre : List Int) (i left : Int) (μ1 : Mem), pre ++ l = ksF P 0 (pN P).toNat t → (l.length : Int) ≤ left → left ≤ 10 → chain (μ (a + 7)) l i →
      (∀ b j, (b = a → j ≠ 13 ∧ j ≠ 6) → b ≠ a + 5 → b ≠ a + 8 → b ≠ a + 9 → b ≠ a + 10 → b ≠ a + 11 → μ1 b j = μ b j) → DR μ1 a (S ++ dueL gap t (sayKs P bm pre)) t0 →
      (∀ k, 0 ≤ k → k < 10 → μ1 (a + 5) k = if k ∈ pre ∧ bm (pWho P k) = false then 1 else μ (a + 5) k) → (μ1 a 6 = if spk P bm w pre = true then t else μ a 6) →
      WQ mX0_sayNamings d sc (ZV sc (fun μ' => (∀ b j, (b = a → j ≠ 13 ∧ j ≠ 6) → b ≠ a + 5 → b ≠ a + 8 → b ≠ a + 9 → b ≠ a + 10 → b ≠ a + 11 → μ' b j = μ b j) ∧ DR μ' a (S ++ dueL gap t (sayKs P bm (ksF P 0 (pN P).toNat t))) t0 ∧
      (∀ k, 0 ≤ k → k < 10 → μ' (a + 5) k = if k ∈ ksF P 0 (pN P).toNat t ∧ bm (pWho P k) = false then 1 else μ (a + 5) k) ∧ μ' a 6 = if spk P bm w (ksF P 0 (pN P).toNat t) = true then t else μ a 6)) 17 [(2, a), (0, t), (0, bz), (0, w), (0, i), (0, left), (9, 0)] [] μ1 := by
    intro l
    induction l with
    | nil =>
      intro pre i left μ1 hl hlen hleft hc hf hDR hsd hsp
      rw [List.append_nil] at hl
      rw [hl] at hDR hsd hsp
      simp only [chain] at hc
      exact s_X0_sayNamings_17 ha ⟨fun _ => ⟨hf, hDR, hsd, hsp⟩, fun _ => ⟨fun _ => ⟨hf, hDR, hsd, hsp⟩, fun z => by omega⟩⟩
    | cons y l ih =>
      intro pre i left μ1 hl hlen hleft hc hf hDR hsd hsp
      obtain ⟨rfl, hc⟩ := hc
      rw [List.length_cons] at hlen
      have hi := ksF_b (show i ∈ ksF P 0 (pN P).toNat t by rw [← hl]; simp)
      have hiN : 0 ≤ i ∧ i < pN P := by omega
      have hw := hwf i hiN.1 hiN.2
      have h7 : μ1 a 7 = p := by rw [hf a 7 (by omega) (by omega) (by omega) (by omega) (by omega) (by omega)]; exact hap
      have hX1 : XN μ1 p P := hX.same (fun b j q1 q2 => by have := ap b ⟨q1, by omega⟩; exact hf b j (by omega) (by omega) (by omega) (by omega) (by omega) (by omega))
      have hn7 : ∀ j, μ1 (a + 7) j = μ (a + 7) j := fun j => hf _ j (by omega) (by omega) (by omega) (by omega) (by omega) (by omega)
      have hplen : pre.length ≤ 9 := by
        have e1 : (pre ++ i :: l).length ≤ (pN P).toNat := by
          rw [hl]; unfold ksF; rw [List.length_map]
          exact Nat.le_trans (List.length_filter_le _ _) (by simp)
        simp at e1
        omega
      refine s_X0_sayNamings_17 ha ⟨fun z => by omega, fun _ => ⟨fun z => by omega, fun _ => ?_⟩⟩
      rw [h7]
      refine ⟨hp, by omega, ?_⟩
      rw [(hX1.2 i hiN.1 hiN.2).1]
      rintro _ rfl
      refine ⟨fun hm => ⟨by omega, ?_⟩, fun hm => ⟨by omega, ?_⟩⟩
      · have hmb : bm (pWho P i) = true := (hbm _ (by omega) (by omega)).mp hm
        rw [hn7]
        rintro _ rfl
        refine ⟨by omega, ?_⟩
        rintro _ rfl
        refine ih (pre ++ [i]) _ _ μ1 (by rw [← hl]; simp) (by omega) (by omega) hc hf ?_ (fun k k0 k1 => ?_) ?_
        · have e : sayKs P bm (pre ++ [i]) = sayKs P bm pre := by unfold sayKs; simp [hmb]
          rw [e]; exact hDR
        · rw [hsd k k0 k1]
          by_cases hk : k = i
          · subst hk; simp [hmb]
          · simp [hk]
        · have e : spk P bm w (pre ++ [i]) = spk P bm w pre := by unfold spk; simp [hmb]
          rw [e]; exact hsp
      · have hmb : bm (pWho P i) = false := by
          cases hb : bm (pWho P i) with
          | false => rfl
          | true => exact absurd hm ((hbm _ (by omega) (by omega)).mpr hb)
        intro μ12 e12
        have h12 : ∀ b j, b ≠ a + 5 → μ12 b j = μ1 b j := fun b j q => by rw [e12, mup_ap, if_neg (fun z => q z.1)]
        rw [h12 a 7 (by omega), h7, h12 (p + 2) _ (by have := ap (p + 2) (by omega); omega), (hX1.2 i hiN.1 hiN.2).2.1]
        have hpr := pair6 (a := pWho P i) (b := pWhom P i) (by omega) (by omega)
        have hDR12 : DR μ12 a (S ++ dueL gap t (sayKs P bm pre)) t0 := by
          obtain ⟨q1, q2⟩ := hDR
          refine ⟨q1.congr (fun u _ _ => ⟨h12 _ _ (by omega), h12 _ _ (by omega)⟩) (fun j _ _ => ⟨h12 _ _ (by omega), h12 _ _ (by omega)⟩) ht0.1, by rw [h12 a _ (by omega)]; exact q2⟩
        have hlen2 : (S ++ dueL gap t (sayKs P bm pre)).length < 512 := by
          rw [List.length_append]
          have := dueL_len gap t (sayKs P bm pre)
          have := sayKs_len P bm pre
          omega
        have hgq : μ12 (L + 2) (pWho P i * 6 + pWhom P i) = gap (pWho P i * 6 + pWhom P i) := by
          have q := apL (L + 2) (by omega)
          rw [h12 _ _ (by omega), hf _ _ (by omega) (by omega) (by omega) (by omega) (by omega) (by omega)]
          exact hg _ _ hw.1.1 hw.1.2 hw.2.1.1 hw.2.1.2 hw.2.2
        refine ⟨by omega, hp, by omega, by omega, byV (d' := 1) (by omega) (ct_say ha hL (by rw [h12 a _ (by omega), hf a _ (by omega) (by omega) (by omega) (by omega) (by omega) (by omega)]; exact haL) ⟨by omega, by omega⟩ ht hgq (hgb _) hDR12 ht0 hlen2) ?_⟩
        rintro μ18 ⟨s1, s2⟩
        have e18 : dueL gap t (sayKs P bm (pre ++ [i])) = dueL gap t (sayKs P bm pre) ++ dueL gap t [pWho P i * 6 + pWhom P i] := by
          have e : sayKs P bm (pre ++ [i]) = sayKs P bm pre ++ [pWho P i * 6 + pWhom P i] := by unfold sayKs; simp [hmb]
          rw [e, dueL_app]
        rw [List.append_assoc, ← e18] at s2
        have f18 : ∀ b j, (b = a → j ≠ 13 ∧ j ≠ 6) → b ≠ a + 5 → b ≠ a + 8 → b ≠ a + 9 → b ≠ a + 10 → b ≠ a + 11 → μ18 b j = μ b j := fun b j q0 q5 q8 q9 q10 q11 => by
          rw [s1 b j (fun z => (q0 z).1) q8 q9 q10 q11, h12 b j q5]; exact hf b j q0 q5 q8 q9 q10 q11
        have f185 : ∀ k, 0 ≤ k → k < 10 → μ18 (a + 5) k = if k ∈ pre ++ [i] ∧ bm (pWho P k) = false then 1 else μ (a + 5) k := fun k k0 k1 => by
          rw [s1 (a + 5) k (by omega) (by omega) (by omega) (by omega) (by omega), e12, mup_ap, hsd k k0 k1]
          by_cases hk : k = i
          · subst hk; simp [hmb]
          · simp [hk]
        have f186 : μ18 a 6 = if spk P bm w pre = true then t else μ a 6 := by rw [s1 a 6 (by omega) (by omega) (by omega) (by omega) (by omega), h12 a 6 (by omega)]; exact hsp
        have hn18 : μ18 (a + 7) i = μ (a + 7) i := f18 _ _ (by omega) (by omega) (by omega) (by omega) (by omega) (by omega)
        refine ⟨fun hne => ⟨by omega, ?_⟩, fun heq => ?_⟩
        · rw [hn18]
          rintro _ rfl
          refine ⟨by omega, ?_⟩
          rintro _ rfl
          refine ih (pre ++ [i]) _ _ μ18 (by rw [← hl]; simp) (by omega) (by omega) hc f18 s2 f185 ?_
          have e : spk P bm w (pre ++ [i]) = spk P bm w pre := by unfold spk; simp [hne]
          rw [e]; exact f186
        · intro μ24 e24
          have h24 : ∀ b j, (b = a → j ≠ 6) → μ24 b j = μ18 b j := fun b j q => by rw [e24, mup_ap, if_neg (fun z => q z.1 z.2)]
          rw [h24 (a + 7) _ (by omega), hn18]
          refine ⟨by omega, ?_⟩
          rintro _ rfl
          refine ⟨by omega, ?_⟩
          rintro _ rfl
          refine ih (pre ++ [i]) _ _ μ24 (by rw [← hl]; simp) (by omega) (by omega) hc (fun b j q0 q5 q8 q9 q10 q11 => by rw [h24 b j (fun z => (q0 z).2)]; exact f18 b j q0 q5 q8 q9 q10 q11) ?_ (fun k k0 k1 => by rw [h24 _ _ (by omega)]; exact f185 k k0 k1) ?_
          · obtain ⟨q1, q2⟩ := s2
            exact ⟨q1.congr (fun u _ _ => ⟨h24 _ _ (by omega), h24 _ _ (by omega)⟩) (fun j _ _ => ⟨h24 _ _ (by omega), h24 _ _ (by omega)⟩) ht0.1, by rw [h24 a _ (by omega)]; exact q2⟩
          · have e : spk P bm w (pre ++ [i]) = true := by
              rw [heq] at hmb
              unfold spk; simp [hmb, heq]
            rw [e, if_pos rfl, e24, mup_ap, if_pos ⟨rfl, rfl⟩]
  refine key (ksF P 0 (pN P).toNat t) [] _ _ μ rfl ?_ ?_ hC (fun _ _ _ _ _ _ _ _ => rfl) ?_ (fun k _ _ => by simp) (by simp [spk])
  · have e1 : (ksF P 0 (pN P).toNat t).length ≤ (pN P).toNat := by
      unfold ksF; rw [List.length_map]
      exact Nat.le_trans (List.length_filter_le _ _) (by simp)
    rw [hX.1]
    omega
  · rw [hX.1]; omega
  · have e : dueL gap t (sayKs P bm []) = [] := by simp [sayKs, dueL]
    rw [e, List.append_nil]
    exact hD

/-! THE CLASS'S DAY: laid anew; namings by their minutes -/
def XN (μ : Mem) (p : Int) (P : PlanT) : Prop := μ p 0 = pN P ∧ ∀ k, 0 ≤ k → k < pN P → μ (p + 1) k = pWho P k ∧ μ (p + 2) k = pWhom P k ∧ μ (p + 3) k = pAt P k ∧ μ (p + 4) k = pSure P k
theorem XP.n {μ : Mem} {p np : Int} {P : PlanT} (h : XP μ p np P) : XN μ p P := ⟨h.1, h.2.1⟩
theorem XN.same {μ μ' : Mem} {p : Int} {P : PlanT} (hX : XN μ p P) (hs : ∀ b j, p ≤ b → b ≤ p + 4 → μ' b j = μ b j) : XN μ' p P := by
  unfold XN at hX ⊢
  simp only [hs p _ (by omega) (by omega), hs (p + 1) _ (by omega) (by omega), hs (p + 2) _ (by omega) (by omega), hs (p + 3) _ (by omega) (by omega), hs (p + 4) _ (by omega) (by omega)]
  exact hX
/-- namings of a minute, from a place on -/
def ksF (P : PlanT) (m n : Nat) (u : Int) : List Int := ((List.range' m n).filter (fun (k : Nat) => pAt P k == u)).map (fun (k : Nat) => (k : Int))
def NC (μ : Mem) (a : Int) (P : PlanT) : Prop := ∀ u, 0 ≤ u → u < 100 → chain (μ (a + 7)) (ksF P 0 (pN P).toNat u) (μ (a + 6) u)
theorem ksF_b {P : PlanT} {m n : Nat} {u x : Int} (h : x ∈ ksF P m n u) : (m : Int) ≤ x ∧ x < (m : Int) + n := by
  unfold ksF at h
  obtain ⟨k, hk, rfl⟩ := List.mem_map.mp h
  have := (List.mem_filter.mp hk).1
  rw [List.mem_range'_1] at this
  omega
theorem ksF_cons (P : PlanT) (m n : Nat) (u : Int) : ksF P m (n + 1) u = if pAt P m = u then (m : Int) :: ksF P (m + 1) n u else ksF P (m + 1) n u := by
  unfold ksF
  rw [List.range'_succ, List.filter_cons]
  by_cases h : pAt P m = u
  · simp [h]
  · simp [h]
/-- a day's object and a plan do not meet -/
theorem apart0 {a p : Int} (ha : isK 0 a) (hp : isK 6 p) : ∀ b, p ≤ b ∧ b ≤ p + 5 → b < a ∨ a + 11 < b := by
  have h1 := ik_0 ha
  have h2 := ik_6 hp
  intro b hb
  omega
theorem apart03 {a L : Int} (ha : isK 0 a) (hL : isK 3 L) : ∀ b, L ≤ b ∧ b ≤ L + 7 → b < a ∨ a + 11 < b := by
  have h1 := ik_0 ha
  have h2 := ik_3 hL
  intro b hb
  omega
theorem ct_clear {d : Nat} {sc : SC} {μ : Mem} {a p : Int} {P : PlanT} (hd : 2 ≤ d) (ha : isK 0 a) (hp : isK 6 p) (hap : μ a 7 = p) (hX : XN μ p P) (hn : 0 ≤ pN P ∧ pN P ≤ 10) (hat : ∀ k, 0 ≤ k → k < pN P → 0 ≤ pAt P k ∧ pAt P k < 100) :
    CTv mX0_clear d sc [(2, a)] μ (fun μ' => (∀ b j, b < a ∨ a + 11 < b → μ' b j = μ b j) ∧ μ' a 7 = p ∧ μ' a 8 = μ a 8 ∧ μ' a 6 = -1 ∧ DR μ' a [] 0 ∧ HR μ' a [] ∧ (∀ q, 0 ≤ q → q < 6 → μ' (a + 4) q = 0) ∧ (∀ k, 0 ≤ k → k < 10 → μ' (a + 5) k = 0) ∧ NC μ' a P) := by
  have ap := apart0 ha hp
  have k3 := kf_0_3 ha
  have k4 := kf_0_4 ha
  have k5 := kf_0_5 ha
  have k9 := kf_0_9 ha
  have k11 := kf_0_11 ha
  refine CTv_of mp_X0_clear (Nat.le_of_ble_eq_true rfl) ?_
  refine s_X0_clear_0 ha ?_
  rintro _ rfl _ rfl _ rfl
  refine byV (d' := 1) (by omega) (ct_fillI k3 (by decide)) (fun μ5 h5 => ?_)
  refine byV (d' := 1) (by omega) (ct_fillI k4 (by decide)) (fun μ7 h7 => ?_)
  refine byV (d' := 1) (by omega) (ct_fillI k5 (by decide)) (fun μ9 h9 => ?_)
  refine byV (d' := 1) (by omega) (ct_fillI k11 (by decide)) (fun μ11 h11 => ?_)
  refine byV (d' := 1) (by omega) (ct_fillI k9 (by decide)) (fun μ13 h13 => ?_)
  -- all at once
  have f : ∀ b j, μ13 b j = if b = a + 6 ∧ 0 ≤ j ∧ j < 100 then -1 else if b = a + 8 ∧ 0 ≤ j ∧ j < 100 then -1 else if b = a + 5 ∧ 0 ≤ j ∧ j < 10 then 0 else if b = a + 4 ∧ 0 ≤ j ∧ j < 6 then 0 else if b = a + 3 ∧ 0 ≤ j ∧ j < 6 then 0 else if b = a ∧ j = 6 then -1 else if b = a ∧ j = 13 then 0 else if b = a ∧ j = 0 then 0 else μ b j := by
    intro b j
    rw [h13, h11, h9, h7, h5]
    simp only [mup_ap]
    rfl
  have f7 : μ13 a 7 = p := by
    rw [f]
    simp only [show a ≠ a + 6 by omega, show a ≠ a + 8 by omega, show a ≠ a + 5 by omega, show a ≠ a + 4 by omega, show a ≠ a + 3 by omega, false_and, if_false]
    simpa using hap
  have fo : ∀ b j, b < a ∨ a + 11 < b → μ13 b j = μ b j := fun b j hb => by
    rw [f]
    repeat rw [if_neg (by omega)]
  have hX13 : XN μ13 p P := hX.same (fun b j q1 q2 => fo b j (ap b ⟨q1, by omega⟩))
  rw [f7, hX13.1]
  refine ⟨hp, by omega, ?_⟩
  rintro _ rfl
  have key : ∀ (m : Nat) (n : Nat) (μ1 : Mem), m + n = (pN P).toNat → (∀ b j, b ≠ a + 6 → b ≠ a + 7 → μ1 b j = μ13 b j) → (∀ u, 0 ≤ u → u < 100 → chain (μ1 (a + 7)) (ksF P m n u) (μ1 (a + 6) u)) →
      WQ mX0_clear d sc (ZV sc (fun μ' => (∀ b j, b < a ∨ a + 11 < b → μ' b j = μ b j) ∧ μ' a 7 = p ∧ μ' a 8 = μ a 8 ∧ μ' a 6 = -1 ∧ DR μ' a [] 0 ∧ HR μ' a [] ∧ (∀ q, 0 ≤ q → q < 6 → μ' (a + 4) q = 0) ∧ (∀ k, 0 ≤ k → k < 10 → μ' (a + 5) k = 0) ∧ NC μ' a P)) 65 [(2, a), (0, (m : Int) - 1)] [] μ1 := by
    intro m
    induction m with
    | zero =>
      intro n μ1 hmn hf hc
      have hg : ∀ b j, b ≠ a + 6 → b ≠ a + 7 → μ1 b j = _ := fun b j q1 q2 => (hf b j q1 q2).trans (f b j)
      refine s_X0_clear_65 ha ⟨fun _ => ⟨fun b j hb => ?_, ?_, ?_, ?_, ⟨⟨fun i hi => by simp at hi, fun u hu hu2 => ⟨?_, fun z hz => by simp [idxF] at hz⟩⟩, ?_⟩, ⟨?_, fun i hi => by simp at hi, fun q q0 q1 => ?_⟩, fun q q0 q1 => ?_, fun k q0 q1 => ?_, ?_⟩, fun z => by omega⟩
      · rw [hf b j (by omega) (by omega)]; exact fo b j hb
      · rw [hf a _ (by omega) (by omega)]; exact f7
      · rw [hg a _ (by omega) (by omega)]; simp; grind
      · rw [hg a _ (by omega) (by omega)]; simp; grind
      · show μ1 (a + 8) u = -1
        rw [hg (a + 8) _ (by omega) (by omega)]; grind
      · rw [hg a _ (by omega) (by omega)]; simp; grind
      · rw [hg a _ (by omega) (by omega)]; simp; grind
      · rw [hg (a + 3) _ (by omega) (by omega)]; simp; grind
      · rw [hg (a + 4) _ (by omega) (by omega)]; grind
      · rw [hg (a + 5) _ (by omega) (by omega)]; grind
      · intro u u0 u1
        have := hc u u0 u1
        rwa [show n = (pN P).toNat by omega] at this
    | succ m ih =>
      intro n μ1 hmn hf hc
      have e : ((m + 1 : Nat) : Int) - 1 = m := by omega
      rw [e]
      have h7 : μ1 a 7 = p := by rw [hf a _ (by omega) (by omega)]; exact f7
      have hX1 : XN μ1 p P := hX13.same (fun b j q1 q2 => hf b j (by have := ap b ⟨q1, by omega⟩; omega) (by have := ap b ⟨q1, by omega⟩; omega))
      have hm := hX1.2 m (by omega) (by omega)
      have hatm := hat m (by omega) (by omega)
      refine s_X0_clear_65 ha ⟨fun z => by omega, fun _ => ?_⟩
      rw [h7]
      refine ⟨hp, by omega, by rw [hm.2.2.1]; exact hatm, by omega, ?_⟩
      rw [hm.2.2.1]
      intro μ6 e6
      have h67 : μ6 a 7 = p := by rw [e6, mup_ap, if_neg (fun z => by omega)]; exact h7
      have hm6 : μ6 (p + 3) m = pAt P m := by rw [e6, mup_ap, if_neg (fun z => by have := ap (p + 3) (by omega); omega)]; exact hm.2.2.1
      rw [h67, hm6]
      refine ⟨hp, by omega, hatm, ?_⟩
      rintro μ10 e10
      refine ⟨by omega, ?_⟩
      rintro _ rfl
      refine ih (n + 1) μ10 (by omega) (fun b j q1 q2 => by rw [e10, mup_ap, if_neg (fun z => q1 z.1), e6, mup_ap, if_neg (fun z => q2 z.1)]; exact hf b j q1 q2) (fun u u0 u1 => ?_)
      have n7 : ∀ j, μ10 (a + 7) j = if j = m then μ1 (a + 6) (pAt P m) else μ1 (a + 7) j := fun j => by
        rw [e10, mup_ap, if_neg (fun z => by omega), e6, mup_ap]; simp
      have n6 : μ10 (a + 6) u = if u = pAt P m then (m : Int) else μ1 (a + 6) u := by
        rw [e10, mup_ap, e6, mup_ap, if_neg (fun z => by omega : ¬ (a + 6 = a + 7 ∧ u = m))]; simp
      have hold := chain_congr (nxt' := μ10 (a + 7)) _ _ (fun x hx => by
        have := ksF_b hx
        rw [n7, if_neg (by omega)]) (hc u u0 u1)
      rw [ksF_cons, n6]
      by_cases hu : pAt P m = u
      · rw [if_pos hu, if_pos hu.symm]
        refine ⟨rfl, ?_⟩
        rw [n7, if_pos rfl, hu]
        exact hold
      · rw [if_neg hu, if_neg (fun z => hu z.symm)]
        exact hold
  have := key (pN P).toNat 0 μ13 (by omega) (fun _ _ _ _ => rfl) (fun u u0 u1 => by
    show μ13 (a + 6) u = -1
    rw [f, if_pos ⟨rfl, u0, u1⟩])
  rwa [show (((pN P).toNat : Nat) : Int) - 1 = pN P - 1 by omega] at this

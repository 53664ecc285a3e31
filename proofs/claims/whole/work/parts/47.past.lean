/-! THE PAST; hills copied and cleared -/
def PS (a : Int) : Prop := 36 ≤ a ∧ a ≤ 90 ∧ a % 6 = 0
theorem PS.k {a : Int} (h : PS a) : isK 6 a := by
  have : a = 36 ∨ a = 42 ∨ a = 48 ∨ a = 54 ∨ a = 60 ∨ a = 66 ∨ a = 72 ∨ a = 78 ∨ a = 84 ∨ a = 90 := by unfold PS at h; omega
  rcases this with rfl | rfl | rfl | rfl | rfl | rfl | rfl | rfl | rfl | rfl
  · exact k_36
  · exact k_42
  · exact k_48
  · exact k_54
  · exact k_60
  · exact k_66
  · exact k_72
  · exact k_78
  · exact k_84
  · exact k_90
def PastR (μ : Mem) (np : Int) (L : List PlanT) : Prop := μ 34 0 = L.length ∧ L.length ≤ 10 ∧ (∀ i, 0 ≤ i → i < 10 → PS (μ 35 i)) ∧ (∀ i j, 0 ≤ i → i < j → j < 10 → μ 35 i ≠ μ 35 j) ∧ ∀ i : Nat, ∀ h : i < L.length, XP μ (μ 35 i) np L[i]
theorem PastR.same {μ μ' : Mem} {np : Int} {L : List PlanT} (h : PastR μ np L) (hs : ∀ b j, 34 ≤ b → b ≤ 95 → μ' b j = μ b j) : PastR μ' np L := by
  obtain ⟨h1, h2, h3, h4, h5⟩ := h
  have e : ∀ i, μ' 35 i = μ 35 i := fun i => hs _ _ (by decide) (by decide)
  refine ⟨by rw [hs _ _ (by decide) (by decide)]; exact h1, h2, fun i i0 i1 => by rw [e]; exact h3 i i0 i1, fun i j i0 i1 i2 => by rw [e, e]; exact h4 i j i0 i1 i2, fun i hi => ?_⟩
  rw [e]
  have := h3 i (by omega) (by omega)
  unfold PS at this
  exact (h5 i hi).same (fun b j q1 q2 => hs b j (by omega) (by omega))
def pushP (L : List PlanT) (P : PlanT) : List PlanT := if L.length < 10 then L ++ [P] else L.tail ++ [P]
theorem ct_forget {d : Nat} {sc : SC} {μ : Mem} {np : Int} {L : List PlanT} (h : PastR μ np L) : CTv mX5_forget d sc [(2, 34)] μ (fun μ' => (∀ b j, (b = 34 → j ≠ 0) → μ' b j = μ b j) ∧ ∀ np, PastR μ' np []) := by
  refine CTv_of mp_X5_forget (Nat.le_of_ble_eq_true rfl) ?_
  refine s_X5_forget_0 ?_
  rintro _ rfl
  obtain ⟨h1, h2, h3, h4, h5⟩ := h
  have e : ∀ i, mup μ 34 0 0 35 i = μ 35 i := fun i => by rw [mup_ap, if_neg (fun z => by omega)]
  refine ⟨fun b j q => by rw [mup_ap, if_neg (fun z => q z.1 z.2)], fun np => ⟨rfl, by simp, fun i i0 i1 => by rw [e]; exact h3 i i0 i1, fun i j i0 i1 i2 => by rw [e, e]; exact h4 i j i0 i1 i2, fun i hi => by simp at hi⟩⟩
/-- the last step of keeping -/
theorem past_keep {μ μ5 : Mem} {np : Int} {L : List PlanT} {P : PlanT} (h : PastR μ np L) (hl : L.length < 10) (hP : XP μ5 (μ 35 L.length) np P) (hf : ∀ b j, b < μ 35 L.length ∨ μ 35 L.length + 5 < b → μ5 b j = μ b j) : PastR (mup μ5 34 0 (μ5 34 0 + 1)) np (L ++ [P]) := by
  obtain ⟨h1, h2, h3, h4, h5⟩ := h
  have hk := h3 L.length (by omega) (by omega)
  have e : ∀ i, mup μ5 34 0 (μ5 34 0 + 1) 35 i = μ 35 i := fun i => by rw [mup_ap, if_neg (fun z => by omega)]; exact hf _ _ (by unfold PS at hk; omega)
  refine ⟨?_, by simp; omega, fun i i0 i1 => by rw [e]; exact h3 i i0 i1, fun i j i0 i1 i2 => by rw [e, e]; exact h4 i j i0 i1 i2, fun i hi => ?_⟩
  · rw [mup_ap, if_pos ⟨rfl, rfl⟩, hf _ _ (by unfold PS at hk; omega), h1]; simp
  · rw [e]
    rw [List.length_append] at hi
    simp at hi
    have hi2 := h3 i (by omega) (by omega)
    by_cases hil : i < L.length
    · rw [List.getElem_append_left hil]
      have hne := h4 i L.length (by omega) (by omega) (by omega)
      exact (h5 i hil).same (fun b j q1 q2 => by
        unfold PS at hi2 hk
        rw [mup_ap, if_neg (fun z => by omega)]
        exact hf b j (by omega))
    · have : i = L.length := by omega
      subst this
      rw [List.getElem_append_right (by omega)]
      simp
      exact hP.same (fun b j q1 q2 => by
        unfold PS at hi2
        rw [mup_ap, if_neg (fun z => by omega)])
theorem ct_keep {d : Nat} {sc : SC} {μ : Mem} {np p : Int} {L : List PlanT} {P : PlanT} (hd : 3 ≤ d) (h : PastR μ np L) (hp : isK 6 p) (hps : p < 36 ∨ 95 < p) (hP : XP μ p np P) (hn : pN P ≤ 10) (hnp : np ≤ 6) :
    CTv mX5_keep d sc [(2, 34), (2, p)] μ (fun μ' => (∀ b j, b < 34 ∨ 95 < b → μ' b j = μ b j) ∧ PastR μ' np (pushP L P)) := by
  have hpv := ik_6 hp
  refine CTv_of mp_X5_keep (Nat.le_of_ble_eq_true rfl) ?_
  refine s_X5_keep_0 hp ⟨fun hl => ?_, fun hl => ?_⟩
  · obtain ⟨h1, h2, h3, h4, h5⟩ := id h
    rw [h1] at hl ⊢
    have hk := h3 L.length (by omega) (by omega)
    refine ⟨by omega, hk.k, byV (d' := 2) (by omega) (ct_copyPlan (Nat.le_refl _) hk.k hp (by unfold PS at hk; omega)) ?_⟩
    rintro μ5 ⟨c1, c2⟩
    have hpk := past_keep h (by omega) (c2 np P hP hn hnp) c1
    have h50 : μ5 34 0 = L.length := by rw [c1 _ _ (by unfold PS at hk; omega)]; exact h1
    refine ⟨by omega, ?_⟩
    rintro _ rfl
    refine ⟨fun b j q => ?_, ?_⟩
    · unfold PS at hk
      rw [mup_ap, if_neg (fun z => by omega)]
      exact c1 b j (by omega)
    · unfold pushP
      rw [if_pos (by omega)]
      exact hpk
  · obtain ⟨h1, h2, h3, h4, h5⟩ := id h
    have hL : L.length = 10 := by omega
    have hk0 := h3 0 (by decide) (by decide)
    have key : ∀ (r : Nat) (k : Int) (μ1 : Mem), k + r = 10 → 1 ≤ k → (∀ b j, b ≠ 35 → μ1 b j = μ b j) → (∀ i, 0 ≤ i → i < 10 → μ1 35 i = if i < k - 1 then μ 35 (i + 1) else μ 35 i) →
        WQ mX5_keep d sc (ZV sc (fun μ' => (∀ b j, b < 34 ∨ 95 < b → μ' b j = μ b j) ∧ PastR μ' np (pushP L P))) 18 [(2, 34), (2, p), (2, μ 35 0), (0, k)] [] μ1 := by
      intro r
      induction r with
      | zero =>
        intro k μ1 hk hk1 hf hr
        refine s_X5_keep_18 hp hk0.k ⟨fun _ => ?_, fun z => by omega⟩
        intro μ3 e3 μ4 e4
        have hne0 : ∀ i, 0 < i → i < 10 → μ 35 0 ≠ μ 35 i := fun i i0 i1 => h4 0 i (by decide) i0 i1
        have a4 : ∀ i, 0 ≤ i → i < 10 → μ4 35 i = if i < 9 then μ 35 (i + 1) else μ 35 0 := fun i i0 i1 => by
          rw [e4, mup_ap, if_neg (fun z => by omega), e3, mup_ap]
          by_cases hi : i = 9
          · rw [if_pos ⟨rfl, hi⟩, if_neg (by omega)]
          · rw [if_neg (fun z => hi z.2), hr i i0 i1, if_pos (by omega), if_pos (by omega)]
        have f4 : ∀ b j, b ≠ 35 → b ≠ 34 → μ4 b j = μ b j := fun b j q1 q2 => by rw [e4, mup_ap, if_neg (fun z => q2 z.1), e3, mup_ap, if_neg (fun z => q1 z.1)]; exact hf b j q1
        have h40 : μ4 34 0 = 9 := by rw [e4, mup_ap, if_pos ⟨rfl, rfl⟩]
        have hR : PastR μ4 np L.tail := by
          refine ⟨by rw [h40, List.length_tail, hL]; rfl, by rw [List.length_tail]; omega, fun i i0 i1 => ?_, fun i j i0 i1 i2 => ?_, fun i hi => ?_⟩
          · rw [a4 i i0 i1]
            split
            · exact h3 _ (by omega) (by omega)
            · exact hk0
          · rw [a4 i i0 (by omega), a4 j (by omega) i2, if_pos (by omega)]
            split
            · exact h4 _ _ (by omega) (by omega) (by omega)
            · exact fun z => hne0 (i + 1) (by omega) (by omega) z.symm
          · rw [List.length_tail] at hi
            rw [a4 i (by omega) (by omega), if_pos (by omega), List.getElem_tail]
            have := h5 (i + 1) (by omega)
            rw [show ((i + 1 : Nat) : Int) = (i : Int) + 1 from rfl] at this
            have hpi := h3 (i + 1) (by omega) (by omega)
            unfold PS at hpi
            exact this.same (fun b j q1 q2 => f4 b j (by omega) (by omega))
        have ht : L.tail.length = 9 := by rw [List.length_tail, hL]
        rw [h40]
        have h49 : μ4 35 9 = μ 35 0 := by rw [a4 9 (by decide) (by decide), if_neg (by decide)]
        rw [h49]
        refine ⟨by decide, hk0.k, byV (d' := 2) (by omega) (ct_copyPlan (Nat.le_refl _) hk0.k hp (by unfold PS at hk0; omega)) ?_⟩
        rintro μ8 ⟨c1, c2⟩
        have hP4 : XP μ4 p np P := hP.same (fun b j q1 q2 => f4 b j (by omega) (by omega))
        have hpk := past_keep (P := P) (μ5 := μ8) hR (by omega) (by rw [ht]; show XP μ8 (μ4 35 9) np P; rw [h49]; exact c2 np P hP4 hn hnp) (by rw [ht]; show ∀ b j, b < μ4 35 9 ∨ μ4 35 9 + 5 < b → μ8 b j = μ4 b j; rw [h49]; exact c1)
        have h80 : μ8 34 0 = 9 := by rw [c1 _ _ (by unfold PS at hk0; omega)]; exact h40
        refine ⟨by omega, ?_⟩
        rintro _ rfl
        refine ⟨fun b j q => ?_, ?_⟩
        · unfold PS at hk0
          rw [mup_ap, if_neg (fun z => by omega), c1 b j (by omega)]
          exact f4 b j (by omega) (by omega)
        · unfold pushP
          rw [if_neg (by omega)]
          exact hpk
      | succ r ih =>
        intro k μ1 hk hk1 hf hr
        have hrk : μ1 35 k = μ 35 k := by rw [hr k (by omega) (by omega), if_neg (by omega)]
        refine s_X5_keep_18 hp hk0.k ⟨fun z => by omega, fun _ => ?_⟩
        rw [hrk]
        refine ⟨by omega, by omega, (h3 k (by omega) (by omega)).k, by omega, ?_⟩
        intro μ14 e14
        refine ⟨by omega, ?_⟩
        rintro _ rfl
        refine ih (k + 1) μ14 (by omega) (by omega) (fun b j q => by rw [e14, mup_ap, if_neg (fun z => q z.1)]; exact hf b j q) (fun i i0 i1 => ?_)
        rw [e14, mup_ap]
        by_cases hi : i = k - 1
        · rw [if_pos ⟨rfl, hi⟩, if_pos (by omega), hi, show k - 1 + 1 = k by omega]
        · rw [if_neg (fun z => hi z.2), hr i i0 i1]
          by_cases hi2 : i < k - 1
          · rw [if_pos hi2, if_pos (by omega)]
          · rw [if_neg hi2, if_neg (by omega)]
    exact key 9 1 μ (by decide) (by decide) (fun _ _ _ => rfl) (fun i i0 i1 => by rw [if_neg (by omega)])
def planDef : PlanT := (0, fun _ => 0, fun _ => 0, fun _ => 0, fun _ => 0, fun _ => 0, 0)
theorem ct_takeBack {d : Nat} {sc : SC} {μ : Mem} {np p n : Int} {L : List PlanT} (hd : 3 ≤ d) (h : PastR μ np L) (hp : isK 6 p) (hps : p < 36 ∨ 95 < p) (hn : 1 ≤ n ∧ n ≤ L.length) (hw : ∀ P ∈ L, pN P ≤ 10) (hnp : np ≤ 6) :
    CTv mX5_takeBack d sc [(2, 34), (0, n), (2, p)] μ (fun μ' => (∀ b j, (b = 34 → j ≠ 0) → b < p ∨ p + 5 < b → μ' b j = μ b j) ∧ PastR μ' np (L.take (L.length - n.toNat)) ∧ XP μ' p np (L.getD (L.length - n.toNat) planDef)) := by
  have hpv := ik_6 hp
  obtain ⟨h1, h2, h3, h4, h5⟩ := id h
  have hlt : L.length - n.toNat < L.length := by omega
  have hk := h3 (L.length - n.toNat : Nat) (by omega) (by omega)
  have ecast : ((L.length - n.toNat : Nat) : Int) = L.length - n := by omega
  refine CTv_of mp_X5_takeBack (Nat.le_of_ble_eq_true rfl) ?_
  refine s_X5_takeBack_0 hp ⟨fun z => by omega, fun _ => ⟨fun _ => ?_, fun z => by omega⟩⟩
  rw [h1]
  refine ⟨by omega, ?_⟩
  intro μ4 e4
  have f4 : ∀ b j, (b = 34 → j ≠ 0) → μ4 b j = μ b j := fun b j q => by rw [e4, mup_ap, if_neg (fun z => q z.1 z.2)]
  have h40 : μ4 34 0 = ((L.length - n.toNat : Nat) : Int) := by rw [e4, mup_ap, if_pos ⟨rfl, rfl⟩, ecast]
  rw [h40, f4 35 _ (by omega)]
  refine ⟨by omega, byV (d' := 2) (by omega) (ct_copyPlan (Nat.le_refl _) hp hk.k (by unfold PS at hk; omega)) ?_⟩
  rintro μ7 ⟨c1, c2⟩
  have hgd : L.getD (L.length - n.toNat) planDef = L[L.length - n.toNat] := by simp [List.getD, hlt]
  refine ⟨fun b j q1 q2 => by rw [c1 b j q2]; exact f4 b j q1, ?_, ?_⟩
  · have hm : PastR μ4 np (L.take (L.length - n.toNat)) := by
      refine ⟨by rw [h40, List.length_take]; omega, by rw [List.length_take]; omega, fun i i0 i1 => by rw [f4 35 _ (by omega)]; exact h3 i i0 i1, fun i j i0 i1 i2 => by rw [f4 35 _ (by omega), f4 35 _ (by omega)]; exact h4 i j i0 i1 i2, fun i hi => ?_⟩
      rw [List.length_take] at hi
      have hpi := h3 i (by omega) (by omega)
      unfold PS at hpi
      rw [f4 35 _ (by omega), List.getElem_take]
      exact (h5 i (by omega)).same (fun b j q1 q2 => f4 b j (by omega))
    exact hm.same (fun b j q1 q2 => c1 b j (by omega))
  · rw [hgd]
    unfold PS at hk
    exact c2 np _ ((h5 _ hlt).same (fun b j q1 q2 => f4 b j (by omega))) (hw _ (List.getElem_mem hlt)) hnp
/-! hills -/
theorem apart1 {a b : Int} (ha : isK 1 a) (hb : isK 1 b) (hne : a ≠ b) : a + 13 ≤ b ∨ b + 13 ≤ a := by
  have h1 := ik_1 ha
  have h2 := ik_1 hb
  omega
theorem ct_copyHill {d : Nat} {sc : SC} {μ : Mem} {a b : Int} (hd : 3 ≤ d) (ha : isK 1 a) (hb : isK 1 b) (hne : a ≠ b) :
    CTv mX1_copyFrom d sc [(2, a), (2, b)] μ (fun μ' => (∀ c j, c < a ∨ a + 12 < c → μ' c j = μ c j) ∧ (∀ H, XH μ b H → hP H ≤ 6 → XH μ' a H) ∧ ∀ np P, XP μ (b + 7) np P → pN P ≤ 10 → np ≤ 6 → XP μ' (a + 7) np P) := by
  have ap := apart1 ha hb hne
  refine CTv_of mp_X1_copyFrom (Nat.le_of_ble_eq_true rfl) ?_
  refine s_X1_copyFrom_0 (by omega) ha hb ?_
  intro μ1 e1 μ2 e2 μ3 e3 μ4 e4 μ6 e6 μ8 e8 μ10 e10 μ12 e12 μ14 e14 μ16 e16
  have hf : ∀ c j, c < a ∨ a + 6 < c → μ16 c j = μ c j := fun c j q => by
    rw [e16, mcp_ap, if_neg (fun z => by omega), e14, mcp_ap, if_neg (fun z => by omega), e12, mcp_ap, if_neg (fun z => by omega), e10, mcp_ap, if_neg (fun z => by omega), e8, mcp_ap, if_neg (fun z => by omega), e6, mcp_ap, if_neg (fun z => by omega), e4, mup_ap, if_neg (fun z => by omega), e3, mup_ap, if_neg (fun z => by omega), e2, mup_ap, if_neg (fun z => by omega), e1, mup_ap, if_neg (fun z => by omega)]
  have s1 : ∀ c j, b ≤ c → c ≤ b + 6 → μ1 c j = μ c j := fun c j q1 q2 => by rw [e1, mup_ap, if_neg (fun z => by omega)]
  have s2 : ∀ c j, b ≤ c → c ≤ b + 6 → μ2 c j = μ c j := fun c j q1 q2 => by rw [e2, mup_ap, if_neg (fun z => by omega)]; exact s1 c j q1 q2
  have s3 : ∀ c j, b ≤ c → c ≤ b + 6 → μ3 c j = μ c j := fun c j q1 q2 => by rw [e3, mup_ap, if_neg (fun z => by omega)]; exact s2 c j q1 q2
  have s4 : ∀ c j, b ≤ c → c ≤ b + 6 → μ4 c j = μ c j := fun c j q1 q2 => by rw [e4, mup_ap, if_neg (fun z => by omega)]; exact s3 c j q1 q2
  have s6 : ∀ c j, b ≤ c → c ≤ b + 6 → μ6 c j = μ c j := fun c j q1 q2 => by rw [e6, mcp_ap, if_neg (fun z => by omega)]; exact s4 c j q1 q2
  have s8 : ∀ c j, b ≤ c → c ≤ b + 6 → μ8 c j = μ c j := fun c j q1 q2 => by rw [e8, mcp_ap, if_neg (fun z => by omega)]; exact s6 c j q1 q2
  have s10 : ∀ c j, b ≤ c → c ≤ b + 6 → μ10 c j = μ c j := fun c j q1 q2 => by rw [e10, mcp_ap, if_neg (fun z => by omega)]; exact s8 c j q1 q2
  have s12 : ∀ c j, b ≤ c → c ≤ b + 6 → μ12 c j = μ c j := fun c j q1 q2 => by rw [e12, mcp_ap, if_neg (fun z => by omega)]; exact s10 c j q1 q2
  have s14 : ∀ c j, b ≤ c → c ≤ b + 6 → μ14 c j = μ c j := fun c j q1 q2 => by rw [e14, mcp_ap, if_neg (fun z => by omega)]; exact s12 c j q1 q2
  have s16 : ∀ c j, b ≤ c → c ≤ b + 6 → μ16 c j = μ c j := fun c j q1 q2 => by rw [e16, mcp_ap, if_neg (fun z => by omega)]; exact s14 c j q1 q2
  have h16 : ∀ H, XH μ b H → hP H ≤ 6 → XH μ16 a H := by
    rintro H ⟨q1, q2, q3, q4, q5, q6⟩ h6
    have v : μ16 a 0 = μ b 0 ∧ μ16 a 1 = μ b 1 ∧ μ16 a 2 = μ b 2 ∧ μ16 a 3 = μ b 3 := by
      refine ⟨?_, ?_, ?_, ?_⟩
      · rw [e16, mcp_ap, if_neg (fun z => by omega), e14, mcp_ap, if_neg (fun z => by omega), e12, mcp_ap, if_neg (fun z => by omega), e10, mcp_ap, if_neg (fun z => by omega), e8, mcp_ap, if_neg (fun z => by omega), e6, mcp_ap, if_neg (fun z => by omega), e4, mup_ap, if_neg (fun z => by omega), e3, mup_ap, if_neg (fun z => by omega), e2, mup_ap, if_neg (fun z => by omega), e1, mup_ap, if_pos (by omega)]
      · rw [e16, mcp_ap, if_neg (fun z => by omega), e14, mcp_ap, if_neg (fun z => by omega), e12, mcp_ap, if_neg (fun z => by omega), e10, mcp_ap, if_neg (fun z => by omega), e8, mcp_ap, if_neg (fun z => by omega), e6, mcp_ap, if_neg (fun z => by omega), e4, mup_ap, if_neg (fun z => by omega), e3, mup_ap, if_neg (fun z => by omega), e2, mup_ap, if_pos (by omega)]; exact s1 _ _ (by omega) (by omega)
      · rw [e16, mcp_ap, if_neg (fun z => by omega), e14, mcp_ap, if_neg (fun z => by omega), e12, mcp_ap, if_neg (fun z => by omega), e10, mcp_ap, if_neg (fun z => by omega), e8, mcp_ap, if_neg (fun z => by omega), e6, mcp_ap, if_neg (fun z => by omega), e4, mup_ap, if_neg (fun z => by omega), e3, mup_ap, if_pos (by omega)]; exact s2 _ _ (by omega) (by omega)
      · rw [e16, mcp_ap, if_neg (fun z => by omega), e14, mcp_ap, if_neg (fun z => by omega), e12, mcp_ap, if_neg (fun z => by omega), e10, mcp_ap, if_neg (fun z => by omega), e8, mcp_ap, if_neg (fun z => by omega), e6, mcp_ap, if_neg (fun z => by omega), e4, mup_ap, if_pos (by omega)]; exact s3 _ _ (by omega) (by omega)
    have v1 : ∀ j, 0 ≤ j → j < 6 → μ16 (a + 1) j = μ (b + 1) j ∧ μ16 (a + 2) j = μ (b + 2) j ∧ μ16 (a + 3) j = μ (b + 3) j := fun j j0 j1 => by
      refine ⟨?_, ?_, ?_⟩
      · rw [e16, mcp_ap, if_neg (fun z => by omega), e14, mcp_ap, if_neg (fun z => by omega), e12, mcp_ap, if_neg (fun z => by omega), e10, mcp_ap, if_neg (fun z => by omega), e8, mcp_ap, if_neg (fun z => by omega), e6, mcp_ap, if_pos (by omega)]; exact s4 _ _ (by omega) (by omega)
      · rw [e16, mcp_ap, if_neg (fun z => by omega), e14, mcp_ap, if_neg (fun z => by omega), e12, mcp_ap, if_neg (fun z => by omega), e10, mcp_ap, if_neg (fun z => by omega), e8, mcp_ap, if_pos (by omega)]; exact s6 _ _ (by omega) (by omega)
      · rw [e16, mcp_ap, if_neg (fun z => by omega), e14, mcp_ap, if_neg (fun z => by omega), e12, mcp_ap, if_neg (fun z => by omega), e10, mcp_ap, if_pos (by omega)]; exact s8 _ _ (by omega) (by omega)
    have v4 : ∀ j, 0 ≤ j → j < 900 → μ16 (a + 4) j = μ (b + 4) j := fun j j0 j1 => by
      rw [e16, mcp_ap, if_neg (fun z => by omega), e14, mcp_ap, if_neg (fun z => by omega), e12, mcp_ap, if_pos (by omega)]; exact s10 _ _ (by omega) (by omega)
    have v5 : ∀ j, 0 ≤ j → j < 3 → μ16 (a + 5) j = μ (b + 5) j ∧ μ16 (a + 6) j = μ (b + 6) j := fun j j0 j1 => by
      refine ⟨?_, ?_⟩
      · rw [e16, mcp_ap, if_neg (fun z => by omega), e14, mcp_ap, if_pos (by omega)]; exact s12 _ _ (by omega) (by omega)
      · rw [e16, mcp_ap, if_pos (by omega)]; exact s14 _ _ (by omega) (by omega)
    refine ⟨by rw [v.1]; exact q1, by rw [v.2.1]; exact q2, by rw [v.2.2.1]; exact q3, by rw [v.2.2.2]; exact q4, fun q z0 z1 => ?_, fun l l0 l1 => ⟨?_, fun k k0 k1 => ?_⟩⟩
    · obtain ⟨w1, w2, w3⟩ := v1 q z0 (by omega)
      rw [w1, w2, w3]
      exact q5 q z0 z1
    · obtain ⟨w1, w2⟩ := v5 l l0 l1
      rw [w1, w2]
      exact (q6 l l0 l1).1
    · obtain ⟨w1, w2⟩ := v5 l l0 l1
      have := (q6 l l0 l1).1
      rw [w1, v4 _ (by omega) (by omega)]
      exact (q6 l l0 l1).2 k k0 k1
  have k7 : isK 6 (a + 7) := kf_1_10 ha
  have k7b : isK 6 (b + 7) := kf_1_10 hb
  refine byV (d' := 2) (by omega) (ct_copyPlan (Nat.le_refl _) k7 k7b (by omega)) ?_
  rintro μ18 ⟨c1, c2⟩
  refine ⟨fun c j q => by rw [c1 c j (by omega)]; exact hf c j (by omega), fun H hH h6 => (h16 H hH h6).same (fun c j q1 q2 => c1 c j (by omega)), fun np P hP hn hnp => c2 np P (hP.same (fun c j q1 q2 => hf c j (by omega))) hn hnp⟩

/-! PLANS: copy, add, take out; the past -/
def addN (P : PlanT) (who whom t s : Int) : PlanT := (pN P + 1, (fun k => if k = pN P then who else pWho P k), (fun k => if k = pN P then whom else pWhom P k), (fun k => if k = pN P then t else pAt P k), (fun k => if k = pN P then s else pSure P k), pCell P, pWind P)
def dropN (P : PlanT) (i : Int) : PlanT := (pN P - 1, (fun k => if k < i then pWho P k else pWho P (k + 1)), (fun k => if k < i then pWhom P k else pWhom P (k + 1)), (fun k => if k < i then pAt P k else pAt P (k + 1)), (fun k => if k < i then pSure P k else pSure P (k + 1)), pCell P, pWind P)
def moveC (P : PlanT) (p c : Int) : PlanT := (pN P, pWho P, pWhom P, pAt P, pSure P, (fun q => if q = p then c else pCell P q), pWind P)
def windP (P : PlanT) (w : Int) : PlanT := (pN P, pWho P, pWhom P, pAt P, pSure P, pCell P, w)
def cutN (P : PlanT) (n : Int) : PlanT := (n, pWho P, pWhom P, pAt P, pSure P, pCell P, pWind P)
theorem apart6 {p q : Int} (hp : isK 6 p) (hq : isK 6 q) (hne : p ≠ q) : p + 6 ≤ q ∨ q + 6 ≤ p := by
  have h1 := ik_6 hp
  have h2 := ik_6 hq
  omega
theorem ct_copyPlan {d : Nat} {sc : SC} {μ : Mem} {p q : Int} (hd : 2 ≤ d) (hp : isK 6 p) (hq : isK 6 q) (hne : p ≠ q) :
    CTv mX6_copyFrom d sc [(2, p), (2, q)] μ (fun μ' => (∀ b j, b < p ∨ p + 5 < b → μ' b j = μ b j) ∧ ∀ np P, XP μ q np P → pN P ≤ 10 → np ≤ 6 → XP μ' p np P) := by
  have ap := apart6 hp hq hne
  refine CTv_of mp_X6_copyFrom (Nat.le_of_ble_eq_true rfl) ?_
  refine s_X6_copyFrom_0 hd hp hq ?_
  rintro _ rfl _ rfl _ rfl _ rfl _ rfl _ rfl _ rfl
  refine ⟨fun b j h => ?_, fun np P hX hn hnp => ⟨?_, fun k k0 k1 => ⟨?_, ?_, ?_, ?_⟩, fun c c0 c1 => ?_, ?_⟩⟩
  · simp only [mup_ap, mcp_ap]
    repeat (rw [if_neg (fun z => by omega)])
  · have := hX.1
    simp only [mup_ap, mcp_ap]
    grind
  · have := hX.2.1 k k0 k1
    simp only [mup_ap, mcp_ap]
    grind
  · have := hX.2.1 k k0 k1
    simp only [mup_ap, mcp_ap]
    grind
  · have := hX.2.1 k k0 k1
    simp only [mup_ap, mcp_ap]
    grind
  · have := hX.2.1 k k0 k1
    simp only [mup_ap, mcp_ap]
    grind
  · have := hX.2.2.1 c c0 c1
    simp only [mup_ap, mcp_ap]
    grind
  · have := hX.2.2.2
    simp only [mup_ap, mcp_ap]
    grind
/-- what adding does to the rows -/
theorem ct_add {d : Nat} {sc : SC} {μ : Mem} {p w v t s : Int} (hp : isK 6 p) (hn : 0 ≤ μ p 0 ∧ μ p 0 < 10) :
    CTv mX6_add d sc [(2, p), (0, w), (0, v), (0, t), (0, s)] μ (fun μ' => (∀ b j, b < p ∨ p + 4 < b → μ' b j = μ b j) ∧ (∀ j, j ≠ 0 → μ' p j = μ p j) ∧ μ' p 0 = μ p 0 + 1 ∧ ∀ j, μ' (p + 1) j = (if j = μ p 0 then w else μ (p + 1) j) ∧ μ' (p + 2) j = (if j = μ p 0 then v else μ (p + 2) j) ∧ μ' (p + 3) j = (if j = μ p 0 then t else μ (p + 3) j) ∧ μ' (p + 4) j = if j = μ p 0 then s else μ (p + 4) j) := by
  refine CTv_of mp_X6_add (Nat.le_of_ble_eq_true rfl) ?_
  refine s_X6_add_0 hp ⟨fun z => by omega, fun _ => ⟨fun _ => ⟨hn, ?_⟩, fun z => by omega⟩⟩
  have e0 : ∀ (μ1 : Mem) (i x y : Int), i ≠ 0 → mup μ1 (p + i) x y p 0 = μ1 p 0 := fun μ1 i x y hi => by rw [mup_ap, if_neg (fun z => by omega)]
  intro μ4 e4
  have h4 : μ4 p 0 = μ p 0 := by rw [e4]; exact e0 _ _ _ _ (by decide)
  rw [h4]
  refine ⟨hn, ?_⟩
  intro μ6 e6
  have h6 : μ6 p 0 = μ p 0 := by rw [e6, e0 _ _ _ _ (by decide)]; exact h4
  rw [h6]
  refine ⟨hn, ?_⟩
  intro μ8 e8
  have h8 : μ8 p 0 = μ p 0 := by rw [e8, e0 _ _ _ _ (by decide)]; exact h6
  rw [h8]
  refine ⟨hn, ?_⟩
  intro μ10 e10
  have h10 : μ10 p 0 = μ p 0 := by rw [e10, e0 _ _ _ _ (by decide)]; exact h8
  rw [h10]
  refine ⟨by omega, ?_⟩
  rintro _ rfl
  refine ⟨fun b j q => ?_, fun j hj => ?_, ?_, fun j => ⟨?_, ?_, ?_, ?_⟩⟩
  · rw [mup_ap, if_neg (fun z => by omega), e10, mup_ap, if_neg (fun z => by omega), e8, mup_ap, if_neg (fun z => by omega), e6, mup_ap, if_neg (fun z => by omega), e4, mup_ap, if_neg (fun z => by omega)]
  · rw [mup_ap, if_neg (fun z => by omega), e10, mup_ap, if_neg (fun z => by omega), e8, mup_ap, if_neg (fun z => by omega), e6, mup_ap, if_neg (fun z => by omega), e4, mup_ap, if_neg (fun z => by omega)]
  · rw [mup_ap, if_pos ⟨rfl, rfl⟩]
  all_goals
    simp only [e10, e8, e6, e4, mup_ap]
    grind
theorem XP.add {μ μ' : Mem} {p np w v t s : Int} {P : PlanT} (hX : XP μ p np P) (h1 : ∀ b j, b < p ∨ p + 4 < b → μ' b j = μ b j) (h2 : ∀ j, j ≠ 0 → μ' p j = μ p j) (h3 : μ' p 0 = μ p 0 + 1) (h4 : ∀ j, μ' (p + 1) j = (if j = μ p 0 then w else μ (p + 1) j) ∧ μ' (p + 2) j = (if j = μ p 0 then v else μ (p + 2) j) ∧ μ' (p + 3) j = (if j = μ p 0 then t else μ (p + 3) j) ∧ μ' (p + 4) j = if j = μ p 0 then s else μ (p + 4) j) : XP μ' p np (addN P w v t s) := by
  obtain ⟨q1, q2, q3, q4⟩ := hX
  refine ⟨by rw [h3, q1]; rfl, fun k k0 k1 => ?_, fun c c0 c1 => by rw [h1 _ _ (by omega)]; exact q3 c c0 c1, by rw [h2 _ (by decide)]; exact q4⟩
  have k1 : k < pN P + 1 := k1
  obtain ⟨r1, r2, r3, r4⟩ := h4 k
  rw [r1, r2, r3, r4, q1]
  by_cases hk : k = pN P
  · subst hk; simp [addN, pWho, pWhom, pAt, pSure]
  · have := q2 k k0 (by omega)
    simp only [hk, if_false]
    rw [this.1, this.2.1, this.2.2.1, this.2.2.2]
    have e : ∀ (f : Int → Int) (x : Int), (if k = pN P then x else f k) = f k := fun f x => if_neg hk
    exact ⟨(e _ _).symm, (e _ _).symm, (e _ _).symm, (e _ _).symm⟩
theorem XN.add {μ μ' : Mem} {p w v t s : Int} {P : PlanT} (hX : XN μ p P) (h3 : μ' p 0 = μ p 0 + 1) (h4 : ∀ j, μ' (p + 1) j = (if j = μ p 0 then w else μ (p + 1) j) ∧ μ' (p + 2) j = (if j = μ p 0 then v else μ (p + 2) j) ∧ μ' (p + 3) j = (if j = μ p 0 then t else μ (p + 3) j) ∧ μ' (p + 4) j = if j = μ p 0 then s else μ (p + 4) j) : XN μ' p (addN P w v t s) := by
  obtain ⟨q1, q2⟩ := hX
  refine ⟨by rw [h3, q1]; rfl, fun k k0 k1 => ?_⟩
  have k1 : k < pN P + 1 := k1
  obtain ⟨r1, r2, r3, r4⟩ := h4 k
  rw [r1, r2, r3, r4, q1]
  by_cases hk : k = pN P
  · subst hk; simp [addN, pWho, pWhom, pAt, pSure]
  · have := q2 k k0 (by omega)
    simp only [hk, if_false]
    rw [this.1, this.2.1, this.2.2.1, this.2.2.2]
    have e : ∀ (f : Int → Int) (x : Int), (if k = pN P then x else f k) = f k := fun f x => if_neg hk
    exact ⟨(e _ _).symm, (e _ _).symm, (e _ _).symm, (e _ _).symm⟩
theorem ct_remove {d : Nat} {sc : SC} {μ : Mem} {p np i : Int} {P : PlanT} (hp : isK 6 p) (hX : XP μ p np P) (hn : pN P ≤ 10) (hi : 0 ≤ i ∧ i < pN P) :
    CTv mX6_remove d sc [(2, p), (0, i)] μ (fun μ' => (∀ b j, b < p ∨ p + 4 < b → μ' b j = μ b j) ∧ XP μ' p np (dropN P i)) := by
  obtain ⟨q1, q2, q3, q4⟩ := hX
  refine CTv_of mp_X6_remove (Nat.le_of_ble_eq_true rfl) ?_
  refine s_X6_remove_0 hp ?_
  have key : ∀ (r : Nat) (k : Int) (μ1 : Mem), k + r + 1 = pN P → i ≤ k → (∀ b j, b < p + 1 ∨ p + 4 < b → μ1 b j = μ b j) → (∀ j, 0 ≤ j → j < pN P → μ1 (p + 1) j = (if i ≤ j ∧ j < k then pWho P (j + 1) else pWho P j) ∧ μ1 (p + 2) j = (if i ≤ j ∧ j < k then pWhom P (j + 1) else pWhom P j) ∧ μ1 (p + 3) j = (if i ≤ j ∧ j < k then pAt P (j + 1) else pAt P j) ∧ μ1 (p + 4) j = (if i ≤ j ∧ j < k then pSure P (j + 1) else pSure P j)) →
      WQ mX6_remove d sc (ZV sc (fun μ' => (∀ b j, b < p ∨ p + 4 < b → μ' b j = μ b j) ∧ XP μ' p np (dropN P i))) 2 [(2, p), (9, 0), (0, k)] [] μ1 := by
    intro r
    induction r with
    | zero =>
      intro k μ1 hk hik hf hr
      have h0 : μ1 p 0 = pN P := by rw [hf _ _ (by omega)]; exact q1
      refine s_X6_remove_2 hp ⟨fun z => by omega, fun _ => ⟨by omega, fun _ => ⟨by omega, ?_⟩, fun z => by omega⟩⟩
      rintro _ rfl
      refine ⟨fun b j q => ?_, ?_, fun j j0 j1 => ?_, fun c c0 c1 => ?_, ?_⟩
      · rw [mup_ap, if_neg (fun z => by omega)]; exact hf b j (by omega)
      · rw [mup_ap, if_pos ⟨rfl, rfl⟩, h0]; rfl
      · have j1 : j < pN P - 1 := j1
        obtain ⟨w1, w2, w3, w4⟩ := hr j j0 (by omega)
        rw [mup_ap, if_neg (fun z => by omega), mup_ap, if_neg (fun z => by omega), mup_ap, if_neg (fun z => by omega), mup_ap, if_neg (fun z => by omega), w1, w2, w3, w4]
        have e : ∀ f : Int → Int, (if i ≤ j ∧ j < k then f (j + 1) else f j) = if j < i then f j else f (j + 1) := fun f => by
          by_cases hj : j < i
          · rw [if_pos hj, if_neg (fun z => by omega)]
          · rw [if_neg hj, if_pos (by omega)]
        exact ⟨e _, e _, e _, e _⟩
      · rw [mup_ap, if_neg (fun z => by omega), hf _ _ (by omega)]; exact q3 c c0 c1
      · rw [mup_ap, if_neg (fun z => by omega), hf _ _ (by omega)]; exact q4
    | succ r ih =>
      intro k μ1 hk hik hf hr
      have h0 : μ1 p 0 = pN P := by rw [hf _ _ (by omega)]; exact q1
      refine s_X6_remove_2 hp ⟨fun z => by omega, fun _ => ⟨by omega, fun z => by omega, fun _ => ⟨by omega, by omega, by omega, ?_⟩⟩⟩
      intro μ11 e11
      refine ⟨by omega, by omega, by omega, ?_⟩
      intro μ15 e15
      refine ⟨by omega, by omega, by omega, ?_⟩
      intro μ19 e19
      refine ⟨by omega, by omega, by omega, ?_⟩
      intro μ23 e23
      refine ⟨by omega, ?_⟩
      rintro _ rfl
      have hx := hr (k + 1) (by omega) (by omega)
      have e : ∀ f : Int → Int, (if i ≤ k + 1 ∧ k + 1 < k then f (k + 1 + 1) else f (k + 1)) = f (k + 1) := fun f => if_neg (fun z => by omega)
      rw [e, e, e, e] at hx
      refine ih (k + 1) μ23 (by omega) (by omega) (fun b j q => ?_) (fun j j0 j1 => ?_)
      · rw [e23, mup_ap, if_neg (fun z => by omega), e19, mup_ap, if_neg (fun z => by omega), e15, mup_ap, if_neg (fun z => by omega), e11, mup_ap, if_neg (fun z => by omega)]
        exact hf b j q
      · obtain ⟨w1, w2, w3, w4⟩ := hr j j0 j1
        have s1 : μ23 (p + 1) j = if j = k then pWho P (k + 1) else μ1 (p + 1) j := by
          rw [← hx.1]; simp only [e23, e19, e15, e11, mup_ap]; grind
        have s2 : μ23 (p + 2) j = if j = k then pWhom P (k + 1) else μ1 (p + 2) j := by
          rw [← hx.2.1]; simp only [e23, e19, e15, e11, mup_ap]; grind
        have s3 : μ23 (p + 3) j = if j = k then pAt P (k + 1) else μ1 (p + 3) j := by
          rw [← hx.2.2.1]; simp only [e23, e19, e15, e11, mup_ap]; grind
        have s4 : μ23 (p + 4) j = if j = k then pSure P (k + 1) else μ1 (p + 4) j := by
          rw [← hx.2.2.2]; simp only [e23, e19, e15, e11, mup_ap]; grind
        have e : ∀ (f : Int → Int) (y : Int), y = (if i ≤ j ∧ j < k then f (j + 1) else f j) → (if j = k then f (k + 1) else y) = if i ≤ j ∧ j < k + 1 then f (j + 1) else f j := fun f y hy => by
          by_cases hj : j = k
          · rw [if_pos hj, if_pos (by omega), hj]
          · rw [if_neg hj, hy]
            by_cases hj2 : i ≤ j ∧ j < k
            · rw [if_pos hj2, if_pos (by omega)]
            · rw [if_neg hj2, if_neg (fun z => by omega)]
        rw [s1, s2, s3, s4]
        exact ⟨e _ _ w1, e _ _ w2, e _ _ w3, e _ _ w4⟩
  refine key (pN P - 1 - i).toNat i μ (by omega) (Int.le_refl _) (fun _ _ _ => rfl) (fun j j0 j1 => ?_)
  have e : ∀ f : Int → Int, (if i ≤ j ∧ j < i then f (j + 1) else f j) = f j := fun f => if_neg (fun z => by omega)
  rw [e, e, e, e]
  exact q2 j j0 j1

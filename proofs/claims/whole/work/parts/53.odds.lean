/-! CHANCES: some of the namings told -/
def bitN (x k : Int) : Bool := decide (iAnd (iShr x k) 1 ≠ 0)
def someN (P : PlanT) (x : Int) : Nat → PlanT
  | 0 => planDef
  | k + 1 => if bitN x k = true then addN (someN P x k) (pWho P k) (pWhom P k) (pAt P k) 10 else someN P x k
def wtN (P : PlanT) (x : Int) : Nat → Int
  | 0 => 1
  | k + 1 => wtN P x k * (if bitN x k = true then pSure P k else 10 - pSure P k)
theorem someN_n (P : PlanT) (x : Int) : ∀ k : Nat, 0 ≤ pN (someN P x k) ∧ pN (someN P x k) ≤ k := by
  intro k
  induction k with
  | zero => exact ⟨Int.le_refl _, Int.le_refl _⟩
  | succ k ih =>
    rw [someN]
    split
    · show 0 ≤ pN (someN P x k) + 1 ∧ pN (someN P x k) + 1 ≤ ((k + 1 : Nat) : Int)
      omega
    · omega
theorem p10 (n : Nat) (hn : n ≤ 8) : (10 : Int) ^ n ≤ 100000000 ∧ 1 ≤ (10 : Int) ^ n := by
  have H : ∀ m : Nat, m < 9 → (10 : Int) ^ m ≤ 100000000 ∧ 1 ≤ (10 : Int) ^ m := by decide +kernel
  exact H n (by omega)
theorem wtN_b {P : PlanT} {x : Int} {n : Nat} (hs : ∀ k, 0 ≤ k → k < (n : Int) → 0 ≤ pSure P k ∧ pSure P k ≤ 10) : ∀ k : Nat, k ≤ n → 0 ≤ wtN P x k ∧ wtN P x k ≤ 10 ^ k := by
  intro k
  induction k with
  | zero => intro _; exact ⟨(by decide : (0 : Int) ≤ 1), (by decide : (1 : Int) ≤ 10 ^ 0)⟩
  | succ k ih =>
    intro hk
    obtain ⟨i1, i2⟩ := ih (by omega)
    have h1 := hs k (by omega) (by omega)
    rw [wtN, Int.pow_succ]
    have h2 : 0 ≤ (if bitN x k = true then pSure P k else 10 - pSure P k) ∧ (if bitN x k = true then pSure P k else 10 - pSure P k) ≤ 10 := by split <;> omega
    exact ⟨Int.mul_nonneg i1 h2.1, Int.mul_le_mul i2 h2.2 h2.1 (by omega)⟩
theorem wtN_0 {P : PlanT} {x : Int} {k : Nat} (h : wtN P x k = 0) : ∀ r : Nat, wtN P x (k + r) = 0 := by
  intro r
  induction r with
  | zero => exact h
  | succ r ih => rw [← Nat.add_assoc, wtN, ih, Int.zero_mul]
theorem someN_wf {P : PlanT} {np x : Int} (h : wfNp np P) : ∀ k : Nat, (k : Int) ≤ pN P → wfNp np (someN P x k) := by
  intro k
  induction k with
  | zero => intro _; exact ⟨⟨Int.le_refl _, (by decide : (0 : Int) ≤ 10)⟩, fun k k0 k1 => by have k1 : k < 0 := k1; omega⟩
  | succ k ih =>
    intro hk
    have hi := ih (by omega)
    have hn := someN_n P x k
    have hP := h.1
    rw [someN]
    split
    · refine ⟨?_, fun j j0 j1 => ?_⟩
      · show 0 ≤ pN (someN P x k) + 1 ∧ pN (someN P x k) + 1 ≤ 10
        omega
      · have j1 : j < pN (someN P x k) + 1 := j1
        by_cases hj : j = pN (someN P x k)
        · subst hj
          obtain ⟨e1, e2, e3, e4⟩ := add_new (someN P x k) (pWho P k) (pWhom P k) (pAt P k) 10
          rw [e1, e2, e3]
          exact h.2 k (by omega) (by omega)
        · obtain ⟨e1, e2, e3, e4⟩ := add_old (someN P x k) (pWho P k) (pWhom P k) (pAt P k) 10 hj
          rw [e1, e2, e3]
          exact hi.2 j j0 (by omega)
    · exact hi
theorem ct_tellSome {d : Nat} {sc : SC} {μ : Mem} {p q x : Int} {P : PlanT} (hd : 1 ≤ d) (hp : isK 6 p) (hq : isK 6 q) (hne : p ≠ q) (hX : XN μ p P) (hn : 0 ≤ pN P ∧ pN P ≤ 8) (hs : ∀ k, 0 ≤ k → k < pN P → 0 ≤ pSure P k ∧ pSure P k ≤ 10) :
    CTl mX4_tellSome d sc [(2, p), (0, x), (2, q)] μ (fun y μ' => y = wtN P x (pN P).toNat ∧ (∀ b j, b < q ∨ q + 4 < b → μ' b j = μ b j) ∧ (y ≠ 0 → XN μ' q (someN P x (pN P).toNat))) := by
  have ap := apart6 hp hq hne
  refine CTl_of mp_X4_tellSome (Nat.le_of_ble_eq_true rfl) ?_
  refine s_X4_tellSome_0 hp hq ?_
  rintro _ rfl
  have key : ∀ (r k : Nat) (μ1 : Mem), (k : Int) + r = pN P → (∀ b j, b < q ∨ q + 4 < b → μ1 b j = μ b j) → XN μ1 q (someN P x k) →
      WQ mX4_tellSome d sc (ZL sc (fun y μ' => y = wtN P x (pN P).toNat ∧ (∀ b j, b < q ∨ q + 4 < b → μ' b j = μ b j) ∧ (y ≠ 0 → XN μ' q (someN P x (pN P).toNat)))) 10 [(2, p), (0, x), (2, q), (1, wtN P x k), (9, 0), (0, (k : Int))] [] μ1 := by
    intro r
    induction r with
    | zero =>
      intro k μ1 hk hf hN
      have e : (pN P).toNat = k := by omega
      rw [e]
      refine s_X4_tellSome_10 hp hq ⟨fun _ => ⟨rfl, hf, fun _ => hN⟩, fun z => by rw [hf _ _ (by omega), hX.1] at z; omega⟩
    | succ r ih =>
      intro k μ1 hk hf hN
      have hX1 : XN μ1 p P := hX.same (fun b j q1 q2 => hf b j (by omega))
      obtain ⟨x1, x2, x3, x4⟩ := hX1.2 k (by omega) (by omega)
      have hsk := hs k (by omega) (by omega)
      have hb := wtN_b (x := x) (n := (pN P).toNat) (P := P) (fun k k0 k1 => hs k k0 (by omega))
      have hbk := hb k (by omega)
      have hbk1 := hb (k + 1) (by omega)
      have h10 := p10 (k + 1) (by omega)
      have h10k := p10 k (by omega)
      have hnn := someN_n P x k
      refine s_X4_tellSome_10 hp hq ⟨fun z => by rw [hX1.1] at z; omega, fun _ => ⟨fun hz => ⟨?_, hf, fun z => absurd hz z⟩, fun hz => ⟨fun hb0 => ?_, fun hb1 => ?_⟩⟩⟩
      · have := wtN_0 hz ((pN P).toNat - k)
        rw [show k + ((pN P).toNat - k) = (pN P).toNat by omega] at this
        rw [hz, this]
      · have hbf : bitN x k = false := by unfold bitN; rw [decide_eq_false_iff_not]; exact fun z => z hb0
        rw [x4]
        have e1 : wtN P x (k + 1) = wtN P x k * (10 - pSure P k) := by rw [wtN, hbf]; rfl
        have e2 : someN P x (k + 1) = someN P x k := by rw [someN, hbf]; rfl
        rw [← e1]
        refine ⟨by omega, by omega, by omega, ?_⟩
        rintro _ rfl
        refine ⟨by omega, ?_⟩
        rintro _ rfl
        exact ih (k + 1) μ1 (by omega) hf (by rw [e2]; exact hN)
      · have hbf : bitN x k = true := by unfold bitN; rw [decide_eq_true_iff]; exact hb1
        rw [x1, x2, x3, x4]
        have e1 : wtN P x (k + 1) = wtN P x k * pSure P k := by rw [wtN, hbf]; rfl
        have e2 : someN P x (k + 1) = addN (someN P x k) (pWho P k) (pWhom P k) (pAt P k) 10 := by rw [someN, hbf]; rfl
        rw [← e1]
        refine ⟨by omega, by omega, ?_⟩
        rintro _ rfl
        refine ⟨by omega, by omega, by omega, byV (d' := 0) (by omega) (ct_add hq (by rw [hN.1]; omega)) ?_⟩
        rintro μ17 ⟨c1, c2, c3, c4⟩
        refine ⟨by omega, ?_⟩
        rintro _ rfl
        exact ih (k + 1) μ17 (by omega) (fun b j z => by rw [c1 b j z]; exact hf b j z) (by rw [e2]; exact hN.add c3 c4)
  refine key (pN P).toNat 0 _ (by omega) (fun b j z => by rw [mup_ap, if_neg (fun z => by omega)]) ⟨by rw [mup_ap, if_pos ⟨rfl, rfl⟩]; rfl, fun k k0 k1 => by have k1 : k < 0 := k1; omega⟩

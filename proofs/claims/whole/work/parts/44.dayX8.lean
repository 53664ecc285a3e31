/-! THE CLASS'S DAY: what is asked of it -/
def bitsF (f : Int → Bool) : Nat → Int
  | 0 => 0
  | n + 1 => bitsF f n + if f n = true then 2 ^ n else 0
theorem bitsF_b (f : Int → Bool) : ∀ n : Nat, 0 ≤ bitsF f n ∧ bitsF f n < 2 ^ n := by
  intro n
  induction n with
  | zero => exact ⟨Int.le_refl _, (by decide : (0 : Int) < 2 ^ 0)⟩
  | succ n ih =>
    have e : (2 : Int) ^ (n + 1) = 2 ^ n * 2 := Int.pow_succ 2 n
    rw [bitsF, e]
    generalize (2 : Int) ^ n = z at *
    split <;> omega
theorem or_up {x : Int} {n : Nat} (hx : 0 ≤ x ∧ x < 2 ^ n) (hn : n < 6) : iOr x (iShl 1 n) = x + 2 ^ n := by
  have H : ∀ i : Nat, i < 384 → ((i / 6 : Nat) : Int) < 2 ^ (i % 6) → iOr (i / 6 : Nat) (iShl 1 (i % 6 : Nat)) = ((i / 6 : Nat) : Int) + 2 ^ (i % 6) := by decide +kernel
  have hp : (2 : Int) ^ n ≤ 2 ^ 5 := by
    have : ∀ m : Nat, m < 6 → (2 : Int) ^ m ≤ 2 ^ 5 := by decide +kernel
    exact this n hn
  have h32 : (2 : Int) ^ 5 = 32 := by decide
  have h := H (x.toNat * 6 + n) (by omega)
  rw [show (x.toNat * 6 + n) / 6 = x.toNat by omega, show (x.toNat * 6 + n) % 6 = n by omega, show ((x.toNat : Nat) : Int) = x by omega] at h
  exact h hx.2
def hicN (Hc : SayL) (p : Int) : Int := (Hc.countP (fun x => x.2 % 6 == p) : Nat)
theorem hicN_b (Hc : SayL) (p : Int) : 0 ≤ hicN Hc p ∧ hicN Hc p ≤ Hc.length := by
  unfold hicN
  have := List.countP_le_length (p := fun x => x.2 % 6 == p) (l := Hc)
  omega
def nobS (Hc : SayL) (np : Int) : Int := bitsF (fun p => hicN Hc p == 0) np.toNat
theorem ct_nobodies {d : Nat} {sc : SC} {μ : Mem} {a np : Int} {Hc : SayL} (ha : isK 0 a) (hH : HR μ a Hc) (hnp : 0 ≤ np ∧ np ≤ 6) : CTi mX0_nobodies d sc [(2, a), (0, np)] μ (fun x μ' => x = nobS Hc np ∧ μ' = μ) := by
  refine CTi_of mp_X0_nobodies (Nat.le_of_ble_eq_true rfl) ?_
  refine s_X0_nobodies_0 ha ?_
  have key : ∀ (r p : Nat), p + r = np.toNat → WQ mX0_nobodies d sc (ZI sc (fun x μ' => x = nobS Hc np ∧ μ' = μ)) 4 [(2, a), (0, np), (0, bitsF (fun p => hicN Hc p == 0) p), (0, (p : Int))] [] μ := by
    intro r
    induction r with
    | zero =>
      intro p hp
      refine s_X0_nobodies_4 ha ⟨fun _ => ⟨?_, rfl⟩, fun z => by omega⟩
      unfold nobS
      rw [← hp, Nat.add_zero]
    | succ r ih =>
      intro p hp
      have h3 : μ (a + 3) p = hicN Hc p := hH.2.2 p (by omega) (by omega)
      refine s_X0_nobodies_4 ha ⟨fun z => by omega, fun _ => ⟨by omega, fun h => ⟨by omega, ?_⟩, fun h => ?_⟩⟩
      · rintro _ rfl
        have := ih (p + 1) (by omega)
        rw [bitsF, if_neg (by simp; omega), Int.add_zero] at this
        exact this
      · rintro _ rfl
        refine ⟨by omega, ?_⟩
        rintro _ rfl
        have := ih (p + 1) (by omega)
        rw [bitsF, if_pos (by simp; omega)] at this
        rw [or_up (bitsF_b _ _) (by omega)]
        exact this
  exact key np.toNat 0 (by omega)
def hasS (Hc : SayL) (p m : Int) : Bool := Hc.any (fun x => x.1 == m && x.2 % 6 == p)
theorem ct_hasHiccup {d : Nat} {sc : SC} {μ : Mem} {a p m : Int} {Hc : SayL} (ha : isK 0 a) (hH : HR μ a Hc) (hs : Hc.Pairwise (fun x y => x.1 ≤ y.1)) (hq : ∀ x ∈ Hc, 0 ≤ x.2) (hl : Hc.length ≤ 512) : CTi mX0_hasHiccup d sc [(2, a), (0, p), (0, m)] μ (fun x μ' => x = (if hasS Hc p m = true then 1 else 0) ∧ μ' = μ) := by
  refine CTi_of mp_X0_hasHiccup (Nat.le_of_ble_eq_true rfl) ?_
  refine s_X0_hasHiccup_0 ha ?_
  have key : ∀ (n : Nat) (l l2 : SayL), l.length = n → Hc = l ++ l2 → hasS l2 p m = false → WQ mX0_hasHiccup d sc (ZI sc (fun x μ' => x = (if hasS Hc p m = true then 1 else 0) ∧ μ' = μ)) 7 [(2, a), (0, p), (0, m), (0, (n : Int) - 1)] [] μ := by
    intro n
    induction n with
    | zero =>
      intro l l2 hl1 he h2
      rw [List.length_eq_zero_iff] at hl1
      rw [hl1, List.nil_append] at he
      exact s_X0_hasHiccup_7 ha ⟨fun _ => ⟨by rw [he, h2]; rfl, rfl⟩, fun z => by omega⟩
    | succ n ih =>
      intro l l2 hl1 he h2
      have hlen : Hc.length = n + 1 + l2.length := by rw [he, List.length_append, hl1]
      obtain ⟨q2, q1⟩ := hH.2.1 n (by omega)
      have hx : Hc[n]'(by omega) = l[n]'(by omega) := by simp only [he]; exact List.getElem_append_left (by omega)
      rw [hx] at q1 q2
      have hl2 : l = l.take n ++ [l[n]'(by omega)] := by
        rw [List.take_append_getElem, ← hl1, List.take_length]
      generalize l[n]'(by omega) = x at *
      have hmem : x ∈ Hc := by rw [he, hl2]; simp
      have he2 : Hc = l.take n ++ (x :: l2) := by rw [he]; conv => lhs; rw [hl2]
                                                  simp
      have hc : hasS (x :: l2) p m = (x.1 == m && x.2 % 6 == p) := by
        have : hasS (x :: l2) p m = ((x.1 == m && x.2 % 6 == p) || hasS l2 p m) := rfl
        rw [this, h2, Bool.or_false]
      rw [show ((n + 1 : Nat) : Int) - 1 = n by omega]
      have hih := ih (l.take n) (x :: l2) (by rw [List.length_take]; omega) he2
      refine s_X0_hasHiccup_7 ha ⟨fun z => by omega, fun _ => ⟨by omega, fun h => ⟨?_, rfl⟩, fun h => ⟨by omega, fun h3 => ⟨by omega, ?_⟩, fun h3 => ⟨by omega, ?_, fun h4 => ⟨by omega, ?_⟩, fun h4 => ⟨?_, rfl⟩⟩⟩⟩⟩
      · have : hasS Hc p m = false := by
          unfold hasS
          rw [List.any_eq_false]
          intro y hy
          rw [he2, List.mem_append] at hy
          rw [he2, List.pairwise_append] at hs
          have hy1 : y ∈ l2 → hasS l2 p m = false → ¬ (y.1 == m && y.2 % 6 == p) = true := fun z1 z2 => List.any_eq_false.mp z2 y z1
          rcases hy with hy | hy
          · have := hs.2.2 y hy x List.mem_cons_self
            simp
            omega
          · rw [List.mem_cons] at hy
            rcases hy with rfl | hy
            · simp
              omega
            · exact hy1 hy h2
        rw [this]; rfl
      · rintro _ rfl
        exact hih (by rw [hc]; simp; omega)
      · rw [q2]; exact hq x hmem
      · rintro _ rfl
        exact hih (by rw [hc]; simp; omega)
      · have : hasS Hc p m = true := by
          unfold hasS
          rw [List.any_eq_true]
          exact ⟨x, hmem, by simp; omega⟩
        rw [this]; rfl
  refine ⟨by rw [hH.1]; omega, ?_⟩
  rintro _ rfl
  rw [hH.1]
  exact key Hc.length Hc [] rfl (by simp) rfl

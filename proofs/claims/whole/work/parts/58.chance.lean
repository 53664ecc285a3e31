/-! THE CLASS'S QUERIES: chances -/
def partS (above whole w : Int) : Int := (if w = 0 then above else whole) / ((Nat.gcd whole.toNat above.toNat : Nat) : Int)
theorem mod_half {b r : Nat} (hr : 0 < r) (hb : r < b) : 2 * (b % r) < b := by
  have h1 := Nat.mod_lt b hr
  have h2 : b % r ≤ b - r := by
    have : b % r = (b - r) % r := Nat.mod_eq_sub_mod (by omega)
    rw [this]; exact Nat.mod_le _ _
  omega
theorem ct_lowest {d : Nat} {sc : SC} {μ : Mem} {above whole w : Int} (ha : 0 ≤ above) (hw : 0 < whole ∧ whole ≤ 100000000) : CTl mX9_lowestTerms d sc [(1, above), (1, whole), (0, w)] μ (fun x μ' => x = partS above whole w ∧ μ' = μ) := by
  refine CTl_of mp_X9_lowestTerms (Nat.le_of_ble_eq_true rfl) ?_
  refine s_X9_lowestTerms_0 ?_
  have hg : 0 < Nat.gcd whole.toNat above.toNat := Nat.gcd_pos_of_pos_left _ (by omega)
  have fin : ∀ (a : Nat), a = Nat.gcd whole.toNat above.toNat → ((a : Int) ≠ 0 → (w ≠ 0 → (0 ≤ whole ∧ 0 < (a : Int)) ∧ (whole / (a : Int) = partS above whole w ∧ μ = μ)) ∧ (w = 0 → (0 ≤ above ∧ 0 < (a : Int)) ∧ (above / (a : Int) = partS above whole w ∧ μ = μ))) ∧ ((a : Int) = 0 → ((0 : Int) = partS above whole w ∧ μ = μ)) := by
    intro a e
    refine ⟨fun z => ⟨fun z2 => ⟨by omega, ?_, rfl⟩, fun z2 => ⟨by omega, ?_, rfl⟩⟩, fun z => by omega⟩
    · unfold partS; rw [if_neg z2, e]
    · unfold partS; rw [if_pos z2, e]
  have key : ∀ (k a b : Nat) (x : Int), b < 2 ^ k → 0 ≤ x → x + 2 * k + 1 ≤ 100 → Nat.gcd b a = Nat.gcd whole.toNat above.toNat →
      WQ mX9_lowestTerms d sc (ZL sc (fun x μ' => x = partS above whole w ∧ μ' = μ)) 9 [(1, above), (9, 0), (1, whole), (9, 0), (0, w), (1, (a : Int)), (9, 0), (1, (b : Int)), (9, 0), (0, x), (9, 0), (9, 0)] [] μ := by
    intro k
    induction k with
    | zero =>
      intro a b x hb hx hx2 hgc
      have hb0 : b = 0 := by omega
      rw [hb0, Nat.gcd_zero_left] at hgc
      refine s_X9_lowestTerms_9 ⟨fun z => by omega, fun _ => ⟨fun _ => fin a hgc, fun z => by omega⟩⟩
    | succ k ih =>
      intro a b x hb hx hx2 hgc
      have h2 : 2 ^ (k + 1) = 2 * 2 ^ k := by rw [Nat.pow_succ]; omega
      refine s_X9_lowestTerms_9 ⟨fun z => by omega, fun _ => ⟨fun z => ?_, fun z => ⟨by omega, ?_⟩⟩⟩
      · have hb0 : b = 0 := by omega
        rw [hb0, Nat.gcd_zero_left] at hgc
        exact fin a hgc
      · rintro _ rfl
        refine ⟨by omega, ?_⟩
        rintro _ rfl
        have hm : ((a : Int) % (b : Int)) = ((a % b : Nat) : Int) := (Int.natCast_emod a b).symm
        rw [hm]
        have hgc2 : Nat.gcd (a % b) b = Nat.gcd whole.toNat above.toNat := by rw [← hgc, Nat.gcd_rec b a]
        have hlt := Nat.mod_lt a (show 0 < b by omega)
        generalize a % b = r at *
        refine s_X9_lowestTerms_9 ⟨fun z => by omega, fun _ => ⟨fun z => ?_, fun z => ⟨by omega, ?_⟩⟩⟩
        · have hb0 : r = 0 := by omega
          rw [hb0, Nat.gcd_zero_left] at hgc2
          exact fin b hgc2
        · rintro _ rfl
          refine ⟨by omega, ?_⟩
          rintro _ rfl
          have hm : ((b : Int) % (r : Int)) = ((b % r : Nat) : Int) := (Int.natCast_emod b r).symm
          rw [hm]
          have hh := mod_half (show 0 < r by omega) hlt
          exact ih r (b % r) _ (by omega) (by omega) (by omega) (by rw [← hgc2, Nat.gcd_rec r b])
  have := key 27 above.toNat whole.toNat 0 (by omega) (Int.le_refl _) (by decide) rfl
  rw [show ((above.toNat : Nat) : Int) = above by omega, show ((whole.toNat : Nat) : Int) = whole by omega] at this
  exact this
def allS (A : StT) : Int := 10 ^ (pN (aP A)).toNat
def nobAll (A : StT) (p : Int) : Int := nobSum (aH A) (aP A) p (2 ^ (pN (aP A)).toNat)
def hicAll (A : StT) (p : Int) : Int := hicSum (aH A) (aP A) p (2 ^ (pN (aP A)).toNat)
def chanceS (A : StT) (p w : Int) : Int := if ipS A p ∧ 0 ≤ w ∧ w ≤ 1 then w32 (partS (nobAll A p) (allS A) w) else -2
def meanS (A : StT) (p w : Int) : Int := if ipS A p ∧ 0 ≤ w ∧ w ≤ 1 then partS (hicAll A p) (allS A) w else -2
theorem wfS.all {A : StT} (h : wfS (aH A) (aP A)) : (0 < allS A ∧ allS A ≤ 100000000) ∧ ∀ p, 0 ≤ nobAll A p ∧ 0 ≤ hicAll A p := by
  have h0 := h.2.1.1
  have h8 := h.2.2.1
  have := p10 (pN (aP A)).toNat (by omega)
  refine ⟨by unfold allS; omega, fun p => ?_⟩
  have := sum_b (H := aH A) (p := p) ⟨h0.1, h8⟩ h.2.2.2 (2 ^ (pN (aP A)).toNat)
  exact ⟨this.1.1, this.2.1⟩
theorem cx_chance {d : Nat} {sc : SC} {μ : Mem} {A : StT} {p w : Int} (hd : 10 ≤ d) (h : RX μ A) : CTi mX9_chance d sc [(2, 0), (0, p), (0, w)] μ (AX μ A (fun x => x = chanceS A p w)) := by
  have h6 := h.1.wfh.2.2.1
  refine CTi_of mp_X9_chance (Nat.le_of_ble_eq_true rfl) ?_
  have bad : ¬ (ipS A p ∧ 0 ≤ w ∧ w ≤ 1) → AX μ A (fun x => x = chanceS A p w) (-2) μ := fun z => AX.here h (if_neg z).symm
  refine s_X9_chance_0 (ca_isPerson (by omega) h.1 (fun zp => ⟨fun _ => bad (fun y => zp y.1), fun q => absurd rfl q⟩) (fun zp => ⟨fun q => absurd q (by decide), fun _ => ⟨fun z => bad (fun y => by omega), fun z => ⟨fun z2 => ?_, fun z => bad (fun y => by omega)⟩⟩⟩))
  refine ca_knowOdds hd h (fun μ' f r ka ko => ?_)
  have ha := wfS.all r.1.wfs
  have hk := ko.2 p zp.1 zp.2
  rw [ko.1, hk.1]
  refine ⟨⟨zp.1, by have := zp.2; omega⟩, byL (d' := 9) (by omega) (ct_lowest (ha.2 p).1 ha.1) ?_⟩
  rintro x _ ⟨rfl, rfl⟩
  exact ⟨(if_pos ⟨zp, z, z2⟩).symm, r, f.x⟩
theorem cx_mean {d : Nat} {sc : SC} {μ : Mem} {A : StT} {p w : Int} (hd : 10 ≤ d) (h : RX μ A) : CTl mX9_mean d sc [(2, 0), (0, p), (0, w)] μ (AX μ A (fun x => x = meanS A p w)) := by
  have h6 := h.1.wfh.2.2.1
  refine CTl_of mp_X9_mean (Nat.le_of_ble_eq_true rfl) ?_
  have bad : ¬ (ipS A p ∧ 0 ≤ w ∧ w ≤ 1) → AX μ A (fun x => x = meanS A p w) (-2) μ := fun z => AX.here h (if_neg z).symm
  refine s_X9_mean_0 (ca_isPerson (by omega) h.1 (fun zp => ⟨fun _ => bad (fun y => zp y.1), fun q => absurd rfl q⟩) (fun zp => ⟨fun q => absurd q (by decide), fun _ => ⟨fun z => bad (fun y => by omega), fun z => ⟨fun z2 => ?_, fun z => bad (fun y => by omega)⟩⟩⟩))
  refine ca_knowOdds hd h (fun μ' f r ka ko => ?_)
  have ha := wfS.all r.1.wfs
  have hk := ko.2 p zp.1 zp.2
  rw [ko.1, hk.2]
  refine ⟨⟨zp.1, by have := zp.2; omega⟩, byL (d' := 9) (by omega) (ct_lowest (ha.2 p).2 ha.1) ?_⟩
  rintro x _ ⟨rfl, rfl⟩
  exact ⟨(if_pos ⟨zp, z, z2⟩).symm, r, f.x⟩
def famN (A : StT) : Nat → Int
  | 0 => 0
  | n + 1 => if hicAll A (famN A n) < hicAll A ((n + 1 : Nat) : Int) then ((n + 1 : Nat) : Int) else famN A n
theorem famN_b (A : StT) : ∀ n : Nat, 0 ≤ famN A n ∧ famN A n ≤ n := by
  intro n
  induction n with
  | zero => exact ⟨Int.le_refl _, Int.le_refl _⟩
  | succ n ih => rw [famN]; split <;> omega
def famousS (A : StT) : Int := if hP (aH A) = 0 then -1 else famN A (hP (aH A) - 1).toNat
theorem cx_famous {d : Nat} {sc : SC} {μ : Mem} {A : StT} (hd : 10 ≤ d) (h : RX μ A) : CTi mX9_famous d sc [(2, 0)] μ (AX μ A (fun x => x = famousS A)) := by
  have h6 := h.1.wfh.2.2.1
  refine CTi_of mp_X9_famous (Nat.le_of_ble_eq_true rfl) ?_
  refine s_X9_famous_0 ⟨h.1.now.1, ?_⟩
  rw [h.1.np]
  refine ⟨fun z => ca_knowOdds hd h (fun μ' f r ka ko => ?_), fun z => AX.here h (if_pos z).symm⟩
  have key : ∀ (r0 n : Nat), (n : Int) + 1 + r0 = hP (aH A) → WQ mX9_famous d sc (ZI sc (AX μ A (fun x => x = famousS A))) 20 [(2, 0), (0, famN A n), (0, (n : Int) + 1)] [] μ' := by
    intro r0
    induction r0 with
    | zero =>
      intro n hn
      refine s_X9_famous_20 ⟨r.1.now.1, ?_⟩
      rw [r.1.np]
      refine ⟨fun _ => ⟨?_, r, f.x⟩, fun z => by omega⟩
      show _ = _
      unfold famousS; rw [if_neg z, show (hP (aH A) - 1).toNat = n by omega]
    | succ r0 ih =>
      intro n hn
      refine s_X9_famous_20 ⟨r.1.now.1, ?_⟩
      rw [r.1.np]
      have hb := famN_b A n
      have k1 := (ko.2 ((n : Int) + 1) (by omega) (by omega)).2
      have k2 := (ko.2 (famN A n) (by omega) (by omega)).2
      rw [k1, k2]
      refine ⟨fun z => by omega, fun _ => ⟨by omega, by omega, fun z => ⟨by omega, ?_⟩, fun z => ⟨by omega, ?_⟩⟩⟩
      · rintro _ rfl
        have := ih (n + 1) (by omega)
        rw [famN, if_neg (by have e : ¬ hicAll A (famN A n) < hicAll A ((n : Int) + 1) := Int.not_lt.mpr z; exact e)] at this
        exact this
      · rintro _ rfl
        have := ih (n + 1) (by omega)
        rw [famN, if_pos (by have e : hicAll A (famN A n) < hicAll A ((n : Int) + 1) := z; exact e)] at this
        exact this
  exact key (hP (aH A) - 1).toNat 0 (by omega)

/-! THE REFERENCE: chances -/
theorem ct_wholeOf {d : Nat} {sc : SC} {μ : Mem} {n : Int} (hn : 0 ≤ n ∧ n ≤ 8) : CTl mX10_wholeOf d sc [(0, n)] μ (fun x μ' => x = 10 ^ n.toNat ∧ μ' = μ) := by
  refine CTl_of mp_X10_wholeOf (Nat.le_of_ble_eq_true rfl) ?_
  refine s_X10_wholeOf_0 ?_
  have key : ∀ (r k : Nat), (k : Int) + r = n → WQ mX10_wholeOf d sc (ZL sc (fun x μ' => x = 10 ^ n.toNat ∧ μ' = μ)) 4 [(0, n), (1, 10 ^ k), (9, 0), (0, (k : Int))] [] μ := by
    intro r
    induction r with
    | zero =>
      intro k hk
      refine s_X10_wholeOf_4 ⟨fun _ => ⟨by rw [show n.toNat = k by omega], rfl⟩, fun z => by omega⟩
    | succ r ih =>
      intro k hk
      have h10 := p10 k (by omega)
      refine s_X10_wholeOf_4 ⟨fun z => by omega, fun _ => ⟨by omega, ?_⟩⟩
      intro v hv
      refine ⟨by omega, ?_⟩
      rintro _ rfl
      rw [← Int.pow_succ] at hv
      rw [hv]
      exact ih (k + 1) (by omega)
  exact key n.toNat 0 (by omega)
theorem ct_common : ∀ (k d : Nat) {sc : SC} {μ : Mem} (a b : Nat), b < 2 ^ k → 2 * k ≤ d → CTl mX10_common d sc [(1, (a : Int)), (1, (b : Int))] μ (fun x μ' => x = ((Nat.gcd b a : Nat) : Int) ∧ μ' = μ) := by
  intro k
  induction k with
  | zero =>
    intro d sc μ a b hb _
    refine CTl_of mp_X10_common (Nat.le_of_ble_eq_true rfl) ?_
    have hb0 : b = 0 := by omega
    refine s_X10_common_0 ⟨fun z => by omega, fun _ => ⟨by rw [hb0, Nat.gcd_zero_left], rfl⟩⟩
  | succ k ih =>
    intro d sc μ a b hb hd
    have h2 : 2 ^ (k + 1) = 2 * 2 ^ k := by rw [Nat.pow_succ]; omega
    refine CTl_of mp_X10_common (Nat.le_of_ble_eq_true rfl) ?_
    refine s_X10_common_0 ⟨fun z => ⟨by omega, ?_⟩, fun z => ⟨by rw [show b = 0 by omega, Nat.gcd_zero_left], rfl⟩⟩
    have hm : ((a : Int) % (b : Int)) = ((a % b : Nat) : Int) := (Int.natCast_emod a b).symm
    rw [hm]
    have hlt := Nat.mod_lt a (show 0 < b by omega)
    have hg1 : Nat.gcd b a = Nat.gcd (a % b) b := Nat.gcd_rec b a
    rw [hg1]
    generalize a % b = r at *
    refine byL (d' := d - 1) (by omega) (Q := fun x μ' => x = ((Nat.gcd r b : Nat) : Int) ∧ μ' = μ) ?_ (fun _ _ z => z)
    refine CTl_of mp_X10_common (Nat.le_of_ble_eq_true rfl) ?_
    refine s_X10_common_0 ⟨fun z => ⟨by omega, ?_⟩, fun z => ⟨by rw [show r = 0 by omega, Nat.gcd_zero_left], rfl⟩⟩
    have hm : ((b : Int) % (r : Int)) = ((b % r : Nat) : Int) := (Int.natCast_emod b r).symm
    rw [hm]
    have hh := mod_half (show 0 < r by omega) hlt
    have hg2 : Nat.gcd r b = Nat.gcd (b % r) r := Nat.gcd_rec r b
    rw [hg2]
    exact byL (d' := d - 1 - 1) (by omega) (ih (d - 1 - 1) r (b % r) (by omega) (by omega)) (fun _ _ z => z)
theorem cb_part {d : Nat} {sc : SC} {μ : Mem} {above whole w : Int} {R : Int → Mem → Prop} (hd : 56 ≤ d) (ha : 0 ≤ above) (hw : 0 < whole ∧ whole ≤ 100000000) (k : R (partS above whole w) μ) : CAl mX10_part d sc [(1, above), (1, whole), (0, w)] μ R := by
  refine byL (d' := 55) (by omega) (Q := R) ?_ (fun _ _ z => z)
  refine CTl_of mp_X10_part (Nat.le_of_ble_eq_true rfl) ?_
  have hg : 0 < Nat.gcd whole.toNat above.toNat := Nat.gcd_pos_of_pos_left _ (by omega)
  have hc : ∀ μ, CTl mX10_common 54 sc [(1, above), (1, whole)] μ (fun x μ' => x = ((Nat.gcd whole.toNat above.toNat : Nat) : Int) ∧ μ' = μ) := fun μ => by
    have := ct_common 27 54 (sc := sc) (μ := μ) above.toNat whole.toNat (by omega) (Nat.le_refl _)
    rw [show ((above.toNat : Nat) : Int) = above by omega, show ((whole.toNat : Nat) : Int) = whole by omega] at this
    exact this
  refine s_X10_part_0 ⟨fun z => byL (d' := 54) (by omega) (hc μ) ?_, fun z => byL (d' := 54) (by omega) (hc μ) ?_⟩
  · rintro x _ ⟨rfl, rfl⟩
    refine ⟨⟨by omega, by omega⟩, ?_⟩
    unfold partS at k; rw [if_neg z] at k; exact k
  · rintro x _ ⟨rfl, rfl⟩
    refine ⟨⟨by omega, by omega⟩, ?_⟩
    unfold partS at k; rw [if_pos z] at k; exact k
theorem shl_pow : ∀ n : Nat, n < 9 → iShl 1 (n : Int) = ((2 ^ n : Nat) : Int) ∧ 2 ^ n ≤ 256 := by decide +kernel
def OS (μ μ' : Mem) (A : StT) (x : Nat) : Prop := SI μ μ' A ∧ ∀ p, 0 ≤ p → p < hP (aH A) → μ' 207 p = nobSum (aH A) (aP A) p x ∧ μ' 208 p = hicSum (aH A) (aP A) p x
theorem cb_laysChances {d : Nat} {sc : SC} {μ : Mem} {A : StT} {R : Mem → Prop} (hd : 6 ≤ d) (h : RY μ A) (k : ∀ μ', FW μ μ' → (∀ p, 0 ≤ p → p < hP (aH A) → μ' 207 p = nobAll A p ∧ μ' 208 p = hicAll A p) → R μ') : CAv mX10_laysChances d sc [(2, 183)] μ R := by
  have h6 := h.n6
  have hws := h.wfs
  have hn0 := hws.2.1.1.1
  have h8 := hws.2.2.1
  have hsh := shl_pow (pN (aP A)).toNat (by omega)
  rw [show (((pN (aP A)).toNat : Nat) : Int) = pN (aP A) by omega] at hsh
  have hsum := fun p => sum_b (H := aH A) (P := aP A) (p := p) ⟨hn0, h8⟩ hws.2.2.2
  refine byV (d' := 5) (by omega) (Q := R) ?_ (fun _ z => z)
  refine CTv_of mp_X10_laysChances (Nat.le_of_ble_eq_true rfl) ?_
  refine s_X10_laysChances_0 (cb_laysGaps (by omega) h.q (Or.inl h.2.2.2.2.1) (fun μ2 f2 C2 G2 => ?_))
  have I2 : SI μ μ2 A := ⟨fun b j q1 q2 => f2 b j (by omega) (by omega) (by omega) (by omega), C2, G2⟩
  have st : ∀ {μ1 μ' : Mem}, SI μ μ1 A → (∀ b j, (b = 183 → j ≠ 34 ∧ j ≠ 35 ∧ j ≠ 36) → (b < 188 ∨ 208 < b) → μ' b j = μ1 b j) → CM μ' (aH A) (pWind (aP A)) → GG μ' (aH A) (aP A) → SI μ μ' A := fun i f c g => ⟨fun b j q1 q2 => by rw [f b j (fun y => by have := q1 y; omega) (by omega)]; exact i.1 b j q1 q2, c, g⟩
  have sets : ∀ (r x : Nat) (μ1 : Mem), x + r = 2 ^ (pN (aP A)).toNat → OS μ μ1 A x → WQ mX10_laysChances 5 sc (ZV sc R) 34 [(2, 183), (0, (x : Int)), (9, 0), (9, 0), (9, 0), (9, 0)] [] μ1 := by
    intro r
    induction r with
    | zero =>
      intro x μ1 hx hO
      have e31 : μ1 184 31 = pN (aP A) := (h.same hO.1.1).mp.1
      refine s_X10_laysChances_34 ⟨fun _ => k μ1 hO.1.1 (fun p p0 p1 => ?_), fun z => by rw [e31, hsh.1] at z; omega⟩
      have := hO.2 p p0 p1
      rw [show x = 2 ^ (pN (aP A)).toNat by omega] at this
      exact this
    | succ r ih =>
      intro x μ1 hx hO
      have r1 := h.same hO.1.1
      have e31 : μ1 184 31 = pN (aP A) := r1.mp.1
      have hx256 : x < 256 := by omega
      refine s_X10_laysChances_34 ⟨fun z => by rw [e31, hsh.1] at z; omega, fun _ => ?_⟩
      have hwb := wtN_b (x := x) (n := (pN (aP A)).toNat) (P := aP A) (fun k k0 k1 => hws.2.2.2 k k0 (by omega))
      have inner : ∀ (r2 n : Nat), (n : Int) + r2 = pN (aP A) → WQ mX10_laysChances 5 sc (ZV sc R) 52 [(2, 183), (0, (x : Int)), (1, wtN (aP A) x n), (9, 0), (0, (n : Int)), (9, 0)] [] μ1 := by
        intro r2
        induction r2 with
        | zero =>
          intro n hn
          have en : (pN (aP A)).toNat = n := by omega
          have hwn := hwb n (by omega)
          have h10 := p10 n (by omega)
          refine s_X10_laysChances_52 ⟨fun _ => ⟨fun z => ?_, fun z => ⟨by omega, ?_⟩⟩, fun z => by omega⟩
          · refine cb_laysTold (by omega) r1.q ⟨by omega, by omega⟩ (fun μ5 f5 T5 => ?_)
            have Y5 : MY μ5 (aH A) (aP A) := r1.q.same (fun j => f5 _ _ (by omega) (by omega) (by omega) (by omega))
            have C5 : CM μ5 (aH A) (pWind (aP A)) := hO.1.2.1.same (fun j => f5 _ _ (by omega) (by omega) (by omega) (by omega))
            have G5 : GG μ5 (aH A) (aP A) := fun a b a0 a1 b0 b1 hab => by rw [f5 _ _ (by omega) (by omega) (by omega) (by omega)]; exact hO.1.2.2 a b a0 a1 b0 b1 hab
            have hwfS : wfNp (hP (aH A)) (someN (aP A) x (pN (aP A)).toNat) := someN_wf hws.2.1 _ (by omega)
            refine cb_goesDay (by omega) Y5 C5 G5 T5 hwfS (fun μ7 f7 C7 M7 => ?_)
            have G7 : GG μ7 (aH A) (aP A) := fun a b a0 a1 b0 b1 hab => by rw [f7 _ _ (by omega) (by omega)]; exact G5 a b a0 a1 b0 b1 hab
            have I7 : SI μ μ7 A := st hO.1 (fun b j q1 q2 => by rw [f7 b j (by omega) (by omega)]; exact f5 b j (by omega) (by omega) (by omega) (by omega)) C7 G7
            have e7 : ∀ j, μ7 207 j = μ1 207 j ∧ μ7 208 j = μ1 208 j := fun j => ⟨by rw [f7 _ _ (by omega) (by omega)]; exact f5 _ _ (by omega) (by omega) (by omega) (by omega), by rw [f7 _ _ (by omega) (by omega)]; exact f5 _ _ (by omega) (by omega) (by omega) (by omega)⟩
            have hlH : (hicL (daySt (gapQ (aH A) (aP A)) (ansQ (aH A) (aP A)) (someN (aP A) x (pN (aP A)).toNat) 100) 100).length ≤ 500 := dh_len hwfS
            have hHM := M7.1
            rw [en] at hHM hlH
            have hnn := someN_n (aP A) x n
            have people : ∀ (r3 q : Nat) (μ8 : Mem), (q : Int) + r3 = hP (aH A) → SI μ μ8 A → HM μ8 (hicL (daySt (gapQ (aH A) (aP A)) (ansQ (aH A) (aP A)) (someN (aP A) x n) 100) 100) → (∀ p, 0 ≤ p → p < hP (aH A) → (p < q → μ8 207 p = nobSum (aH A) (aP A) p (x + 1) ∧ μ8 208 p = hicSum (aH A) (aP A) p (x + 1)) ∧ (q ≤ p → μ8 207 p = nobSum (aH A) (aP A) p x ∧ μ8 208 p = hicSum (aH A) (aP A) p x)) →
                WQ mX10_laysChances 5 sc (ZV sc R) 140 [(2, 183), (0, (x : Int)), (1, wtN (aP A) x n), (9, 0), (0, (q : Int)), (9, 0)] [] μ8 := by
              intro r3
              induction r3 with
              | zero =>
                intro q μ8 hq hI hH hs
                have e3 := (h.same hI.1).np
                refine s_X10_laysChances_140 ⟨fun _ => ⟨by omega, ?_⟩, fun z => by omega⟩
                rintro _ rfl
                exact ih (x + 1) μ8 (by omega) ⟨hI, fun p p0 p1 => (hs p p0 p1).1 (by omega)⟩
              | succ r3 ih3 =>
                intro q μ8 hq hI hH hs
                have e3 := (h.same hI.1).np
                refine s_X10_laysChances_140 ⟨fun z => by omega, fun _ => cb_hiccupsOf (by omega) hH (by omega) ?_⟩
                have hsq := (hs q (by omega) (by omega)).2 (Int.le_refl _)
                have hsb := hsum q x
                have hsb1 := hsum q (x + 1)
                have hcb := hicC_b (H := aH A) (P := aP A) (PN := someN (aP A) x n) (by omega) (q : Int)
                have eC : hicN (hicL (daySt (gapQ (aH A) (aP A)) (ansQ (aH A) (aP A)) (someN (aP A) x n) 100) 100) q = hicC (aH A) (aP A) (someN (aP A) x n) q := rfl
                have n1 : nobSum (aH A) (aP A) q (x + 1) = nobSum (aH A) (aP A) q x + if hicC (aH A) (aP A) (someN (aP A) x n) q = 0 then wtN (aP A) x n else 0 := by rw [nobSum, en]
                have n2 : hicSum (aH A) (aP A) q (x + 1) = hicSum (aH A) (aP A) q x + wtN (aP A) x n * hicC (aH A) (aP A) (someN (aP A) x n) q := by rw [hicSum, en]
                have hmul : 0 ≤ wtN (aP A) x n * hicC (aH A) (aP A) (someN (aP A) x n) q ∧ wtN (aP A) x n * hicC (aH A) (aP A) (someN (aP A) x n) q ≤ 100000000 * 500 := ⟨Int.mul_nonneg hwn.1 hcb.1, Int.mul_le_mul (by omega) hcb.2 hcb.1 (by decide)⟩
                have nx : ∀ μ9 : Mem, (∀ b j, b ≠ 207 → b ≠ 208 → μ9 b j = μ8 b j) → (∀ p, p ≠ (q : Int) → μ9 207 p = μ8 207 p ∧ μ9 208 p = μ8 208 p) → μ9 207 q = nobSum (aH A) (aP A) q (x + 1) → μ9 208 q = hicSum (aH A) (aP A) q (x + 1) → WQ mX10_laysChances 5 sc (ZV sc R) 140 [(2, 183), (0, (x : Int)), (1, wtN (aP A) x n), (9, 0), (0, (q : Int) + 1), (9, 0)] [] μ9 := fun μ9 f9 g9 s1 s2 => by
                  refine ih3 (q + 1) μ9 (by omega) (st hI (fun b j _ q2 => f9 b j (by omega) (by omega)) (hI.2.1.same (fun j => f9 _ _ (by omega) (by omega))) (fun a b a0 a1 b0 b1 hab => by rw [f9 _ _ (by omega) (by omega)]; exact hI.2.2 a b a0 a1 b0 b1 hab)) (hH.same (f9 _ _ (by omega) (by omega)) (fun b j _ _ => f9 b j (by omega) (by omega))) (fun p p0 p1 => ⟨fun z => ?_, fun z => ?_⟩)
                  · by_cases y : p = q
                    · rw [y]; exact ⟨s1, s2⟩
                    · rw [(g9 p y).1, (g9 p y).2]; exact (hs p p0 p1).1 (by omega)
                  · rw [(g9 p (by omega)).1, (g9 p (by omega)).2]; exact (hs p p0 p1).2 (by omega)
                rw [eC, hsq.1]
                generalize hicC (aH A) (aP A) (someN (aP A) x n) q = C at *
                generalize hM : wtN (aP A) x n * C = M at *
                refine ⟨by omega, fun z => ⟨by omega, by omega, ?_⟩, fun z => ⟨by omega, by omega, ?_⟩⟩
                · intro μ11 e11
                  have g11 : ∀ b j : Int, (b = 207 → j ≠ q) → μ11 b j = μ8 b j := fun b j y => by rw [e11, mup_ap, if_neg (fun w => y w.1 w.2)]
                  rw [g11 208 q (by omega), hsq.2]
                  refine ⟨by omega, by omega, by omega, by omega, ?_⟩
                  intro μ16 e16
                  have g16 : ∀ b j : Int, (b = 208 → j ≠ q) → μ16 b j = μ11 b j := fun b j y => by rw [e16, mup_ap, if_neg (fun w => y w.1 w.2)]
                  refine ⟨by omega, ?_⟩
                  rintro _ rfl
                  refine nx μ16 (fun b j y1 y2 => by rw [g16 b j (by omega), g11 b j (by omega)]) (fun p hp => ⟨by rw [g16 _ _ (by omega), g11 _ _ (by omega)], by rw [g16 _ _ (by omega), g11 _ _ (by omega)]⟩) ?_ ?_
                  · rw [g16 _ _ (by omega), e11, mup_at, n1, if_neg z]
                  · rw [e16, mup_at, n2]
                · intro μ11 e11
                  have g11 : ∀ b j : Int, (b = 207 → j ≠ q) → μ11 b j = μ8 b j := fun b j y => by rw [e11, mup_ap, if_neg (fun w => y w.1 w.2)]
                  rw [g11 208 q (by omega), hsq.2]
                  refine ⟨by omega, by omega, by omega, by omega, ?_⟩
                  intro μ16 e16
                  have g16 : ∀ b j : Int, (b = 208 → j ≠ q) → μ16 b j = μ11 b j := fun b j y => by rw [e16, mup_ap, if_neg (fun w => y w.1 w.2)]
                  refine ⟨by omega, ?_⟩
                  rintro _ rfl
                  refine nx μ16 (fun b j y1 y2 => by rw [g16 b j (by omega), g11 b j (by omega)]) (fun p hp => ⟨by rw [g16 _ _ (by omega), g11 _ _ (by omega)], by rw [g16 _ _ (by omega), g11 _ _ (by omega)]⟩) ?_ ?_
                  · rw [g16 _ _ (by omega), e11, mup_at, n1, if_pos z]
                  · rw [e16, mup_at, n2]
            exact people (hP (aH A)).toNat 0 μ7 (by omega) I7 hHM (fun p p0 p1 => ⟨fun z => by omega, fun _ => by rw [(e7 p).1, (e7 p).2]; exact hO.2 p p0 p1⟩)
          · rintro _ rfl
            refine ih (x + 1) μ1 (by omega) ⟨hO.1, fun p p0 p1 => ?_⟩
            have := hO.2 p p0 p1
            rw [nobSum, hicSum, en, z, Int.zero_mul, Int.add_zero, ite_self, Int.add_zero]
            exact this
        | succ r2 ih2 =>
          intro n hn
          have hwn := hwb n (by omega)
          have hwn1 := hwb (n + 1) (by omega)
          have h10 := p10 n (by omega)
          have h101 := p10 (n + 1) (by omega)
          have hsu := hws.2.2.2 n (by omega) (by omega)
          have e4 : μ1 184 (32 + 4 * (n : Int) + 3) = pSure (aP A) n := by
            have := (r1.mp.2.1 n (by omega) (by omega)).2.2.2
            rw [← this]
            show _ = μ1 184 (31 + (4 + 4 * (n : Int)))
            rw [show 31 + (4 + 4 * (n : Int)) = 32 + 4 * (n : Int) + 3 by omega]
          refine s_X10_laysChances_52 ⟨fun z => by omega, fun _ => cb_isIn (by omega) ⟨by omega, by omega⟩ ⟨by omega, by omega⟩ (fun hb => ⟨fun _ => ?_, fun y => absurd rfl y⟩) (fun hb => ⟨fun y => absurd y (by decide), fun _ => ?_⟩)⟩
          · have e1 : wtN (aP A) x (n + 1) = wtN (aP A) x n * (10 - pSure (aP A) n) := by rw [wtN, hb]; rfl
            rw [e4, ← e1]
            refine ⟨by omega, by omega, by omega, by omega, by omega, by omega, ?_⟩
            rintro _ rfl
            refine ⟨by omega, ?_⟩
            rintro _ rfl
            exact ih2 (n + 1) (by omega)
          · have e1 : wtN (aP A) x (n + 1) = wtN (aP A) x n * pSure (aP A) n := by rw [wtN, hb]; rfl
            rw [e4, ← e1]
            refine ⟨by omega, by omega, by omega, by omega, by omega, ?_⟩
            rintro _ rfl
            refine ⟨by omega, ?_⟩
            rintro _ rfl
            exact ih2 (n + 1) (by omega)
      exact inner (pN (aP A)).toNat 0 (by omega)
  have zero : ∀ (r i : Nat) (μ1 : Mem), i + r = 6 → SI μ μ1 A → (∀ j : Int, 0 ≤ j → j < i → μ1 207 j = 0 ∧ μ1 208 j = 0) → WQ mX10_laysChances 5 sc (ZV sc R) 6 [(2, 183), (0, (i : Int)), (9, 0), (9, 0), (9, 0), (9, 0)] [] μ1 := by
    intro r
    induction r with
    | zero =>
      intro i μ1 hi hI hz
      refine s_X10_laysChances_6 ⟨fun _ => ?_, fun z => by omega⟩
      exact sets (2 ^ (pN (aP A)).toNat) 0 μ1 (by omega) ⟨hI, fun p p0 p1 => hz p p0 (by omega)⟩
    | succ r ih =>
      intro i μ1 hi hI hz
      refine s_X10_laysChances_6 ⟨fun z => by omega, fun _ => ⟨by omega, ?_⟩⟩
      intro μ3 e3
      refine ⟨by omega, ?_⟩
      intro μ5 e5
      refine ⟨by omega, ?_⟩
      rintro _ rfl
      have f5 : ∀ b j, b ≠ 207 → b ≠ 208 → μ5 b j = μ1 b j := fun b j y1 y2 => by rw [e5, mup_ap, if_neg (fun w => y2 w.1), e3, mup_ap, if_neg (fun w => y1 w.1)]
      refine ih (i + 1) μ5 (by omega) (st hI (fun b j _ q2 => f5 b j (by omega) (by omega)) (hI.2.1.same (fun j => f5 _ _ (by omega) (by omega))) (fun a b a0 a1 b0 b1 hab => by rw [f5 _ _ (by omega) (by omega)]; exact hI.2.2 a b a0 a1 b0 b1 hab)) (fun j j0 j1 => ?_)
      rw [e5, e3, mup_ap, mup_ap, mup_ap, mup_ap]
      by_cases y : j = i
      · rw [if_neg (by omega), if_pos ⟨rfl, y⟩, if_pos ⟨rfl, y⟩]; exact ⟨rfl, rfl⟩
      · rw [if_neg (by omega), if_neg (by omega), if_neg (by omega), if_neg (by omega)]; exact hz j j0 (by omega)
  exact zero 6 0 μ2 rfl I2 (fun j j0 j1 => by omega)
theorem cm_chance {d : Nat} {sc : SC} {μ : Mem} {A : StT} {p w : Int} (hd : 56 ≤ d) (h : RY μ A) : CTi mX10_chance d sc [(2, 183), (0, p), (0, w)] μ (AM μ A (fun x => x = chanceS A p w)) := by
  have h6 := h.n6
  refine CTi_of mp_X10_chance (Nat.le_of_ble_eq_true rfl) ?_
  refine s_X10_chance_0 ?_
  intro μ1 e1
  have f1 := fw0 e1
  have r1 := h.same f1
  have bad : ¬ (ipS A p ∧ 0 ≤ w ∧ w ≤ 1) → AM μ A (fun x => x = chanceS A p w) (-2) μ1 := fun z => AM.of h f1 (if_neg z).symm
  refine cb_isPerson (by omega) r1.np h6 (fun z => ⟨fun _ => bad (fun y => z y.1), fun q => absurd rfl q⟩) (fun z => ⟨fun q => absurd q (by decide), fun _ => ?_⟩)
  refine cb_within (by omega) (fun zw => ⟨fun q => absurd rfl q, fun _ => bad (fun y => zw y.2)⟩) (fun zw => ⟨fun _ => cb_laysChances (by omega) r1 (fun μ9 f9 s9 => ?_), fun q => absurd q (by decide)⟩)
  have hws := h.wfs
  have ha := wfS.all hws
  have F9 := f1.tr f9
  have e31 : μ9 184 31 = pN (aP A) := (h.same F9).mp.1
  rw [e31, (s9 p z.1 z.2).1]
  refine ⟨⟨z.1, by have := z.2; omega⟩, byL (d' := 1) (by omega) (ct_wholeOf ⟨hws.2.1.1.1, hws.2.2.1⟩) ?_⟩
  rintro x _ ⟨rfl, rfl⟩
  exact cb_part hd (ha.2 p).1 ha.1 (AM.of h F9 (if_pos ⟨z, zw⟩).symm)
theorem cm_mean {d : Nat} {sc : SC} {μ : Mem} {A : StT} {p w : Int} (hd : 56 ≤ d) (h : RY μ A) : CTl mX10_mean d sc [(2, 183), (0, p), (0, w)] μ (AM μ A (fun x => x = meanS A p w)) := by
  have h6 := h.n6
  refine CTl_of mp_X10_mean (Nat.le_of_ble_eq_true rfl) ?_
  refine s_X10_mean_0 ?_
  intro μ1 e1
  have f1 := fw0 e1
  have r1 := h.same f1
  have bad : ¬ (ipS A p ∧ 0 ≤ w ∧ w ≤ 1) → AM μ A (fun x => x = meanS A p w) (-2) μ1 := fun z => AM.of h f1 (if_neg z).symm
  refine cb_isPerson (by omega) r1.np h6 (fun z => ⟨fun _ => bad (fun y => z y.1), fun q => absurd rfl q⟩) (fun z => ⟨fun q => absurd q (by decide), fun _ => ?_⟩)
  refine cb_within (by omega) (fun zw => ⟨fun q => absurd rfl q, fun _ => bad (fun y => zw y.2)⟩) (fun zw => ⟨fun _ => cb_laysChances (by omega) r1 (fun μ9 f9 s9 => ?_), fun q => absurd q (by decide)⟩)
  have hws := h.wfs
  have ha := wfS.all hws
  have F9 := f1.tr f9
  have e31 : μ9 184 31 = pN (aP A) := (h.same F9).mp.1
  rw [e31, (s9 p z.1 z.2).2]
  refine ⟨⟨z.1, by have := z.2; omega⟩, byL (d' := 1) (by omega) (ct_wholeOf ⟨hws.2.1.1.1, hws.2.2.1⟩) ?_⟩
  rintro x _ ⟨rfl, rfl⟩
  exact cb_part hd (ha.2 p).2 ha.1 (AM.of h F9 (if_pos ⟨z, zw⟩).symm)
theorem cm_famous {d : Nat} {sc : SC} {μ : Mem} {A : StT} (hd : 6 ≤ d) (h : RY μ A) : CTi mX10_famous d sc [(2, 183)] μ (AM μ A (fun x => x = famousS A)) := by
  have h6 := h.n6
  refine CTi_of mp_X10_famous (Nat.le_of_ble_eq_true rfl) ?_
  refine s_X10_famous_0 ?_
  intro μ1 e1
  have f1 := fw0 e1
  have r1 := h.same f1
  rw [r1.np]
  refine ⟨fun z => cb_laysChances hd r1 (fun μ' f s => ?_), fun z => AM.of h f1 (if_pos z).symm⟩
  have F := f1.tr f
  have e3 : μ' 184 3 = hP (aH A) := (h.same F).np
  have key : ∀ (r0 n : Nat), (n : Int) + 1 + r0 = hP (aH A) → WQ mX10_famous d sc (ZI sc (AM μ A (fun x => x = famousS A))) 24 [(2, 183), (0, famN A n), (0, (n : Int) + 1)] [] μ' := by
    intro r0
    induction r0 with
    | zero =>
      intro n hn
      refine s_X10_famous_24 ⟨fun _ => AM.of h F ?_, fun z => by omega⟩
      show _ = _
      unfold famousS; rw [if_neg z, show (hP (aH A) - 1).toNat = n by omega]
    | succ r0 ih =>
      intro n hn
      have hb := famN_b A n
      have s1 := (s ((n : Int) + 1) (by omega) (by omega)).2
      have s2 := (s (famN A n) hb.1 (by omega)).2
      have hstep : famN A (n + 1) = if hicAll A (famN A n) < hicAll A ((n + 1 : Nat) : Int) then ((n + 1 : Nat) : Int) else famN A n := rfl
      rw [show ((n + 1 : Nat) : Int) = (n : Int) + 1 by omega] at hstep
      have hi := ih (n + 1) (by omega)
      rw [hstep, show ((n + 1 : Nat) : Int) = (n : Int) + 1 by omega] at hi
      refine s_X10_famous_24 ⟨fun z => by omega, fun _ => ⟨by omega, by omega, ?_⟩⟩
      rw [s1, s2]
      refine ⟨fun z => ⟨by omega, ?_⟩, fun z => ⟨by omega, ?_⟩⟩
      · rintro _ rfl
        rw [if_neg (by omega)] at hi
        exact hi
      · rintro _ rfl
        rw [if_pos z] at hi
        exact hi
  exact key (hP (aH A) - 1).toNat 0 (by omega)

/-! CHANCES: all sets of namings -/
def hicC (H : HillT) (P PN : PlanT) (p : Int) : Int := hicN (hicL (daySt (gapQ H P) (ansQ H P) PN 100) 100) p
def nobSum (H : HillT) (P : PlanT) (p : Int) : Nat → Int
  | 0 => 0
  | x + 1 => nobSum H P p x + if hicC H P (someN P x (pN P).toNat) p = 0 then wtN P x (pN P).toNat else 0
def hicSum (H : HillT) (P : PlanT) (p : Int) : Nat → Int
  | 0 => 0
  | x + 1 => hicSum H P p x + wtN P x (pN P).toNat * hicC H P (someN P x (pN P).toNat) p
theorem hicC_b {H : HillT} {P PN : PlanT} (hn : pN PN ≤ 10) (p : Int) : 0 ≤ hicC H P PN p ∧ hicC H P PN p ≤ 500 := by
  unfold hicC
  have h1 := hicN_b (hicL (daySt (gapQ H P) (ansQ H P) PN 100) 100) p
  have h2 := hicL_le (daySt (gapQ H P) (ansQ H P) PN 100) 100
  have h3 := daySt_len (ans := ansQ H P) (gapQ_ok H P) hn (Nat.le_refl 100)
  omega
theorem sum_b {H : HillT} {P : PlanT} {p : Int} (hn : 0 ≤ pN P ∧ pN P ≤ 8) (hs : ∀ k, 0 ≤ k → k < pN P → 0 ≤ pSure P k ∧ pSure P k ≤ 10) : ∀ x : Nat, (0 ≤ nobSum H P p x ∧ nobSum H P p x ≤ 100000000 * x) ∧ (0 ≤ hicSum H P p x ∧ hicSum H P p x ≤ 50000000000 * x) := by
  intro x
  induction x with
  | zero => exact ⟨⟨Int.le_refl _, Int.le_refl _⟩, ⟨Int.le_refl _, Int.le_refl _⟩⟩
  | succ x ih =>
    have hb := wtN_b (x := x) (n := (pN P).toNat) (P := P) (fun k k0 k1 => hs k k0 (by omega)) (pN P).toNat (Nat.le_refl _)
    have h10 := p10 (pN P).toNat (by omega)
    have hnn := someN_n P x (pN P).toNat
    have hc := hicC_b (H := H) (P := P) (PN := someN P x (pN P).toNat) (by omega) p
    rw [nobSum, hicSum]
    generalize wtN P x (pN P).toNat = w at *
    generalize hicC H P (someN P x (pN P).toNat) p = c at *
    have m1 : w * c ≤ 100000000 * 500 := Int.mul_le_mul (by omega) hc.2 hc.1 (by decide)
    have m2 : 0 ≤ w * c := Int.mul_nonneg hb.1 hc.1
    refine ⟨?_, by omega⟩
    split <;> omega
theorem spk_none {PN : PlanT} {np : Int} {gap : Int → Int} {ans : Int → Int → Bool} (h : wfNp np PN) (u : Nat) : spkAt gap ans PN (-1) u = false := by
  unfold spkAt spk
  rw [List.any_eq_false]
  intro k hk
  have hk := ksF_mem.mp hk
  have := h.2 k (by omega) (by omega)
  simp
  intro _
  omega
/-- the whole day, nobody watched -/
def FRd (μ μ' : Mem) (a L : Int) : Prop := ∀ b j, b < a ∨ a + 11 < b → b ≠ L + 4 → b ≠ L + 5 → b ≠ L + 6 → b ≠ L + 7 → μ' b j = μ b j
theorem ca_day {d : Nat} {sc : SC} {μ : Mem} {a L h p tp : Int} {H : HillT} {P PN : PlanT} {R : Int → Mem → Prop} (hd : 7 ≤ d) (ha : isK 0 a) (htp : isK 6 tp) (hX : LRep μ L h p H P) (hN : XN μ tp PN) (hw : wfNp (hP H) PN)
    (k : ∀ μ', FRd μ μ' a L → LRep μ' L h p H P → DayD μ' a H P PN 100 → R 1 μ') : CAi mX0_run d sc [(2, a), (2, tp), (2, L), (0, 99), (0, (-1))] μ R := by
  have hr := ct_run (d := 6) (sc := sc) (w := -1) (last := 99) (Nat.le_refl _) ha htp hX hN hw (by decide)
  rw [show (min ((99 : Int) + 1) 100).toNat = 100 by decide] at hr
  refine byI (d' := 6) (by omega) hr ?_
  rintro x μ' ⟨r1, r2, r3⟩
  rcases r3 with ⟨rfl, x2, _⟩ | ⟨_, u, _, u2, _⟩
  · exact k μ' r1 r2 x2
  · rw [spk_none hw] at u2; exact absurd u2 (by decide)
def FRo (μ μ' : Mem) : Prop := ∀ b j, (b < 101 ∨ 104 < b) → (b < 117 ∨ 119 < b) → (b < 121 ∨ 126 < b) → (b < 135 ∨ 146 < b) → μ' b j = μ b j
theorem FRo.tr {μ1 μ2 μ3 : Mem} (h : FRo μ1 μ2) (h' : FRo μ2 μ3) : FRo μ1 μ3 := fun b j q1 q2 q3 q4 => by rw [h' b j q1 q2 q3 q4]; exact h b j q1 q2 q3 q4
theorem shl2 : ∀ n : Nat, n < 9 → iShl 1 n = ((2 ^ n : Nat) : Int) := by decide +kernel
theorem ct_reckon {d : Nat} {sc : SC} {μ : Mem} {h : Int} {H : HillT} {P : PlanT} (hd : 8 ≤ d) (hL : LRep μ 97 h (h + 7) H P) (hw : wfNp (hP H) P) (hn8 : pN P ≤ 8) (hs : ∀ k, 0 ≤ k → k < pN P → 0 ≤ pSure P k ∧ pSure P k ≤ 10) :
    CTv mX4_reckon d sc [(2, 117), (2, h), (2, 97), (2, 121), (2, 135)] μ (fun μ' => FRo μ μ' ∧ LRep μ' 97 h (h + 7) H P ∧ μ' 117 0 = 1 ∧ μ' 117 1 = 10 ^ (pN P).toNat ∧ ∀ q, 0 ≤ q → q < hP H → μ' 118 q = nobSum H P q (2 ^ (pN P).toNat) ∧ μ' 119 q = hicSum H P q (2 ^ (pN P).toNat)) := by
  have hh := hL.1.2.1
  have hhv := ik_1 hh
  have k7 := hL.1.2.2.1
  have hp6 := hL.1.2.2.2.2.2.2.2.1.2.2.1
  have hn0 := hw.1
  have f118 := kf_4_2 k_117
  have f119 := kf_4_3 k_117
  generalize hN : (pN P).toNat = N at *
  have hN8 : N ≤ 8 := by omega
  have hpow : (2 ^ N : Nat) ≤ 256 := by
    have H : ∀ m : Nat, m < 9 → 2 ^ m ≤ 256 := by decide +kernel
    exact H N (by omega)
  -- inner loop: persons
  have inner : ∀ (x : Nat) (w : Int) (r q : Nat) (μ1 : Mem), x < 2 ^ N → w = wtN P x N → (q : Int) + r = hP H → FRo μ μ1 → LRep μ1 97 h (h + 7) H P → DayD μ1 135 H P (someN P x N) 100 → μ1 117 1 = 10 ^ N →
      (∀ o, 0 ≤ o → o < hP H → μ1 118 o = (if o < q then nobSum H P o (x + 1) else nobSum H P o x) ∧ μ1 119 o = if o < q then hicSum H P o (x + 1) else hicSum H P o x) →
      (∀ μ1 : Mem, FRo μ μ1 → LRep μ1 97 h (h + 7) H P → μ1 117 1 = 10 ^ N → (∀ o, 0 ≤ o → o < hP H → μ1 118 o = nobSum H P o (x + 1) ∧ μ1 119 o = hicSum H P o (x + 1)) → WQ mX4_reckon d sc (ZV sc (fun μ' => FRo μ μ' ∧ LRep μ' 97 h (h + 7) H P ∧ μ' 117 0 = 1 ∧ μ' 117 1 = 10 ^ N ∧ ∀ q, 0 ≤ q → q < hP H → μ' 118 q = nobSum H P q (2 ^ N) ∧ μ' 119 q = hicSum H P q (2 ^ N))) 61 [(2, 117), (2, h), (2, 97), (2, 121), (2, 135), (2, h + 7), (0, ((x + 1 : Nat) : Int)), (9, 0), (9, 0), (9, 0)] [] μ1) →
      WQ mX4_reckon d sc (ZV sc (fun μ' => FRo μ μ' ∧ LRep μ' 97 h (h + 7) H P ∧ μ' 117 0 = 1 ∧ μ' 117 1 = 10 ^ N ∧ ∀ q, 0 ≤ q → q < hP H → μ' 118 q = nobSum H P q (2 ^ N) ∧ μ' 119 q = hicSum H P q (2 ^ N))) 104 [(2, 117), (2, h), (2, 97), (2, 121), (2, 135), (2, h + 7), (0, (x : Int)), (1, w), (9, 0), (0, (q : Int))] [] μ1 := by
    intro x w r
    induction r with
    | zero =>
      intro q μ1 hx hwt hq hF hLR hD h1 hsum hk
      refine s_X4_reckon_104 hh k_97 k_121 k_135 k7 ⟨fun _ => ⟨by omega, ?_⟩, fun z => by rw [← hLR.1.2.2.2.2.2.1.2.2.2.1] at z; omega⟩
      rintro _ rfl
      refine hk μ1 hF hLR h1 (fun o o0 o1 => ?_)
      have := hsum o o0 o1
      rwa [if_pos (by omega), if_pos (by omega)] at this
    | succ r ih =>
      intro q μ1 hx hwt hq hF hLR hD h1 hsum hk
      have hc : μ1 (135 + 3) q = hicC H P (someN P x N) q := by
        have := hD.1.2.2 q (by omega) (by omega)
        rw [this]; rfl
      have hnn := someN_n P x N
      have hcb := hicC_b (H := H) (P := P) (PN := someN P x N) (by omega) q
      have hb := wtN_b (x := x) (n := N) (P := P) (fun k k0 k1 => hs k k0 (by omega)) N (Nat.le_refl _)
      have h10 := p10 N hN8
      have hsb := sum_b (H := H) (p := q) ⟨hn0.1, hn8⟩ hs x
      obtain ⟨s1, s2⟩ := hsum q (by omega) (by omega)
      rw [if_neg (by omega)] at s1 s2
      have en : nobSum H P q (x + 1) = nobSum H P q x + if hicC H P (someN P x N) q = 0 then w else 0 := by rw [nobSum, hN, hwt]
      have eh : hicSum H P q (x + 1) = hicSum H P q x + w * hicC H P (someN P x N) q := by rw [hicSum, hN, hwt]
      have m1 : w * hicC H P (someN P x N) q ≤ 100000000 * 500 := Int.mul_le_mul (by omega) hcb.2 hcb.1 (by decide)
      have m2 : 0 ≤ w * hicC H P (someN P x N) q := Int.mul_nonneg (by omega) hcb.1
      -- both ways end so
      have fin : ∀ (v : Int), v = nobSum H P q (x + 1) → ∀ μ9 : Mem, μ9 = mup μ1 118 q v →
          (0 ≤ (q : Int) ∧ (q : Int) < 6) ∧ (0 ≤ (q : Int) ∧ (q : Int) < 6) ∧ (-9223372036854775808 ≤ w * (μ9 (135 + 3) q) ∧ w * (μ9 (135 + 3) q) < 9223372036854775808) ∧ (-9223372036854775808 ≤ (μ9 119 q) + (w * (μ9 (135 + 3) q)) ∧ (μ9 119 q) + (w * (μ9 (135 + 3) q)) < 9223372036854775808) ∧ (0 ≤ (q : Int) ∧ (q : Int) < 6) ∧ (∀ μ15, μ15 = mup μ9 119 q ((μ9 119 q) + (w * (μ9 (135 + 3) q))) → (-2147483648 ≤ (q : Int) + 1 ∧ (q : Int) + 1 < 2147483648) ∧ ∀ v17 : Int, v17 = (q : Int) + 1 → WQ mX4_reckon d sc (ZV sc (fun μ' => FRo μ μ' ∧ LRep μ' 97 h (h + 7) H P ∧ μ' 117 0 = 1 ∧ μ' 117 1 = 10 ^ N ∧ ∀ q, 0 ≤ q → q < hP H → μ' 118 q = nobSum H P q (2 ^ N) ∧ μ' 119 q = hicSum H P q (2 ^ N))) 104 [(2, 117), (2, h), (2, 97), (2, 121), (2, 135), (2, h + 7), (0, (x : Int)), (1, w), (9, 0), (0, v17)] [] μ15) := by
        intro v hv μ9 e9
        have g9 : ∀ b j : Int, (b = 118 → j ≠ q) → μ9 b j = μ1 b j := fun b j z => by rw [e9, mup_ap, if_neg (fun y => z y.1 y.2)]
        rw [g9 (135 + 3) _ (by omega), g9 119 _ (by omega), hc, s2]
        refine ⟨by omega, by omega, by omega, by omega, by omega, ?_⟩
        intro μ15 e15
        have g15 : ∀ b j : Int, (b = 118 ∨ b = 119 → j ≠ q) → μ15 b j = μ1 b j := fun b j z => by rw [e15, mup_ap, if_neg (fun y => z (Or.inr y.1) y.2), g9 b j (fun y => z (Or.inl y))]
        refine ⟨by omega, ?_⟩
        rintro _ rfl
        refine ih (q + 1) μ15 hx hwt (by omega) (hF.tr (fun b j z1 z2 z3 z4 => g15 b j (by omega))) (hLR.same (fun b j z => g15 b j (by omega))) ?_ ?_ (fun o o0 o1 => ?_) hk
        · obtain ⟨d1, d2, d3, d4⟩ := hD
          exact ⟨d1.same (g15 _ _ (by omega)) (fun b j z1 z2 => g15 b j (by omega)), fun o o0 o1 => by rw [g15 _ _ (by omega)]; exact d2 o o0 o1, fun o o0 o1 => by rw [g15 _ _ (by omega)]; exact d3 o o0 o1, by rw [g15 _ _ (by omega)]; exact d4⟩
        · rw [g15 _ _ (by omega)]; exact h1
        · by_cases hoq : o = q
          · rw [hoq, if_pos (by omega), if_pos (by omega)]
            refine ⟨?_, ?_⟩
            · rw [e15, mup_ap, if_neg (fun y => by omega), e9, mup_ap, if_pos ⟨rfl, rfl⟩]; exact hv
            · rw [e15, mup_ap, if_pos ⟨rfl, rfl⟩, eh]
          · rw [g15 _ _ (fun _ => hoq), g15 _ _ (fun _ => hoq)]
            have := hsum o o0 o1
            by_cases ho2 : o < q
            · rw [if_pos ho2, if_pos ho2] at this
              rw [if_pos (by omega), if_pos (by omega)]; exact this
            · rw [if_neg ho2, if_neg ho2] at this
              rw [if_neg (by omega), if_neg (by omega)]; exact this
      refine s_X4_reckon_104 hh k_97 k_121 k_135 k7 ⟨fun z => by rw [← hLR.1.2.2.2.2.2.1.2.2.2.1] at z; omega, fun _ => ⟨by omega, by omega, ?_, ?_⟩⟩
      · intro hne
        rw [hc] at hne
        rw [if_neg hne] at en
        rw [s1]
        exact ⟨by omega, by omega, fin _ en.symm⟩
      · intro heq
        rw [hc] at heq
        rw [if_pos heq] at en
        rw [s1]
        exact ⟨by omega, by omega, fin _ en.symm⟩
  -- sets
  have sets : ∀ (r x : Nat) (μ1 : Mem), x + r = 2 ^ N → FRo μ μ1 → LRep μ1 97 h (h + 7) H P → μ1 117 1 = 10 ^ N → (∀ o, 0 ≤ o → o < hP H → μ1 118 o = nobSum H P o x ∧ μ1 119 o = hicSum H P o x) →
      WQ mX4_reckon d sc (ZV sc (fun μ' => FRo μ μ' ∧ LRep μ' 97 h (h + 7) H P ∧ μ' 117 0 = 1 ∧ μ' 117 1 = 10 ^ N ∧ ∀ q, 0 ≤ q → q < hP H → μ' 118 q = nobSum H P q (2 ^ N) ∧ μ' 119 q = hicSum H P q (2 ^ N))) 61 [(2, 117), (2, h), (2, 97), (2, 121), (2, 135), (2, h + 7), (0, (x : Int)), (9, 0), (9, 0), (9, 0)] [] μ1 := by
    intro r
    induction r with
    | zero =>
      intro x μ1 hx hF hLR h1 hsum
      have hn1 : μ1 (h + 7) 0 = (N : Int) := by rw [hLR.1.2.2.2.2.2.2.1.1]; omega
      refine s_X4_reckon_61 hh k_97 k_121 k_135 k7 ⟨fun _ => ?_, fun z => by rw [hn1, shl2 N (by omega)] at z; omega⟩
      rintro _ rfl
      have g : ∀ b j, (b = 117 → j ≠ 0) → mup μ1 117 0 1 b j = μ1 b j := fun b j z => by rw [mup_ap, if_neg (fun y => z y.1 y.2)]
      refine ⟨hF.tr (fun b j z1 z2 z3 z4 => g b j (by omega)), hLR.same (fun b j z => g b j (by omega)), by rw [mup_ap, if_pos ⟨rfl, rfl⟩], by rw [g _ _ (by omega)]; exact h1, fun o o0 o1 => ?_⟩
      rw [g _ _ (by omega), g _ _ (by omega), ← hx, Nat.add_zero]
      exact hsum o o0 o1
    | succ r ih =>
      intro x μ1 hx hF hLR h1 hsum
      have hn1 : μ1 (h + 7) 0 = (N : Int) := by rw [hLR.1.2.2.2.2.2.2.1.1]; omega
      refine s_X4_reckon_61 hh k_97 k_121 k_135 k7 ⟨fun z => by rw [hn1, shl2 N (by omega)] at z; omega, fun _ => ?_⟩
      have hct := ct_tellSome (d := 1) (sc := sc) (x := x) (Nat.le_refl _) k7 k_121 (by omega) hLR.1.2.2.2.2.2.2.1.n ⟨hn0.1, hn8⟩ hs
      rw [hN] at hct
      refine byL (d' := 1) (by omega) hct ?_
      rintro w μ4 ⟨hw4, f4, n4⟩
      have F4 : FRo μ μ4 := hF.tr (fun b j z1 z2 z3 z4 => f4 b j (by omega))
      have L4 : LRep μ4 97 h (h + 7) H P := hLR.same (fun b j z => f4 b j (by omega))
      have o4 : μ4 117 1 = 10 ^ N := by rw [f4 _ _ (by omega)]; exact h1
      have s4 : ∀ o, 0 ≤ o → o < hP H → μ4 118 o = nobSum H P o x ∧ μ4 119 o = hicSum H P o x := fun o o0 o1 => by rw [f4 _ _ (by omega), f4 _ _ (by omega)]; exact hsum o o0 o1
      refine ⟨fun hz => ⟨by omega, ?_⟩, fun hz => ?_⟩
      · rintro _ rfl
        refine ih (x + 1) μ4 (by omega) F4 L4 o4 (fun o o0 o1 => ?_)
        rw [nobSum, hicSum, hN, ← hw4, hz]
        have := s4 o o0 o1
        rw [this.1, this.2, Int.zero_mul]
        refine ⟨by split <;> omega, by omega⟩
      · have hwf := someN_wf (x := x) hw N (by omega)
        refine ca_day (by omega) k_135 k_121 L4 (n4 hz) hwf ?_
        intro μ9 f9 L9 D9
        exact inner x w (hP H).toNat 0 μ9 (by omega) hw4 (by omega) (F4.tr (fun b j z1 z2 z3 z4 => f9 b j (by omega) (by omega) (by omega) (by omega) (by omega))) L9 D9 (by rw [f9 _ _ (by omega) (by omega) (by omega) (by omega) (by omega)]; exact o4) (fun o o0 o1 => by
          rw [f9 _ _ (by omega) (by omega) (by omega) (by omega) (by omega), f9 _ _ (by omega) (by omega) (by omega) (by omega) (by omega), if_neg (by omega), if_neg (by omega)]
          exact s4 o o0 o1) (fun μ1 a1 a2 a3 a4 => ih (x + 1) μ1 (by omega) a1 a2 a3 a4)
  -- all
  have alls : ∀ (r k : Nat) (μ1 : Mem), k + r = N → FRo μ μ1 → LRep μ1 97 h (h + 7) H P → μ1 117 1 = 10 ^ k → (∀ o, 0 ≤ o → o < hP H → μ1 118 o = 0 ∧ μ1 119 o = 0) →
      WQ mX4_reckon d sc (ZV sc (fun μ' => FRo μ μ' ∧ LRep μ' 97 h (h + 7) H P ∧ μ' 117 0 = 1 ∧ μ' 117 1 = 10 ^ N ∧ ∀ q, 0 ≤ q → q < hP H → μ' 118 q = nobSum H P q (2 ^ N) ∧ μ' 119 q = hicSum H P q (2 ^ N))) 30 [(2, 117), (2, h), (2, 97), (2, 121), (2, 135), (2, h + 7), (0, (k : Int)), (9, 0), (9, 0), (9, 0)] [] μ1 := by
    intro r
    induction r with
    | zero =>
      intro k μ1 hk hF hLR h1 hz
      have hn1 : μ1 (h + 7) 0 = (N : Int) := by rw [hLR.1.2.2.2.2.2.2.1.1]; omega
      refine s_X4_reckon_30 hh k_97 k_121 k_135 k7 ⟨fun _ => ?_, fun z => by omega⟩
      rw [Nat.add_zero] at hk
      rw [hk] at h1
      exact sets (2 ^ N) 0 μ1 (by omega) hF hLR h1 hz
    | succ r ih =>
      intro k μ1 hk hF hLR h1 hz
      have hn1 : μ1 (h + 7) 0 = (N : Int) := by rw [hLR.1.2.2.2.2.2.2.1.1]; omega
      have h10 := p10 (k + 1) (by omega)
      have e : (10 : Int) ^ k * 10 = 10 ^ (k + 1) := (Int.pow_succ 10 k).symm
      refine s_X4_reckon_30 hh k_97 k_121 k_135 k7 ⟨fun z => by omega, fun _ => ?_⟩
      rw [h1, e]
      refine ⟨by omega, ?_⟩
      rintro _ rfl
      refine ⟨by omega, ?_⟩
      rintro _ rfl
      have g : ∀ b j, (b = 117 → j ≠ 1) → mup μ1 117 1 (10 ^ (k + 1)) b j = μ1 b j := fun b j z => by rw [mup_ap, if_neg (fun y => z y.1 y.2)]
      exact ih (k + 1) _ (by omega) (hF.tr (fun b j z1 z2 z3 z4 => g b j (by omega))) (hLR.same (fun b j z => g b j (by omega))) (by rw [mup_ap, if_pos ⟨rfl, rfl⟩]) (fun o o0 o1 => by rw [g _ _ (by omega), g _ _ (by omega)]; exact hz o o0 o1)
  refine CTv_of mp_X4_reckon (Nat.le_of_ble_eq_true rfl) ?_
  refine s_X4_reckon_0 hh k_97 k_121 k_135 ?_
  refine byV (d' := 1) (by omega) (ct_fillL f118 (by decide)) ?_
  intro μ2 h2
  refine byV (d' := 1) (by omega) (ct_fillL f119 (by decide)) ?_
  intro μ4 h4
  rintro _ rfl
  have g : ∀ b j, (b < 117 ∨ 119 < b) → mup μ4 117 1 1 b j = μ b j := fun b j z => by rw [mup_ap, if_neg (fun y => by omega), h4, if_neg (fun y => by omega), h2, if_neg (fun y => by omega)]
  refine alls N 0 _ (by omega) (fun b j z1 z2 z3 z4 => g b j z2) (hL.same (fun b j z => g b j (by omega))) (by rw [mup_ap, if_pos ⟨rfl, rfl⟩]; rfl) (fun o o0 o1 => ⟨?_, ?_⟩)
  · rw [mup_ap, if_neg (fun y => by omega), h4, if_neg (fun y => by omega), h2, if_pos ⟨by decide, o0, by omega⟩]
  · rw [mup_ap, if_neg (fun y => by omega), h4, if_pos ⟨by decide, o0, by omega⟩]

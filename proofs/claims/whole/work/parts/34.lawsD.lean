/-! THE CLASS'S LAWS: the answers that are kept in bits; all pairs learnt -/
def bitL (x j : Int) : Prop := lAnd x (lShl 1 j) ≠ 0
theorem oi_lShl (x y : Int) : Int64.ofInt (lShl x y) = Int64.ofInt x <<< ((Int32.ofInt y).toInt64 &&& 63) := oi64 _
theorem oi_lOr (x y : Int) : Int64.ofInt (lOr x y) = Int64.ofInt x ||| Int64.ofInt y := oi64 _
theorem ti0 (z : Int64) : z.toInt = 0 ↔ z = 0 := by rw [← Int64.toInt_inj]; rfl
theorem bit_tt : ∀ i : Nat, i < 64 → ∀ j : Nat, j < 64 → (lAnd (lShl 1 i) (lShl 1 j) ≠ 0 ↔ i = j) := by decide +kernel
theorem i64_dist (a b c : Int64) : (a ||| b) &&& c = (a &&& c) ||| (b &&& c) := by
  apply Int64.toBitVec_inj.mp
  simp only [Int64.toBitVec_and, Int64.toBitVec_or]
  apply BitVec.eq_of_getLsbD_eq
  intro i _
  simp only [BitVec.getLsbD_and, BitVec.getLsbD_or]
  cases a.toBitVec.getLsbD i <;> cases b.toBitVec.getLsbD i <;> cases c.toBitVec.getLsbD i <;> rfl
theorem i64_or0 (a b : Int64) : a ||| b = 0 ↔ a = 0 ∧ b = 0 := by
  rw [← Int64.toBitVec_inj, ← Int64.toBitVec_inj, ← Int64.toBitVec_inj, Int64.toBitVec_or]
  exact BitVec.or_eq_zero_iff
theorem bit_or {x i j : Int} (hi : 0 ≤ i ∧ i < 64) (hj : 0 ≤ j ∧ j < 64) : bitL (lOr x (lShl 1 i)) j ↔ bitL x j ∨ i = j := by
  have h := bit_tt i.toNat (by omega) j.toNat (by omega)
  rw [show ((i.toNat : Nat) : Int) = i by omega, show ((j.toNat : Nat) : Int) = j by omega] at h
  unfold bitL lAnd at *
  rw [oi_lOr, i64_dist]
  simp only [ne_eq, ti0] at *
  rw [i64_or0]
  constructor
  · intro q
    by_cases q1 : Int64.ofInt x &&& Int64.ofInt (lShl 1 j) = 0
    · exact Or.inr (by have := h.mp (fun z => q ⟨q1, z⟩); omega)
    · exact Or.inl q1
  · rintro (q | q) ⟨q1, q2⟩
    · exact q q1
    · exact h.mpr (by omega) q2
theorem bit_or0 {x j : Int} : bitL (lOr x 0) j ↔ bitL x j := by
  unfold bitL lAnd
  rw [oi_lOr, show Int64.ofInt 0 = 0 from rfl]
  have : Int64.ofInt x ||| 0 = Int64.ofInt x := by
    apply Int64.toBitVec_inj.mp
    rw [Int64.toBitVec_or]
    exact BitVec.or_zero
  rw [this]
theorem bit_0 {j : Int} : ¬ bitL 0 j := by
  unfold bitL lAnd
  intro h
  apply h
  rw [show Int64.ofInt 0 = 0 from rfl, ti0]
  apply Int64.toBitVec_inj.mp
  rw [Int64.toBitVec_and]
  exact BitVec.zero_and
theorem min_ix {t : Int} (h : 0 ≤ t ∧ t < 100) : iShr t 6 = t / 64 ∧ iAnd t 63 = t % 64 := by
  have : ∀ n : Nat, n < 100 → iShr n 6 = (n : Int) / 64 ∧ iAnd n 63 = (n : Int) % 64 := by decide +kernel
  have h2 := this t.toNat (by omega)
  rwa [show ((t.toNat : Nat) : Int) = t by omega] at h2
theorem envS_upto {h : HillT} {p : PlanT} {a b g m g' m' i : Int} (h0 : 0 ≤ i) (h1 : i ≤ 6) : envS h p a b g m i = envS h p a b g' m' i := by
  unfold envS
  grind
def cacheOK (μ : Mem) (L : Int) (H : HillT) (P : PlanT) : Prop := ∀ a b t, 0 ≤ a → a < hP H → 0 ≤ b → b < hP H → a ≠ b → 0 ≤ t → t < 100 → (bitL (μ (L + 6) (2 * (a * 6 + b) + t / 64)) (t % 64) → (bitL (μ (L + 7) (2 * (a * 6 + b) + t / 64)) (t % 64) ↔ ansS H P a b t)) ∧ (bitL (μ (L + 7) (2 * (a * 6 + b) + t / 64)) (t % 64) → bitL (μ (L + 6) (2 * (a * 6 + b) + t / 64)) (t % 64))
def LG (μ : Mem) (L : Int) (H : HillT) (P : PlanT) : Prop := ∀ a b, 0 ≤ a → a < hP H → 0 ≤ b → b < hP H → a ≠ b → μ (L + 2) (a * 6 + b) = gapS H P a b ∧ μ (L + 3) (a * 6 + b) = pitchS H P a b ∧ μ (L + 1) (a * 6 + b) = farOf H P a b
/-- the laws' object holds what its hill and plan tell -/
def LRep (μ : Mem) (L h p : Int) (H : HillT) (P : PlanT) : Prop := LC μ L h p H P ∧ LG μ L H P ∧ cacheOK μ L H P
theorem ans01 {h : HillT} {p : PlanT} (hw : wfH h) (hp : wfP h p) {a b t : Int} (ha : 0 ≤ a ∧ a < hP h) (hb : 0 ≤ b ∧ b < hP h) (ht : 0 ≤ t ∧ t < 100) (h2 : 0 < hLen h 2) : ev (envS h p a b (gapS h p a b) t) (hCode h 2) (hLen h 2) = 0 ∨ ev (envS h p a b (gapS h p a b) t) (hCode h 2) (hLen h 2) = 1 := by
  have hl := hw.2.2.2.2 2 (by decide) (by decide)
  have hwf := hl.2.1 h2
  have hg := gapS_b h p a b
  have hok := ev_ok (envS_b hw hp ha hb (g := gapS h p a b) (m := t) (by omega) (by omega)) hwf (hLen h 2).toNat (by omega)
  have htop : (evN (envS h p a b (gapS h p a b) t) (hCode h 2) (hLen h 2).toNat).1 = 1 := by rw [← ty_ev]; exact hwf.2.1
  exact (hok.2.2 0 (by decide) (by omega)).2 (by rw [hwf.2.2, if_pos rfl])
theorem pair6 {a b : Int} (ha : 0 ≤ a ∧ a < 6) (hb : 0 ≤ b ∧ b < 6) : (a * 6 + b) / 6 = a ∧ (a * 6 + b) % 6 = b ∧ 0 ≤ a * 6 + b ∧ a * 6 + b < 36 := by omega
theorem ct_isAnswered {d : Nat} {sc : SC} {μ : Mem} {L h p a b t : Int} {H : HillT} {P : PlanT} (hd : 4 ≤ d) (hX : LRep μ L h p H P) (ha : 0 ≤ a ∧ a < hP H) (hb : 0 ≤ b ∧ b < hP H) (hab : a ≠ b) (ht : 0 ≤ t ∧ t < 100) :
    CTi mX3_isAnswered d sc [(2, L), (0, a * 6 + b), (0, t)] μ (fun x μ' => (x = 1 ↔ ansS H P a b t) ∧ (x = 0 ∨ x = 1) ∧ (∀ b j, b ≠ L + 4 → b ≠ L + 5 → b ≠ L + 6 → b ≠ L + 7 → μ' b j = μ b j) ∧ LRep μ' L h p H P) := by
  obtain ⟨hX, hg, hc⟩ := hX
  obtain ⟨a1, a2, a3, a4, a5, a6, a7, a8, a9⟩ := id hX
  have h6 := a8.2.2.1
  have hpr := pair6 (a := a) (b := b) (by omega) (by omega)
  have hlw := a8.2.2.2.2 2 (by decide) (by decide)
  have hix := min_ix ht
  have hgb := gapS_b H P a b
  refine CTi_of mp_X3_isAnswered (Nat.le_of_ble_eq_true rfl) ?_
  refine s_X3_isAnswered_0 a1 ?_
  rw [a4]
  refine ⟨a2, byI (d' := 2) (by omega) (ct_hasLaw a2 a6 (by decide)) ?_⟩
  rintro r μ3 ⟨rfl, rfl⟩
  refine ⟨fun z => ?_, fun z => ⟨⟨fun q => absurd q (by decide), fun q => absurd z (by rw [if_pos q.1]; decide)⟩, Or.inl rfl, fun _ _ _ _ _ _ => rfl, hX, hg, hc⟩⟩
  have hq : 0 < hLen H 2 := by
    by_cases q : 0 < hLen H 2
    · exact q
    · rw [if_neg q] at z; exact absurd rfl z
  rw [hix.1, hix.2]
  refine ⟨by omega, by omega, ?_⟩
  rintro _ rfl _ rfl
  have hv : 0 ≤ 2 * (a * 6 + b) + t / 64 ∧ 2 * (a * 6 + b) + t / 64 < 72 := by omega
  have hm64 : 0 ≤ t % 64 ∧ t % 64 < 64 := by omega
  -- the end
  have hend : ∀ μ4 : Mem, LRep μ4 L h p H P → bitL (μ4 (L + 6) (2 * (a * 6 + b) + t / 64)) (t % 64) → (∀ b j, b ≠ L + 4 → b ≠ L + 5 → b ≠ L + 6 → b ≠ L + 7 → μ4 b j = μ3 b j) →
      WQ mX3_isAnswered d sc (ZI sc (fun x μ' => (x = 1 ↔ ansS H P a b t) ∧ (x = 0 ∨ x = 1) ∧ (∀ b j, b ≠ L + 4 → b ≠ L + 5 → b ≠ L + 6 → b ≠ L + 7 → μ' b j = μ3 b j) ∧ LRep μ' L h p H P)) 111 [(2, L), (9, 0), (9, 0), (0, 2 * (a * 6 + b) + t / 64), (1, lShl 1 (t % 64)), (9, 0)] [] μ4 := by
    intro μ4 hR hbit hf
    have hk := hR.2.2 a b t ha.1 ha.2 hb.1 hb.2 hab ht.1 ht.2
    have hk := hk.1 hbit
    refine s_X3_isAnswered_111 a1 ⟨hv, fun y => ⟨⟨fun q => absurd q (by decide), fun q => absurd y (hk.mpr q)⟩, Or.inl rfl, hf, hR⟩, fun y => ⟨⟨fun _ => hk.mp y, fun _ => rfl⟩, Or.inr rfl, hf, hR⟩⟩
  refine ⟨hv, fun y => hend μ3 ⟨hX, hg, hc⟩ y (fun _ _ _ _ _ _ => rfl), fun y => ?_⟩
  refine ⟨by omega, by omega, ?_⟩
  rw [hpr.1, hpr.2.1]
  refine byV (d' := 2) (by omega) (ct_nameTwo (Nat.le_refl _) hX ha hb) ?_
  rintro μ14 ⟨n1, n2, n3⟩
  refine ⟨by omega, ?_⟩
  rintro _ rfl _ rfl
  have hL : ∀ i j : Int, 0 < i → i < 8 → (L + i = L + j) = (i = j) := fun i j _ _ => by apply propext; omega
  have e2 : μ14 (L + 2) (a * 6 + b) = gapS H P a b := (n1 _ _ (by omega)).trans (hg a b ha.1 ha.2 hb.1 hb.2 hab).1
  have e6 : ∀ i, μ14 (L + 6) i = μ3 (L + 6) i := fun i => n1 _ _ (by omega)
  have e7 : ∀ i, μ14 (L + 7) i = μ3 (L + 7) i := fun i => n1 _ _ (by omega)
  refine ⟨hv, hv, ?_⟩
  rintro μ22 e22
  have f1 : ∀ b j, b ≠ L + 4 → b ≠ L + 6 → μ22 b j = μ3 b j := fun b j h4 h6 => by
    rw [e22, mup_ap, if_neg (fun z => h6 z.1), mup_ap, if_neg (fun z => h4 z.1), mup_ap, if_neg (fun z => h4 z.1)]
    exact n1 b j h4
  have f2 : ∀ i, μ22 (L + 6) i = if i = 2 * (a * 6 + b) + t / 64 then lOr (μ3 (L + 6) i) (lShl 1 (t % 64)) else μ3 (L + 6) i := fun i => by
    rw [e22]
    simp only [mup_ap, show L + 6 ≠ L + 4 by omega, false_and, if_false, true_and, e6]
    grind
  have f4 : ∀ i, 0 ≤ i → i ≤ 8 → μ22 (L + 4) i = envS H P a b (gapS H P a b) t i := fun i i0 i8 => by
    rw [e22]
    simp only [mup_ap, show L + 4 ≠ L + 6 by omega, false_and, if_false, true_and, e2]
    by_cases q8 : i = 8
    · subst q8; simp [envS]
    · by_cases q7 : i = 7
      · subst q7; simp [envS]
      · rw [if_neg q8, if_neg q7, n2 i i0 (by omega)]
        exact envS_upto i0 (by omega)
  have hX22 : LC μ22 L h p H P := hX.same (fun b j _ _ _ h4 _ h6 _ => f1 b j h4 h6)
  refine ⟨hv, byI (d' := 2) (by omega) (ct_work (env := envS H P a b (gapS H P a b) t) (Nat.le_refl _) a1 a2 (by decide) hX22.2.2.2.1 hX22.2.2.2.2.2.1 (hlw.2.1 hq) hlw.1.1 (envS_b a8 a9 ha hb (by omega) (by omega)) (fun k k0 k1 k2 k3 => f4 _ (by omega) (by omega))) ?_⟩
  rintro x μ25 ⟨hx, hm⟩
  have hans := ans01 a8 a9 ha hb ht hq
  rw [← hx] at hans
  have hiff : x = 1 ↔ ansS H P a b t := by unfold ansS; rw [hx]; exact ⟨fun q => ⟨hq, q⟩, fun q => q.2⟩
  -- what the bits are behind it
  have hfin : ∀ w : Int, (∀ j, 0 ≤ j → j < 64 → (bitL w j ↔ bitL (μ3 (L + 7) (2 * (a * 6 + b) + t / 64)) j ∨ (x = 1 ∧ t % 64 = j))) →
      LRep (mup μ25 (L + 7) (2 * (a * 6 + b) + t / 64) w) L h p H P ∧ bitL ((mup μ25 (L + 7) (2 * (a * 6 + b) + t / 64) w) (L + 6) (2 * (a * 6 + b) + t / 64)) (t % 64) ∧ (∀ c j, c ≠ L + 4 → c ≠ L + 5 → c ≠ L + 6 → c ≠ L + 7 → (mup μ25 (L + 7) (2 * (a * 6 + b) + t / 64) w) c j = μ3 c j) := by
    intro w hw
    generalize hI : 2 * (a * 6 + b) + t / 64 = I at *
    have g7 : ∀ i, (mup μ25 (L + 7) I w) (L + 7) i = if i = I then w else μ3 (L + 7) i := fun i => by
      simp only [mup_ap, true_and]
      split
      · rfl
      · rw [hm _ _ (by omega), f1 _ _ (by omega) (by omega)]
    have g6 : ∀ i, (mup μ25 (L + 7) I w) (L + 6) i = if i = I then lOr (μ3 (L + 6) i) (lShl 1 (t % 64)) else μ3 (L + 6) i := fun i => by
      rw [mup_ap, if_neg (fun z => by omega), hm _ _ (by omega), f2]
    have gf : ∀ b j, b ≠ L + 4 → b ≠ L + 5 → b ≠ L + 6 → b ≠ L + 7 → (mup μ25 (L + 7) I w) b j = μ3 b j := fun b j h4 h5 h6 h7 => by
      rw [mup_ap, if_neg (fun z => h7 z.1), hm _ _ h5, f1 _ _ h4 h6]
    refine ⟨⟨hX.same (fun b j _ _ _ h4 h5 h6 h7 => gf b j h4 h5 h6 h7), fun a' b' q1 q2 q3 q4 q5 => ?_, fun a' b' t' q1 q2 q3 q4 q5 q6 q7 => ?_⟩, ?_, gf⟩
    · rw [gf _ _ (by omega) (by omega) (by omega) (by omega), gf _ _ (by omega) (by omega) (by omega) (by omega), gf _ _ (by omega) (by omega) (by omega) (by omega)]
      exact hg a' b' q1 q2 q3 q4 q5
    · have hold := hc a' b' t' q1 q2 q3 q4 q5 q6 q7
      have hm2 : 0 ≤ t' % 64 ∧ t' % 64 < 64 := by omega
      rw [g6, g7]
      by_cases hi : 2 * (a' * 6 + b') + t' / 64 = I
      · rw [if_pos hi, if_pos hi]
        have ea : a' = a := by omega
        have eb : b' = b := by omega
        subst ea eb
        rw [hi] at hold ⊢
        rw [bit_or hm64 hm2, hw _ hm2.1 hm2.2]
        by_cases ht2 : t % 64 = t' % 64
        · have et : t' = t := by omega
          subst et
          have hn6 : ¬ bitL (μ3 (L + 6) I) (t' % 64) := fun q => q y
          have hn7 : ¬ bitL (μ3 (L + 7) I) (t' % 64) := fun q => hn6 (hold.2 q)
          exact ⟨fun _ => by rw [← hiff]; exact ⟨fun q => q.elim (fun q => absurd q hn7) (fun q => q.1), fun q => Or.inr ⟨q, rfl⟩⟩, fun _ => Or.inr rfl⟩
        · exact ⟨fun q => by
            rw [← hold.1 (q.elim id (fun q => absurd q ht2))]
            exact ⟨fun q => q.elim id (fun q => absurd q.2 ht2), Or.inl⟩, fun q => Or.inl (hold.2 (q.elim id (fun q => absurd q.2 ht2)))⟩
      · rw [if_neg hi, if_neg hi]
        exact hold
    · rw [g6, if_pos rfl, bit_or hm64 hm64]
      exact Or.inr rfl
  have e22 : ∀ i, μ22 (L + 7) i = μ3 (L + 7) i := fun i => f1 _ _ (by omega) (by omega)
  refine ⟨fun y2 => ⟨hv, ?_⟩, fun y2 => ⟨hv, ?_⟩⟩
  · rintro _ rfl
    rw [e22]
    obtain ⟨r1, r2, r3⟩ := hfin (lOr (μ3 (L + 7) (2 * (a * 6 + b) + t / 64)) 0) (fun j j0 j1 => by
      rw [bit_or0]
      exact ⟨Or.inl, fun q => q.elim id (fun q => by omega)⟩)
    exact hend _ r1 r2 r3
  · rintro _ rfl
    rw [e22]
    obtain ⟨r1, r2, r3⟩ := hfin (lOr (μ3 (L + 7) (2 * (a * 6 + b) + t / 64)) (lShl 1 (t % 64))) (fun j j0 j1 => by
      rw [bit_or hm64 ⟨j0, j1⟩]
      have hx1 : x = 1 := by omega
      exact ⟨fun q => q.elim Or.inl (fun q => Or.inr ⟨hx1, q⟩), fun q => q.elim Or.inl (fun q => Or.inr q.2)⟩)
    exact hend _ r1 r2 r3

theorem ct_take {d : Nat} {sc : SC} {μ : Mem} {L h p : Int} (hd : 2 ≤ d) (hL : isK 3 L) (hh : isK 1 h) (hp : isK 6 p) :
    CTv mX3_take d sc [(2, L), (2, h), (2, p)] μ (fun μ' => (∀ b j, b ≠ L → b ≠ L + 6 → b ≠ L + 7 → μ' b j = μ b j) ∧ μ' L 3 = h ∧ μ' L 4 = p ∧ ∀ j, 0 ≤ j → j < 72 → μ' (L + 6) j = 0 ∧ μ' (L + 7) j = 0) := by
  have k6 := kf_3_7 hL
  have k7 := kf_3_8 hL
  refine CTv_of mp_X3_take (Nat.le_of_ble_eq_true rfl) ?_
  refine s_X3_take_0 hL hh hp ?_
  rintro _ rfl _ rfl
  refine byV (d' := 1) (by omega) (ct_fillL k6 (by decide)) ?_
  intro μ4 h4
  refine byV (d' := 1) (by omega) (ct_fillL k7 (by decide)) ?_
  intro μ6 h6
  refine ⟨fun b j q1 q2 q3 => ?_, ?_, ?_, fun j q1 q2 => ⟨?_, ?_⟩⟩
  · rw [h6, if_neg (fun z => q3 z.1), h4, if_neg (fun z => q2 z.1), mup_ap, if_neg (fun z => q1 z.1), mup_ap, if_neg (fun z => q1 z.1)]
  · rw [h6, if_neg (fun z => by omega), h4, if_neg (fun z => by omega)]; simp [mup_ap]
  · rw [h6, if_neg (fun z => by omega), h4, if_neg (fun z => by omega)]; simp [mup_ap]
  · rw [h6, if_neg (fun z => by omega), h4, if_pos ⟨rfl, q1, by omega⟩]
  · rw [h6, if_pos ⟨rfl, q1, by omega⟩]
theorem ct_learn {d : Nat} {sc : SC} {μ : Mem} {L h p : Int} {H : HillT} {P : PlanT} (hd : 5 ≤ d) (hL : isK 3 L) (hh : isK 1 h) (hp : isK 6 p) (hH : XH μ h H) (hP' : XP μ p (hP H) P) (hw : wfH H) (hwp : wfP H P) :
    CTv mX3_learn d sc [(2, L), (2, h), (2, p)] μ (fun μ' => (∀ b j, b < L ∨ L + 7 < b → μ' b j = μ b j) ∧ LRep μ' L h p H P) := by
  have ap := apart3 hL hh hp
  have h6 := hw.2.2.1
  refine CTv_of mp_X3_learn (Nat.le_of_ble_eq_true rfl) ?_
  refine s_X3_learn_0 hL hh hp ?_
  refine byV (d' := 2) (by omega) (ct_take (Nat.le_refl _) hL hh hp) ?_
  rintro μ2 ⟨t1, t2, t3, t4⟩
  have hX2 : LC μ2 L h p H P := ⟨hL, hh, hp, t2, t3, hH.same (fun b j q1 q2 => by
      have := ap b (Or.inl ⟨q1, q2⟩)
      exact t1 b j this.1 this.2.2.2.2.2.2.1 this.2.2.2.2.2.2.2), hP'.same (fun b j q1 q2 => by
      have := ap b (Or.inr ⟨q1, q2⟩)
      exact t1 b j this.1 this.2.2.2.2.2.2.1 this.2.2.2.2.2.2.2), hw, hwp⟩
  have hc2 : ∀ μ' : Mem, (∀ j, μ' (L + 6) j = μ2 (L + 6) j ∧ μ' (L + 7) j = μ2 (L + 7) j) → cacheOK μ' L H P := by
    intro μ' hs a b t q1 q2 q3 q4 q5 q6 q7
    have e := t4 (2 * (a * 6 + b) + t / 64) (by omega) (by omega)
    rw [(hs _).1, (hs _).2, e.1, e.2]
    exact ⟨fun z => absurd z bit_0, fun z => absurd z bit_0⟩
  -- rows up to x, in it columns up to y
  have key : ∀ (r x : Nat), (x : Int) + r = hP H → ∀ μ1 : Mem, (∀ b j, b ≠ L + 1 → b ≠ L + 2 → b ≠ L + 3 → b ≠ L + 4 → b ≠ L + 5 → μ1 b j = μ2 b j) →
      (∀ a b : Int, 0 ≤ a → a < x → 0 ≤ b → b < hP H → a ≠ b → μ1 (L + 2) (a * 6 + b) = gapS H P a b ∧ μ1 (L + 3) (a * 6 + b) = pitchS H P a b ∧ μ1 (L + 1) (a * 6 + b) = farOf H P a b) →
      WQ mX3_learn d sc (ZV sc (fun μ' => (∀ b j, b < L ∨ L + 7 < b → μ' b j = μ b j) ∧ LRep μ' L h p H P)) 8 [(2, L), (9, 0), (9, 0), (0, (x : Int)), (9, 0), (9, 0), (9, 0)] [] μ1 := by
    intro r
    induction r with
    | zero =>
      intro x hx μ1 hm hg
      have hX1 : LC μ1 L h p H P := hX2.same (fun b j q1 q2 q3 q4 q5 _ _ => hm b j q1 q2 q3 q4 q5)
      refine s_X3_learn_8 hL ?_
      rw [hX1.2.2.2.1]
      refine ⟨hh, fun _ => ⟨fun b j q => ?_, hX1, fun a b q1 q2 q3 q4 q5 => hg a b q1 (by omega) q3 q4 q5, hc2 μ1 (fun j => ⟨hm _ _ (by omega) (by omega) (by omega) (by omega) (by omega), hm _ _ (by omega) (by omega) (by omega) (by omega) (by omega)⟩)⟩, fun z => ?_⟩
      · rw [hm b j (by omega) (by omega) (by omega) (by omega) (by omega), t1 b j (by omega) (by omega) (by omega)]
      · have := hX1.2.2.2.2.2.1.2.2.2.1
        omega
    | succ r ih =>
      intro x hx μ1 hm hg
      have hX1 : LC μ1 L h p H P := hX2.same (fun b j q1 q2 q3 q4 q5 _ _ => hm b j q1 q2 q3 q4 q5)
      have hp1 := hX1.2.2.2.2.2.1.2.2.2.1
      refine s_X3_learn_8 hL ?_
      rw [hX1.2.2.2.1]
      refine ⟨hh, fun z => by omega, fun _ => ?_⟩
      have inner : ∀ (s y : Nat), (y : Int) + s = hP H → ∀ μ1 : Mem, (∀ b j, b ≠ L + 1 → b ≠ L + 2 → b ≠ L + 3 → b ≠ L + 4 → b ≠ L + 5 → μ1 b j = μ2 b j) →
          (∀ a b : Int, 0 ≤ a → 0 ≤ b → b < hP H → a ≠ b → (a < x ∨ (a = x ∧ b < y)) → μ1 (L + 2) (a * 6 + b) = gapS H P a b ∧ μ1 (L + 3) (a * 6 + b) = pitchS H P a b ∧ μ1 (L + 1) (a * 6 + b) = farOf H P a b) →
          WQ mX3_learn d sc (ZV sc (fun μ' => (∀ b j, b < L ∨ L + 7 < b → μ' b j = μ b j) ∧ LRep μ' L h p H P)) 22 [(2, L), (9, 0), (9, 0), (0, (x : Int)), (0, (y : Int)), (9, 0), (9, 0)] [] μ1 := by
        intro s
        induction s with
        | zero =>
          intro y hy μ1 hm hg
          have hX1 : LC μ1 L h p H P := hX2.same (fun b j q1 q2 q3 q4 q5 _ _ => hm b j q1 q2 q3 q4 q5)
          have hp1 := hX1.2.2.2.2.2.1.2.2.2.1
          refine s_X3_learn_22 (by omega) hL ?_
          rw [hX1.2.2.2.1]
          refine ⟨hh, fun _ => ⟨by omega, ?_⟩, fun z => by omega⟩
          rintro _ rfl
          exact ih (x + 1) (by omega) μ1 hm (fun a b q1 q2 q3 q4 q5 => hg a b q1 q3 q4 q5 (by omega))
        | succ s ihs =>
          intro y hy μ1 hm hg
          have hX1 : LC μ1 L h p H P := hX2.same (fun b j q1 q2 q3 q4 q5 _ _ => hm b j q1 q2 q3 q4 q5)
          have hp1 := hX1.2.2.2.2.2.1.2.2.2.1
          refine s_X3_learn_22 (by omega) hL ?_
          rw [hX1.2.2.2.1]
          refine ⟨hh, fun z => by omega, fun _ => ⟨fun z => ⟨by omega, ?_⟩, fun hne => ⟨by omega, by omega, ?_⟩⟩⟩
          · rintro _ rfl
            exact ihs (y + 1) (by omega) μ1 hm (fun a b q1 q2 q3 q4 q5 => hg a b q1 q2 q3 q4 (by omega))
          rintro _ rfl
          refine byI (d' := 4) (by omega) (ct_gapOf (by omega) hX1 ⟨by omega, by omega⟩ ⟨by omega, by omega⟩) ?_
          rintro g μ12 ⟨rfl, g1, g2, g3⟩
          refine ⟨by omega, ?_⟩
          rintro μ14 e14
          refine ⟨by omega, ?_⟩
          rintro μ17 e17
          have f17 : ∀ b j, b ≠ L + 1 → b ≠ L + 2 → b ≠ L + 4 → b ≠ L + 5 → μ17 b j = μ1 b j := fun b j q1 q2 q4 q5 => by
            rw [e17, mup_ap, if_neg (fun z => q1 z.1), e14, mup_ap, if_neg (fun z => q2 z.1), g1 b j q4 q5]
          have hX17 : LC μ17 L h p H P := hX1.same (fun b j q1 q2 _ q4 q5 _ _ => f17 b j q1 q2 q4 q5)
          rw [hX17.2.2.2.1]
          refine ⟨hh, byI (d' := 2) (by omega) (ct_hasLaw hh hX17.2.2.2.2.2.1 (by decide)) ?_⟩
          rintro q μ20 ⟨rfl, rfl⟩
          have h14 : ∀ j, μ20 (L + 2) j = if j = (x : Int) * 6 + y then gapS H P x y else μ1 (L + 2) j := fun j => by
            rw [e17, mup_ap, if_neg (fun z => by omega), e14, mup_ap, g1 _ _ (by omega) (by omega)]
            simp
          have h17 : ∀ j, μ20 (L + 1) j = if j = (x : Int) * 6 + y then farOf H P x y else μ1 (L + 1) j := fun j => by
            have q1 : μ14 (L + 4) 6 = farOf H P x y := by
              rw [e14, mup_ap, if_neg (fun z => by omega), g2 6 (by decide) (by decide)]; rfl
            have q2 : μ14 (L + 1) j = μ1 (L + 1) j := by rw [e14, mup_ap, if_neg (fun z => by omega), g1 _ _ (by omega) (by omega)]
            rw [e17, mup_ap, q1, q2]
            simp
          have hnext : ∀ μ26 : Mem, (∀ b j, b ≠ L + 3 → b ≠ L + 5 → μ26 b j = μ20 b j) → (∀ j, μ26 (L + 3) j = if j = (x : Int) * 6 + y then pitchS H P x y else μ20 (L + 3) j) →
              WQ mX3_learn d sc (ZV sc (fun μ' => (∀ b j, b < L ∨ L + 7 < b → μ' b j = μ b j) ∧ LRep μ' L h p H P)) 22 [(2, L), (9, 0), (9, 0), (0, (x : Int)), (0, (y : Int) + 1), (9, 0), (9, 0)] [] μ26 := by
            intro μ26 hf hpi
            refine ihs (y + 1) (by omega) μ26 (fun b j q1 q2 q3 q4 q5 => by rw [hf b j q3 q5, f17 b j q1 q2 q4 q5, hm b j q1 q2 q3 q4 q5]) (fun a b q1 q2 q3 q4 q5 => ?_)
            rw [hf (L + 2) _ (by omega) (by omega), hf (L + 1) _ (by omega) (by omega), hpi, h14, h17]
            by_cases hz : a * 6 + b = (x : Int) * 6 + y
            · have ea : a = x := by omega
              have eb : b = y := by omega
              rw [if_pos hz, if_pos hz, if_pos hz, ea, eb]
              exact ⟨rfl, rfl, rfl⟩
            · rw [if_neg hz, if_neg hz, if_neg hz, f17 (L + 3) _ (by omega) (by omega) (by omega) (by omega)]
              refine hg a b q1 q2 q3 q4 ?_
              rcases q5 with q5 | ⟨q5, q6⟩
              · exact Or.inl q5
              · refine Or.inr ⟨q5, ?_⟩
                have : b ≠ y := fun z => hz (by rw [q5, z])
                omega
          have hlw := hw.2.2.2.2 1 (by decide) (by decide)
          refine ⟨fun z => ?_, fun z => ?_⟩
          · have hn : ¬ 0 < hLen H 1 := fun q => by rw [if_pos q] at z; exact absurd z (by decide)
            rw [hX17.2.2.2.1]
            refine ⟨hh, by omega, ?_⟩
            rintro _ rfl
            refine ⟨by omega, ?_⟩
            rintro _ rfl
            refine ⟨by omega, ?_⟩
            rintro _ rfl
            refine hnext _ (fun b j q3 q5 => by rw [mup_ap, if_neg (fun z => q3 z.1)]) (fun j => ?_)
            rw [mup_ap, (hX17.2.2.2.2.2.1.2.2.2.2.1 x (by omega) (by omega)).2.2]
            simp only [true_and]
            unfold pitchS clamp
            rw [if_neg hn]
          · have hq : 0 < hLen H 1 := by
              by_cases q : 0 < hLen H 1
              · exact q
              · rw [if_neg q] at z; exact absurd rfl z
            have f4 : ∀ i, 0 ≤ i → i ≤ 6 → μ20 (L + 4) i = envS H P x y 0 0 i := fun i i0 i6 => by
              rw [e17, mup_ap, if_neg (fun z => by omega), e14, mup_ap, if_neg (fun z => by omega)]
              exact g2 i i0 i6
            refine byI (d' := 2) (by omega) (ct_work (env := envS H P x y 0 0) (Nat.le_refl _) hL hh (by decide) hX17.2.2.2.1 hX17.2.2.2.2.2.1 (hlw.2.1 hq) hlw.1.1 (envS_b hw hwp ⟨by omega, by omega⟩ ⟨by omega, by omega⟩ (by decide) (by decide)) (fun k k0 k1 k2 k3 => ?_)) ?_
            · have := hlw.2.2 (by decide) k k0 k1
              exact f4 _ (by omega) (by omega)
            rintro v μ30 ⟨rfl, hm30⟩
            refine ⟨by omega, ?_⟩
            rintro _ rfl
            refine ⟨by omega, ?_⟩
            rintro _ rfl
            refine hnext _ (fun b j q3 q5 => by rw [mup_ap, if_neg (fun z => q3 z.1)]; exact hm30 b j q5) (fun j => ?_)
            rw [mup_ap]
            simp only [true_and]
            rw [hm30 _ _ (by omega)]
            unfold pitchS clamp
            rw [if_pos hq]
      exact inner (hP H).toNat 0 (by omega) μ1 hm (fun a b q1 q2 q3 q4 q5 => hg a b q1 (by omega) q2 q3 q4)
  exact key (hP H).toNat 0 (by omega) μ2 (fun _ _ _ _ _ _ _ => rfl) (fun a b q1 q2 => by omega)

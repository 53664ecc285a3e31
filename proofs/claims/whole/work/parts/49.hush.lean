/-! SILENCE: spec, and the class's way to it -/
def addC (P : PlanT) (p a : Int) : PlanT := addN P (a % 6) p (a / 6) 10
def codeC (a : Int) : Int := a / 6 * 100 + a % 6
def isN (np p a : Int) : Prop := a % 6 < np ∧ a % 6 ≠ p
def silB (H : HillT) (P PN : PlanT) (p : Int) : Bool := (List.range 100).all (fun u => !spkAt (gapQ H P) (ansQ H P) PN p u)
def SilR (H : HillT) (P : PlanT) (p f x y : Int) : Prop :=
  (silB H P P p = true ∧ f = 0 ∧ x = -1 ∧ y = -1) ∨
  (silB H P P p = false ∧ ∃ a, (0 ≤ a ∧ a < 120) ∧ isN (hP H) p a ∧ silB H P (addC P p a) p = true ∧ (∀ c, 0 ≤ c → c < a → isN (hP H) p c → silB H P (addC P p c) p = false) ∧ f = 1 ∧ x = codeC a ∧ y = -1) ∨
  (silB H P P p = false ∧ (∀ c, 0 ≤ c → c < 120 → isN (hP H) p c → silB H P (addC P p c) p = false) ∧ ∃ a b, (0 ≤ a ∧ a < b ∧ b < 120) ∧ isN (hP H) p a ∧ isN (hP H) p b ∧ silB H P (addC (addC P p a) p b) p = true ∧
    (∀ c e, 0 ≤ c → c < e → e < 120 → c < a ∨ (c = a ∧ e < b) → isN (hP H) p c → isN (hP H) p e → silB H P (addC (addC P p c) p e) p = false) ∧ f = 2 ∧ x = codeC a ∧ y = codeC b) ∨
  (silB H P P p = false ∧ (∀ c, 0 ≤ c → c < 120 → isN (hP H) p c → silB H P (addC P p c) p = false) ∧ (∀ c e, 0 ≤ c → c < e → e < 120 → isN (hP H) p c → isN (hP H) p e → silB H P (addC (addC P p c) p e) p = false) ∧ f = -1 ∧ x = -1 ∧ y = -1)
theorem SilR.one {H : HillT} {P : PlanT} {p f x y f' x' y' : Int} (h : SilR H P p f x y) (h' : SilR H P p f' x' y') : f = f' ∧ x = x' ∧ y = y' := by
  rcases h with ⟨h1, h2, h3, h4⟩ | ⟨h1, a, ha, h2, h3, h4, h5, h6, h7⟩ | ⟨h1, h2, a, b, hab, h3, h4, h5, h6, h7, h8, h9⟩ | ⟨h1, h2, h3, h4, h5, h6⟩ <;>
  rcases h' with ⟨g1, g2, g3, g4⟩ | ⟨g1, a', ga, g2, g3, g4, g5, g6, g7⟩ | ⟨g1, g2, a', b', gab, g3, g4, g5, g6, g7, g8, g9⟩ | ⟨g1, g2, g3, g4, g5, g6⟩
  · exact ⟨by omega, by omega, by omega⟩
  · rw [h1] at g1; exact absurd g1 (by decide)
  · rw [h1] at g1; exact absurd g1 (by decide)
  · rw [h1] at g1; exact absurd g1 (by decide)
  · rw [h1] at g1; exact absurd g1 (by decide)
  · have : a = a' := by
      rcases Int.lt_trichotomy a a' with q | q | q
      · have := g4 a ha.1 q h2; rw [h3] at this; exact absurd this (by decide)
      · exact q
      · have := h4 a' ga.1 q g2; rw [g3] at this; exact absurd this (by decide)
    subst this
    exact ⟨by omega, by omega, by omega⟩
  · have := g2 a ha.1 ha.2 h2; rw [h3] at this; exact absurd this (by decide)
  · have := g2 a ha.1 ha.2 h2; rw [h3] at this; exact absurd this (by decide)
  · rw [h1] at g1; exact absurd g1 (by decide)
  · have := h2 a' ga.1 ga.2 g2; rw [g3] at this; exact absurd this (by decide)
  · have key : ¬ (a < a' ∨ (a = a' ∧ b < b')) := fun q => by
      have := g6 a b hab.1 hab.2.1 hab.2.2 q h3 h4; rw [h5] at this; exact absurd this (by decide)
    have key2 : ¬ (a' < a ∨ (a' = a ∧ b' < b)) := fun q => by
      have := h6 a' b' gab.1 gab.2.1 gab.2.2 q g3 g4; rw [g5] at this; exact absurd this (by decide)
    have e1 : a = a' := by omega
    have e2 : b = b' := by omega
    subst e1; subst e2
    exact ⟨by omega, by omega, by omega⟩
  · have := g3 a b hab.1 hab.2.1 hab.2.2 h3 h4; rw [h5] at this; exact absurd this (by decide)
  · rw [h1] at g1; exact absurd g1 (by decide)
  · have := h2 a' ga.1 ga.2 g2; rw [g3] at this; exact absurd this (by decide)
  · have := h3 a' b' gab.1 gab.2.1 gab.2.2 g3 g4; rw [g5] at this; exact absurd this (by decide)
  · exact ⟨by omega, by omega, by omega⟩
theorem silB_f {H : HillT} {P PN : PlanT} {p : Int} {u : Nat} (hu : u < 100) (h : spkAt (gapQ H P) (ansQ H P) PN p u = true) : silB H P PN p = false := by
  unfold silB
  rw [List.all_eq_false]
  exact ⟨u, List.mem_range.mpr hu, by rw [h]; decide⟩
theorem silB_t {H : HillT} {P PN : PlanT} {p : Int} (h : ∀ u : Nat, u < 100 → spkAt (gapQ H P) (ansQ H P) PN p u = false) : silB H P PN p = true := by
  unfold silB
  rw [List.all_eq_true]
  intro u hu
  rw [h u (List.mem_range.mp hu)]; rfl
def ownL (PN : PlanT) (p last : Int) : Prop := ∀ k, 0 ≤ k → k < pN PN → pWho PN k = p → pAt PN k ≤ last
theorem ownL_add {PN : PlanT} {p last a : Int} (h : ownL PN p last) (ha : a % 6 ≠ p) : ownL (addC PN p a) p last := by
  intro k k0 k1 hk
  have k1 : k < pN PN + 1 := k1
  by_cases hkn : k = pN PN
  · subst hkn
    unfold addC at hk
    rw [(add_new _ _ _ _ _).1] at hk
    exact absurd hk ha
  · have := add_old PN (a % 6) p (a / 6) 10 hkn
    unfold addC at hk ⊢
    rw [this.1] at hk
    rw [this.2.2.1]
    exact h k k0 (by omega) hk
theorem own_spk {gap : Int → Int} {ans : Int → Int → Bool} {PN : PlanT} {p last : Int} (h : ownL PN p last) {u : Nat} (hu : last < u) : spkAt gap ans PN p u = false := by
  unfold spkAt spk
  rw [List.any_eq_false]
  intro k hk
  have hk := ksF_mem.mp hk
  have := h k (by omega) (by omega)
  simp
  intro _ e
  have := this e
  omega
theorem wf_add {np p a : Int} {PN : PlanT} (h : wfNp np PN) (hn : pN PN ≤ 9) (ha : 0 ≤ a ∧ a < 600) (hN : isN np p a) (hp : 0 ≤ p ∧ p < np) : wfNp np (addC PN p a) := by
  obtain ⟨h1, h2⟩ := h
  refine ⟨?_, fun k k0 k1 => ?_⟩
  · show 0 ≤ pN PN + 1 ∧ pN PN + 1 ≤ 10
    omega
  · have k1 : k < pN PN + 1 := k1
    unfold isN at hN
    by_cases hkn : k = pN PN
    · subst hkn
      unfold addC
      obtain ⟨e1, e2, e3, e4⟩ := add_new PN (a % 6) p (a / 6) 10
      rw [e1, e2, e3]
      omega
    · unfold addC
      obtain ⟨e1, e2, e3, e4⟩ := add_old PN (a % 6) p (a / 6) 10 hkn
      rw [e1, e2, e3]
      exact h2 k k0 (by omega)
/-- what is told too late to stop it -/
theorem late_add {H : HillT} {P PN : PlanT} {p a : Int} {u : Nat} (hn : 0 ≤ pN PN) (ha : a % 6 ≠ p) (hu : (u : Int) ≤ a / 6) (h : spkAt (gapQ H P) (ansQ H P) PN p u = true) : spkAt (gapQ H P) (ansQ H P) (addC PN p a) p u = true := by
  unfold addC
  rw [spkAt_add _ _ _ _ _ hn ha hu]
  exact h
def XE (μ : Mem) (p : Int) (P : PlanT) : Prop := ∀ k, 0 ≤ k → k < pN P → μ (p + 1) k = pWho P k ∧ μ (p + 2) k = pWhom P k ∧ μ (p + 3) k = pAt P k ∧ μ (p + 4) k = pSure P k
def HS (μ : Mem) (p last h : Int) (H : HillT) (P : PlanT) : Prop := μ 120 0 = p ∧ μ 120 4 = 97 ∧ μ 120 5 = 121 ∧ μ 120 6 = 135 ∧ μ 120 7 = hP H ∧ μ 120 8 = pN P ∧ μ 120 9 = last ∧ LRep μ 97 h (h + 7) H P
/-- only these objects change -/
def FRh (μ μ' : Mem) : Prop := ∀ b j, (b < 101 ∨ 104 < b) → (b < 120 ∨ 126 < b) → (b < 135 ∨ 146 < b) → μ' b j = μ b j
theorem FRh.refl (μ : Mem) : FRh μ μ := fun _ _ _ _ _ => rfl
theorem FRh.tr {μ1 μ2 μ3 : Mem} (h : FRh μ1 μ2) (h' : FRh μ2 μ3) : FRh μ1 μ3 := fun b j q1 q2 q3 => by rw [h' b j q1 q2 q3]; exact h b j q1 q2 q3
theorem ct_isNaming {d : Nat} {sc : SC} {μ : Mem} {a p np : Int} (ha : 0 ≤ a) (h0 : μ 120 0 = p) (h7 : μ 120 7 = np) : CTi mX2_isNaming d sc [(2, 120), (0, a)] μ (fun x μ' => (x = 1 ↔ isN np p a) ∧ (x = 0 ∨ x = 1) ∧ μ' = μ) := by
  refine CTi_of mp_X2_isNaming (Nat.le_of_ble_eq_true rfl) ?_
  refine s_X2_isNaming_0 ⟨ha, ?_⟩
  rintro _ rfl
  rw [h0, h7]
  unfold isN
  exact ⟨fun z => ⟨⟨fun z => absurd z (by decide), fun z => by omega⟩, Or.inl rfl, rfl⟩, fun z => ⟨fun z => ⟨⟨fun z => absurd z (by decide), fun z => by omega⟩, Or.inl rfl, rfl⟩, fun z2 => ⟨⟨fun _ => ⟨z, z2⟩, fun _ => rfl⟩, Or.inr rfl, rfl⟩⟩⟩
theorem ct_codeC {d : Nat} {sc : SC} {μ : Mem} {a : Int} (ha : 0 ≤ a ∧ a < 120) : CTi mX2_code d sc [(0, a)] μ (fun x μ' => x = codeC a ∧ μ' = μ) := by
  refine CTi_of mp_X2_code (Nat.le_of_ble_eq_true rfl) ?_
  exact s_X2_code_0 ⟨ha.1, by omega, ha.1, by omega, rfl, rfl⟩
theorem ct_inTime {d : Nat} {sc : SC} {μ : Mem} (hd : 2 ≤ d) (h6 : μ 120 6 = 135) (hs : -1 ≤ μ 135 6 ∧ μ 135 6 < 100) : CTi mX2_inTime d sc [(2, 120)] μ (fun x μ' => x = (min (μ 135 6) 20) * 6 ∧ μ' = μ) := by
  refine CTi_of mp_X2_inTime (Nat.le_of_ble_eq_true rfl) ?_
  refine s_X2_inTime_0 hd ?_
  rw [h6]
  exact ⟨k_135, by omega, rfl, rfl⟩
theorem ct_tellToo {d : Nat} {sc : SC} {μ : Mem} {a p : Int} {PN : PlanT} (hd : 1 ≤ d) (ha : 0 ≤ a ∧ a < 600) (h0 : μ 120 0 = p) (h5 : μ 120 5 = 121) (hX : XN μ 121 PN) (hn : 0 ≤ pN PN ∧ pN PN ≤ 9) :
    CTv mX2_tellToo d sc [(2, 120), (0, a)] μ (fun μ' => (∀ b j, b < 121 ∨ 125 < b → μ' b j = μ b j) ∧ XN μ' 121 (addC PN p a)) := by
  refine CTv_of mp_X2_tellToo (Nat.le_of_ble_eq_true rfl) ?_
  refine s_X2_tellToo_0 ?_
  rw [h5, h0]
  refine ⟨ha.1, ha.1, k_121, byV (d' := 0) (by omega) (ct_add k_121 (by rw [hX.1]; omega)) ?_⟩
  rintro μ5 ⟨c1, c2, c3, c4⟩
  exact ⟨c1, hX.add c3 c4⟩
/-- the trial's day, up to the last of one's own namings -/
def HrP (μ μ' : Mem) (x p h : Int) (H : HillT) (P PN : PlanT) : Prop := (∀ b j, (b < 101 ∨ 104 < b) → (b < 135 ∨ 146 < b) → μ' b j = μ b j) ∧ LRep μ' 97 h (h + 7) H P ∧
      ((x = 1 ∧ silB H P PN p = true ∧ μ' 135 6 = -1) ∨ (x = 0 ∧ silB H P PN p = false ∧ ∃ u : Nat, u < 100 ∧ spkAt (gapQ H P) (ansQ H P) PN p u = true ∧ μ' 135 6 = u))
theorem ca_hrun {d : Nat} {sc : SC} {μ : Mem} {p last h : Int} {H : HillT} {P PN : PlanT} {R : Int → Mem → Prop} (hd : 7 ≤ d) (hL : LRep μ 97 h (h + 7) H P) (hN : XN μ 121 PN) (hw : wfNp (hP H) PN) (hl : -1 ≤ last ∧ last ≤ 99) (ho : ownL PN p last)
    (k : ∀ x μ', HrP μ μ' x p h H P PN → R x μ') : CAi mX0_run d sc [(2, 135), (2, 121), (2, 97), (0, last), (0, p)] μ R := by
  have hr := ct_run (d := 6) (sc := sc) (w := p) (Nat.le_refl _) k_135 k_121 hL hN hw ⟨hl.1, by omega⟩
  have hmin : (min (last + 1) 100).toNat = (last + 1).toNat := by omega
  rw [hmin] at hr
  refine byI (d' := 6) (by omega) hr ?_
  rintro x μ' ⟨r1, r2, r3⟩
  refine k x μ' ⟨fun b j q1 q2 => r1 b j (by omega) (by omega) (by omega) (by omega) (by omega), r2, ?_⟩
  rcases r3 with ⟨x1, x2, x3⟩ | ⟨x1, u, u1, u2, u3, u4⟩
  · refine Or.inl ⟨x1, silB_t (fun u hu => ?_), x2.2.2.2⟩
    by_cases hul : (u : Int) ≤ last
    · exact x3 u (by omega)
    · exact own_spk ho (by omega)
  · exact Or.inr ⟨x1, silB_f (by omega) u2, u, by omega, u2, u3⟩

/-! THE CLASS READS: lines -/
def GQ (μ : Mem) (h np : Int) (g : GS) : Prop := μ h 0 = hR (gH g) ∧ μ h 1 = hC (gH g) ∧ μ h 2 = hLines (gH g) ∧ μ h 3 = hP (gH g) ∧ (∀ q, 0 ≤ q → q < np → μ (h + 1) q = hLoud (gH g) q ∧ μ (h + 2) q = hDeaf (gH g) q ∧ μ (h + 3) q = hVoice (gH g) q) ∧ XP μ (h + 7) np (gP g) ∧ ∀ l, 0 ≤ l → l < 3 → μ (h + 5) l = gO g l ∧ μ (h + 6) l = gO g l + hLen (gH g) l
def FRg (μ μ' : Mem) (h : Int) : Prop := ∀ b j, (b = 28 → j ≠ 0 ∧ j ≠ 1 ∧ j ≠ 8 ∧ j ≠ 9 ∧ j ≠ 10) → (b < h ∨ h + 12 < b) → μ' b j = μ b j
theorem FRg.refl (μ : Mem) (h : Int) : FRg μ μ h := fun _ _ _ _ => rfl
theorem FRg.tr {μ1 μ2 μ3 : Mem} {h : Int} (f : FRg μ1 μ2 h) (f' : FRg μ2 μ3 h) : FRg μ1 μ3 h := fun b j q1 q2 => by rw [f' b j q1 q2]; exact f b j q1 q2
theorem FRe.g {μ μ' : Mem} {h : Int} (f : FRe μ μ' h) : FRg μ μ' h := fun b j q1 q2 => f b j (fun y => by have := q1 y; omega) (by omega)
theorem GQ.same {μ μ' : Mem} {h np : Int} {g : GS} (hQ : GQ μ h np g) (hs : ∀ b j, h ≤ b → b ≤ h + 12 → b ≠ h + 4 → μ' b j = μ b j) : GQ μ' h np g := by
  obtain ⟨q1, q2, q3, q4, q5, q6, q7⟩ := hQ
  exact ⟨by rw [hs _ _ (by omega) (by omega) (by omega)]; exact q1, by rw [hs _ _ (by omega) (by omega) (by omega)]; exact q2, by rw [hs _ _ (by omega) (by omega) (by omega)]; exact q3, by rw [hs _ _ (by omega) (by omega) (by omega)]; exact q4, fun q z1 z2 => by rw [hs _ _ (by omega) (by omega) (by omega), hs _ _ (by omega) (by omega) (by omega), hs _ _ (by omega) (by omega) (by omega)]; exact q5 q z1 z2, q6.same (fun b j z1 z2 => hs b j (by omega) (by omega) (by omega)), fun l z1 z2 => by rw [hs _ _ (by omega) (by omega) (by omega), hs _ _ (by omega) (by omega) (by omega)]; exact q7 l z1 z2⟩
theorem GQ.e {μ μ' : Mem} {h np : Int} {g : GS} (hh : isK 1 h) (hQ : GQ μ h np g) (f : FRe μ μ' h) : GQ μ' h np g := by
  have := ik_1 hh
  exact hQ.same (fun b j z1 z2 z3 => f b j (by omega) z3)
/-- only the state is another -/
theorem GQ.st {μ : Mem} {h np : Int} {g : GS} (hQ : GQ μ h np g) (e : ES) : GQ μ h np (e, gH g, gP g, gO g) := hQ
theorem RE.same {μ μ' : Mem} {T : TxT} {N : Nat} {h : Int} {e : ES} (hE : RE μ T N h e) (hs : ∀ b j : Int, (b = 28 → j ≠ 10) → (28 ≤ b ∧ b ≤ 31) ∨ b = h + 4 → μ' b j = μ b j) : RE μ' T N h e := by
  obtain ⟨a1, a2, a3, a4, a5, a6, a7, a8, a9, a10, a11⟩ := hE
  have hh := ik_1 a1
  exact ⟨a1, a2, a3, a4.same (hs _ _ (by omega) (by omega)) (fun b j z1 z2 => hs b j (by omega) (by omega)), by rw [hs _ _ (by omega) (by omega)]; exact a5, a6, by rw [hs _ _ (by omega) (by omega)]; exact a7, by rw [hs _ _ (by omega) (by omega)]; exact a8, by rw [hs _ _ (by omega) (by omega)]; exact a9, by rw [hs _ _ (by omega) (by omega)]; exact a10, fun k hk => by rw [hs _ _ (by omega) (by omega)]; exact a11 k hk⟩
theorem ca_readNumber {d : Nat} {sc : SC} {μ : Mem} {T : TxT} {N : Nat} {h lo hi : Int} {e : ES} {R : Int → Mem → Prop} (hd : 2 ≤ d) (hE : RE μ T N h e) (k : ∀ μ', RE μ' T N h (numE T lo hi e).2 → FRe μ μ' h → R (numE T lo hi e).1 μ') : CAi mX7_readNumber d sc [(2, 28), (0, lo), (0, hi)] μ R := by
  refine byI (d' := 1) (by omega) (Q := R) ?_ (fun _ _ z => z)
  refine CTi_of mp_X7_readNumber (Nat.le_of_ble_eq_true rfl) ?_
  have t := hE.tok
  refine s_X7_readNumber_0 (ca_isAt (Nat.le_refl _) hE (fun y => ⟨fun q => absurd rfl q, fun _ => ?_⟩) (fun y => ⟨fun _ => ⟨t.1, ?_⟩, fun q => absurd q (by decide)⟩))
  · have he : numE T lo hi e = (0, failE T 2 e) := by unfold numE; rw [y, if_neg (by decide)]
    rw [he] at k
    exact ca_fail (Nat.le_refl _) (by decide) hE (fun μ' r f => k μ' r f)
  · intro v5 h5
    rw [t.2.2.2] at h5
    rw [h5]
    have bad : (T.2.2 (eK e) < lo ∨ hi < T.2.2 (eK e)) → CAv mX7_fail 1 sc [(2, 28), (0, 3)] μ (fun μ8 => R 0 μ8) := fun z => by
      have he : numE T lo hi e = (0, failE T 3 e) := by unfold numE; rw [if_pos y, if_pos z]
      rw [he] at k
      exact ca_fail (Nat.le_refl _) (by decide) hE (fun μ' r f => k μ' r f)
    refine ⟨fun z => bad (Or.inl z), fun z => ⟨fun z2 => ?_, fun z2 => bad (Or.inr z2)⟩⟩
    have he : numE T lo hi e = (T.2.2 (eK e), stepE e) := by unfold numE; rw [if_pos y, if_neg (by omega)]
    rw [he] at k
    exact ca_step (Nat.le_refl _) hE (fun _ => by rw [(isE_t.mp y).2]; decide) (fun μ' r f => k μ' r f)
theorem XP.put {μ : Mem} {p np c : Int} {P : PlanT} (hX : XP μ p np P) : XP (mup μ (p + 5) np c) p (np + 1) (moveC P np c) := by
  have g : ∀ b j, b ≠ p + 5 → mup μ (p + 5) np c b j = μ b j := fun b j z => by rw [mup_ap, if_neg (fun y => z y.1)]
  refine ⟨by rw [g _ _ (by omega)]; exact hX.1, fun k k0 k1 => by rw [g _ _ (by omega), g _ _ (by omega), g _ _ (by omega), g _ _ (by omega)]; exact hX.2.1 k k0 k1, fun q q0 q1 => ?_, by rw [g _ _ (by omega)]; exact hX.2.2.2⟩
  rw [mup_ap]
  by_cases hq : q = np
  · rw [if_pos ⟨rfl, hq⟩]
    exact (if_pos hq : pCell (moveC P np c) q = c).symm
  · rw [if_neg (fun y => hq y.2)]
    exact (hX.2.2.1 q q0 (by omega)).trans (if_neg hq : pCell (moveC P np c) q = pCell P q).symm
theorem ca_cellsH {d : Nat} {sc : SC} {μ : Mem} {h np : Int} {g : GS} {R : Int → Mem → Prop} (hd : 1 ≤ d) (hh : isK 1 h) (hQ : GQ μ h np g) (hb : (1 ≤ hR (gH g) ∧ hR (gH g) ≤ 8) ∧ (1 ≤ hC (gH g) ∧ hC (gH g) ≤ 8)) (k : (1 ≤ hR (gH g) * hC (gH g) ∧ hR (gH g) * hC (gH g) ≤ 64) → R (hR (gH g) * hC (gH g)) μ) : CAi mX1_cells d sc [(2, h)] μ R := by
  refine byI (d' := 0) (by omega) (Q := R) ?_ (fun _ _ z => z)
  refine CTi_of mp_X1_cells (Nat.le_of_ble_eq_true rfl) ?_
  have h1 : 1 ≤ hR (gH g) * hC (gH g) := Int.mul_pos (by omega) (by omega)
  have h2 : hR (gH g) * hC (gH g) ≤ 8 * 8 := Int.mul_le_mul hb.1.2 hb.2.2 (by omega) (by decide)
  refine s_X1_cells_0 hh ?_
  rw [hQ.1, hQ.2.1]
  exact ⟨by omega, k ⟨h1, by omega⟩⟩
theorem ca_readPerson {d : Nat} {sc : SC} {μ : Mem} {T : TxT} {N : Nat} {h : Int} {g : GS} {R : Mem → Prop} (hd : 4 ≤ d) (hE : RE μ T N h (gE g)) (hQ : GQ μ h (hP (gH g)) g) (h0 : eF (gE g) = 0) (hK : T.1 (eK (gE g)) = 1) (hb : (1 ≤ hR (gH g) ∧ hR (gH g) ≤ 8) ∧ (1 ≤ hC (gH g) ∧ hC (gH g) ≤ 8)) (hp : 0 ≤ hP (gH g) ∧ hP (gH g) ≤ 6)
    (k : ∀ μ', RE μ' T N h (gE (personG T g)) → GQ μ' h (hP (gH (personG T g))) (personG T g) → FRg μ μ' h → R μ') : CAv mX7_readPerson d sc [(2, 28)] μ R := by
  have hh := hE.1
  have hhv := ik_1 hh
  have hT := hE.2.2.1
  have h28 := hE.2.2.2.2.1
  refine byV (d' := 3) (by omega) (Q := R) ?_ (fun _ z => z)
  refine CTv_of mp_X7_readPerson (Nat.le_of_ble_eq_true rfl) ?_
  refine s_X7_readPerson_0 ⟨by rw [h28]; exact hh, ?_⟩
  rw [h28, hQ.2.2.2.1]
  intro v2 e2
  rw [e2]
  clear e2 v2
  refine ⟨fun z => ?_, fun z => ca_fail (by omega) (by decide) hE (fun μ' r f => ?_)⟩
  rotate_left
  · have e : personG T g = failG T 4 g := by unfold personG; rw [if_pos z]
    rw [e] at k
    exact k μ' r ((hQ.e hh f).st _) f.g
  have eP : personG T g = moreP (person2 T g) := by unfold personG; rw [if_neg (by omega)]
  generalize hp0 : hP (gH g) = p at *
  refine ca_step (by omega) hE (fun _ => by rw [hK]; decide) ?_
  intro μ5 r5 f5
  have Q5 := hQ.e hh f5
  rw [r5.2.2.2.2.1]
  refine ⟨hh, ca_cellsH (by omega) hh Q5 hb ?_⟩
  intro hcb
  refine ⟨by omega, ca_readNumber (by omega) r5 ?_⟩
  intro μ11 r11 f11
  have Q11 := Q5.e hh f11
  refine ⟨by omega, ?_⟩
  intro μ13 e13
  have g13 : ∀ b j : Int, b ≠ h + 12 → μ13 b j = μ11 b j := fun b j y => by rw [e13, mup_ap, if_neg (fun y2 => by omega)]
  have k13 : μ13 28 3 = h := by rw [g13 _ _ (by omega)]; exact r11.2.2.2.2.1
  rw [k13]
  refine ⟨hh, by omega, ?_⟩
  intro μ16 e16
  have k16 : μ16 28 3 = h := by rw [e16, mup_ap, if_neg (fun y => by omega)]; exact k13
  rw [k16]
  refine ⟨hh, by omega, ?_⟩
  intro μ19 e19
  have k19 : μ19 28 3 = h := by rw [e19, mup_ap, if_neg (fun y => by omega)]; exact k16
  rw [k19]
  refine ⟨hh, by omega, ?_⟩
  intro μ22 e22
  have g22 : ∀ b j : Int, b ≠ h + 12 → b ≠ h + 1 → b ≠ h + 2 → b ≠ h + 3 → μ22 b j = μ11 b j := fun b j y1 y2 y3 y4 => by
    rw [e22, mup_ap, if_neg (fun y => y4 y.1), e19, mup_ap, if_neg (fun y => y3 y.1), e16, mup_ap, if_neg (fun y => y2 y.1)]; exact g13 b j y1
  have F22 : FRg μ μ22 h := (f5.tr f11).g.tr (fun b j q1 q2 => g22 b j (by omega) (by omega) (by omega) (by omega))
  have r22 : RE μ22 T N h (gE (person1 T g)) := by
    have e : gE (person1 T g) = (numE T 0 (hR (gH g) * hC (gH g) - 1) (stepE (gE g))).2 := rfl
    rw [e]
    exact r11.same (fun b j _ q => g22 b j (by omega) (by omega) (by omega) (by omega))
  have Q22 : GQ μ22 h (p + 1) (person1 T g) := by
    obtain ⟨q1, q2, q3, q4, q5, q6, q7⟩ := Q11
    refine ⟨by rw [g22 _ _ (by omega) (by omega) (by omega) (by omega)]; exact q1, by rw [g22 _ _ (by omega) (by omega) (by omega) (by omega)]; exact q2, by rw [g22 _ _ (by omega) (by omega) (by omega) (by omega)]; exact q3, by rw [g22 _ _ (by omega) (by omega) (by omega) (by omega)]; exact q4, fun q z1 z2 => ?_, ?_, fun l z1 z2 => by rw [g22 _ _ (by omega) (by omega) (by omega) (by omega), g22 _ _ (by omega) (by omega) (by omega) (by omega)]; exact q7 l z1 z2⟩
    · have eL : hLoud (gH (person1 T g)) = setA (hLoud (gH g)) p 0 := by rw [← hp0]; rfl
      have eD : hDeaf (gH (person1 T g)) = setA (hDeaf (gH g)) p 0 := by rw [← hp0]; rfl
      have eV : hVoice (gH (person1 T g)) = setA (hVoice (gH g)) p 0 := by rw [← hp0]; rfl
      rw [eL, eD, eV]
      have a1 : μ22 (h + 1) q = if q = p then 0 else μ11 (h + 1) q := by
        rw [e22, mup_ap, if_neg (fun y => by omega), e19, mup_ap, if_neg (fun y => by omega), e16, mup_ap]
        by_cases y : q = p
        · rw [if_pos ⟨rfl, y⟩, if_pos y]
        · rw [if_neg (fun y2 => y y2.2), if_neg y]; exact g13 _ _ (by omega)
      have a2 : μ22 (h + 2) q = if q = p then 0 else μ11 (h + 2) q := by
        rw [e22, mup_ap, if_neg (fun y => by omega), e19, mup_ap]
        by_cases y : q = p
        · rw [if_pos ⟨rfl, y⟩, if_pos y]
        · rw [if_neg (fun y2 => y y2.2), if_neg y, e16, mup_ap, if_neg (fun y => by omega)]; exact g13 _ _ (by omega)
      have a3 : μ22 (h + 3) q = if q = p then 0 else μ11 (h + 3) q := by
        rw [e22, mup_ap]
        by_cases y : q = p
        · rw [if_pos ⟨rfl, y⟩, if_pos y]
        · rw [if_neg (fun y2 => y y2.2), if_neg y, e19, mup_ap, if_neg (fun y => by omega), e16, mup_ap, if_neg (fun y => by omega)]; exact g13 _ _ (by omega)
      rw [a1, a2, a3]
      by_cases y : q = p
      · rw [if_pos y, if_pos y, if_pos y, y, setA_at, setA_at, setA_at]; exact ⟨rfl, rfl, rfl⟩
      · rw [if_neg y, if_neg y, if_neg y, setA_ne _ y, setA_ne _ y, setA_ne _ y]; exact q5 q z1 (by omega)
    · have ePl : gP (person1 T g) = moveC (gP g) p (numE T 0 (hR (gH g) * hC (gH g) - 1) (stepE (gE g))).1 := by rw [← hp0]; rfl
      rw [ePl]
      have x13 : XP μ13 (h + 7) (p + 1) (moveC (gP g) p (numE T 0 (hR (gH g) * hC (gH g) - 1) (stepE (gE g))).1) := by rw [e13]; exact q6.put
      exact x13.same (fun b j z1 z2 => by rw [e22, mup_ap, if_neg (fun y => by omega), e19, mup_ap, if_neg (fun y => by omega), e16, mup_ap, if_neg (fun y => by omega)])
  have hp1 : hP (gH (person1 T g)) = p := hp0
  -- the flags
  have fin : ∀ (μ1 : Mem) (g1 : GS), RE μ1 T N h (gE g1) → GQ μ1 h (p + 1) g1 → hP (gH g1) = p → FRg μ μ1 h → g1 = person2 T g → isK 1 (μ1 28 3) ∧ (-2147483648 ≤ (μ1 (μ1 28 3) 3) + 1 ∧ (μ1 (μ1 28 3) 3) + 1 < 2147483648) ∧ (∀ μ4, μ4 = mup μ1 (μ1 28 3) 3 ((μ1 (μ1 28 3) 3) + 1) → R μ4) := by
    intro μ1 g1 hE1 hQ1 hg1 hF1 he
    rw [hE1.2.2.2.2.1, hQ1.2.2.2.1, hg1]
    refine ⟨hh, by omega, ?_⟩
    intro μ4 e4
    have g4 : ∀ b j : Int, (b = h → j ≠ 3) → μ4 b j = μ1 b j := fun b j y => by rw [e4, mup_ap, if_neg (fun y2 => y y2.1 y2.2)]
    rw [eP, ← he] at k
    have hpm : hP (gH (moreP g1)) = p + 1 := by show hP (gH g1) + 1 = p + 1; rw [hg1]
    rw [hpm] at k
    refine k μ4 (hE1.same (fun b j _ q => g4 b j (by omega))) ?_ (hF1.tr (fun b j q1 q2 => g4 b j (by omega)))
    obtain ⟨q1, q2, q3, q4, q5, q6, q7⟩ := hQ1
    refine ⟨by rw [g4 _ _ (by omega)]; exact q1, by rw [g4 _ _ (by omega)]; exact q2, by rw [g4 _ _ (by omega)]; exact q3, by rw [e4, mup_at, hpm], fun q z1 z2 => by rw [g4 _ _ (by omega), g4 _ _ (by omega), g4 _ _ (by omega)]; exact q5 q z1 z2, q6.same (fun b j z1 z2 => g4 b j (by omega)), fun l z1 z2 => by rw [g4 _ _ (by omega), g4 _ _ (by omega)]; exact q7 l z1 z2⟩
  have hN := hE.2.1
  have key : ∀ (r : Nat) (left : Int) (g1 : GS) (μ1 : Mem), RE μ1 T N h (gE g1) → GQ μ1 h (p + 1) g1 → hP (gH g1) = p → FRg μ μ1 h → (eF (gE g1) = 0 → N + 1 ≤ r + eK (gE g1) ∧ (N : Int) + 1 ≤ left + eK (gE g1)) → i32 left → repA (flagC T) (flagB T) r g1 = person2 T g →
      WQ mX7_readPerson 3 sc (ZV sc R) 85 [(2, 28), (0, p), (0, left), (9, 0), (9, 0)] [] μ1 := by
    intro r
    induction r with
    | zero =>
      intro left g1 μ1 hE1 hQ1 hg1 hF1 hr hi he
      have hne : eF (gE g1) ≠ 0 := fun z => by have := hr z; have := hE1.2.2.2.2.2.1.1; omega
      have F := fin μ1 g1 hE1 hQ1 hg1 hF1 he
      refine s_X7_readPerson_85 ⟨fun _ => F, fun _ => ca_isAt (by omega) hE1 (fun _ => ⟨fun q => absurd rfl q, fun _ => ca_isAt (by omega) hE1 (fun _ => ⟨fun q => absurd rfl q, fun _ => ca_isAt (by omega) hE1 (fun _ => ⟨fun _ => F, fun q => absurd rfl q⟩) (fun y => absurd (isE_t.mp y).1 hne)⟩) (fun y => absurd (isE_t.mp y).1 hne)⟩) (fun y => absurd (isE_t.mp y).1 hne)⟩
    | succ r ih =>
      intro left g1 μ1 hE1 hQ1 hg1 hF1 hr hi he
      have noF : flagC T g1 = false → isK 1 (μ1 28 3) ∧ (-2147483648 ≤ (μ1 (μ1 28 3) 3) + 1 ∧ (μ1 (μ1 28 3) 3) + 1 < 2147483648) ∧ (∀ μ4, μ4 = mup μ1 (μ1 28 3) 3 ((μ1 (μ1 28 3) 3) + 1) → R μ4) := fun y => fin μ1 g1 hE1 hQ1 hg1 hF1 (by rw [repA, y, if_neg (by decide)] at he; exact he)
      have yes : ∀ K : Int, (K = 16 ∨ K = 17 ∨ K = 18) → isE T (gE g1) K = true → 0 < left → WQ mX7_readPerson 3 sc (ZV sc R) 116 [(2, 28), (0, p), (0, left), (9, 0), (9, 0)] [] μ1 := by
        intro K hK3 y hl0
        have y2 := isE_t.mp y
        have hc : flagC T g1 = true := by
          unfold flagC
          rcases hK3 with q | q | q
          · rw [q] at y; rw [y]; rfl
          · rw [q] at y; rw [y, Bool.true_or, Bool.or_true]
          · rw [q] at y; rw [y, Bool.or_true, Bool.or_true]
        rw [repA, if_pos hc] at he
        have t := hE1.tok
        have st := step_y y2.1
        have hlt := hT.lt hE1.2.2.2.2.2.1.1 (by rw [y2.2]; omega)
        have hr1 := hr y2.1
        refine s_X7_readPerson_116 ⟨t.1, ?_⟩
        intro v2 h2
        rw [t.2.1, y2.2] at h2
        rw [h2]
        refine ca_step (by omega) hE1 (fun _ => by rw [y2.2]; omega) ?_
        intro μ4 r4 f4
        refine ca_readNumber (by omega) r4 ?_
        intro μ6 r6 f6
        have Q6 := (hQ1.e hh f4).e hh f6
        have F6 := (hF1.tr f4.g).tr f6.g
        rw [r6.2.2.2.2.1]
        have eFl : gH (flagB T g1) = flagH (gH g1) K p (numE T 0 9 (stepE (gE g1))).1 := by rw [← y2.2, ← hg1]; rfl
        have eG : gE (flagB T g1) = (numE T 0 9 (stepE (gE g1))).2 := rfl
        have on : ∀ (row : Int) (μ11 : Mem), (row = if K = 16 then h + 1 else if K = 17 then h + 2 else h + 3) → μ11 = mup μ6 row p (numE T 0 9 (stepE (gE g1))).1 → (-2147483648 ≤ left + (-1) ∧ left + (-1) < 2147483648) ∧ ∀ v13 : Int, v13 = left + (-1) → WQ mX7_readPerson 3 sc (ZV sc R) 85 [(2, 28), (0, p), (0, v13), (9, 0), (9, 0)] [] μ11 := by
          intro row μ11 hrow e11
          have hrow2 : row = h + 1 ∨ row = h + 2 ∨ row = h + 3 := by
            rw [hrow]; split
            · exact Or.inl rfl
            · split
              · exact Or.inr (Or.inl rfl)
              · exact Or.inr (Or.inr rfl)
          have g11 : ∀ b j : Int, (b = row → j ≠ p) → μ11 b j = μ6 b j := fun b j y => by rw [e11, mup_ap, if_neg (fun y2 => y y2.1 y2.2)]
          refine ⟨⟨by omega, by have := hi.2; omega⟩, ?_⟩
          rintro _ rfl
          refine ih (left + -1) (flagB T g1) μ11 (by rw [eG]; exact r6.same (fun b j _ q => g11 b j (by omega))) ?_ (by rw [eFl]; exact hg1) (F6.tr (fun b j q1 q2 => g11 b j (by omega))) (fun z => ?_) ⟨by omega, by have := hi.2; omega⟩ he
          · obtain ⟨q1, q2, q3, q4, q5, q6, q7⟩ := Q6
            refine ⟨by rw [g11 _ _ (by omega), eFl]; exact q1, by rw [g11 _ _ (by omega), eFl]; exact q2, by rw [g11 _ _ (by omega), eFl]; exact q3, by rw [g11 _ _ (by omega), eFl]; exact q4, fun q z1 z2 => ?_, q6.same (fun b j z1 z2 => g11 b j (by omega)), fun l z1 z2 => by rw [g11 _ _ (by omega), g11 _ _ (by omega), eFl]; exact q7 l z1 z2⟩
            have qq := q5 q z1 z2
            have eL : hLoud (gH (flagB T g1)) = if K = 16 then setA (hLoud (gH g1)) p (numE T 0 9 (stepE (gE g1))).1 else hLoud (gH g1) := by rw [eFl]; rfl
            have eD : hDeaf (gH (flagB T g1)) = if K = 17 then setA (hDeaf (gH g1)) p (numE T 0 9 (stepE (gE g1))).1 else hDeaf (gH g1) := by rw [eFl]; rfl
            have eV : hVoice (gH (flagB T g1)) = if K = 16 ∨ K = 17 then hVoice (gH g1) else setA (hVoice (gH g1)) p (numE T 0 9 (stepE (gE g1))).1 := by rw [eFl]; rfl
            rw [eL, eD, eV]
            have at_ : ∀ f : Int → Int, μ6 row q = f q → μ11 row q = setA f p (numE T 0 9 (stepE (gE g1))).1 q := fun f hf => by
              rw [e11, mup_ap]
              by_cases y : q = p
              · rw [if_pos ⟨rfl, y⟩, y, setA_at]
              · rw [if_neg (fun y2 => y y2.2), setA_ne _ y]; exact hf
            rcases hK3 with z | z | z
            · have hr' : row = h + 1 := by rw [hrow, if_pos z]
              rw [if_pos z, if_neg (by omega), if_pos (Or.inl z), g11 (h + 2) q (by omega), g11 (h + 3) q (by omega)]
              rw [← hr'] at qq ⊢
              exact ⟨at_ _ qq.1, qq.2⟩
            · have hr' : row = h + 2 := by rw [hrow, if_neg (by omega), if_pos z]
              rw [if_neg (by omega), if_pos z, if_pos (Or.inr z), g11 (h + 1) q (by omega), g11 (h + 3) q (by omega)]
              rw [← hr'] at qq ⊢
              exact ⟨qq.1, at_ _ qq.2.1, qq.2.2⟩
            · have hr' : row = h + 3 := by rw [hrow, if_neg (by omega), if_neg (by omega)]
              rw [if_neg (by omega), if_neg (by omega), if_neg (by omega), g11 (h + 1) q (by omega), g11 (h + 2) q (by omega)]
              rw [← hr'] at qq ⊢
              exact ⟨qq.1, qq.2.1, at_ _ qq.2.2⟩
          · rw [eG] at z ⊢
            obtain ⟨a1, a2, _⟩ := (SG.num (T := T) (lo := 0) (hi := 9) (e := stepE (gE g1))) z
            omega
        refine ⟨fun k16 => ⟨fun k17 => ⟨hh, by omega, fun μ11 e11 => on (h + 3) μ11 (by rw [if_neg k16, if_neg k17]) e11⟩, fun k17 => ⟨hh, by omega, fun μ16 e16 => on (h + 2) μ16 (by rw [if_neg k16, if_pos k17]) e16⟩⟩, fun k16 => ⟨hh, by omega, fun μ21 e21 => on (h + 1) μ21 (by rw [if_pos k16]) e21⟩⟩
      refine s_X7_readPerson_85 ⟨fun z => ?_, fun hl0 => ca_isAt (by omega) hE1 (fun n16 => ⟨fun q => absurd rfl q, fun _ => ca_isAt (by omega) hE1 (fun n17 => ⟨fun q => absurd rfl q, fun _ => ca_isAt (by omega) hE1 (fun n18 => ⟨fun _ => noF (by unfold flagC; rw [n16, n17, n18]; rfl), fun q => absurd rfl q⟩) (fun y => ⟨fun q => absurd q (by decide), fun _ => yes 18 (Or.inr (Or.inr rfl)) y hl0⟩)⟩) (fun y => ⟨fun _ => yes 17 (Or.inr (Or.inl rfl)) y hl0, fun q => absurd q (by decide)⟩)⟩) (fun y => ⟨fun _ => yes 16 (Or.inl rfl) y hl0, fun q => absurd q (by decide)⟩)⟩
      have hne : eF (gE g1) ≠ 0 := fun z2 => by have := hr z2; have := hE1.2.2.2.2.2.1.1; omega
      exact noF (by unfold flagC; rw [isE_no hne, isE_no hne, isE_no hne]; rfl)
  intro v23 h23
  rw [r22.2.2.2.1.1] at h23
  rw [h23]
  exact key 1000 _ (person1 T g) μ22 r22 Q22 hp1 F22 (fun _ => ⟨by omega, by omega⟩) ⟨by omega, by omega⟩ rfl

/-! THE CLASS READS: namings, laws, wind, all -/
theorem ca_readNaming {d : Nat} {sc : SC} {μ : Mem} {T : TxT} {N : Nat} {h : Int} {g : GS} {R : Mem → Prop} (hd : 4 ≤ d) (hE : RE μ T N h (gE g)) (hQ : GQ μ h (hP (gH g)) g) (h0 : eF (gE g) = 0) (hK : T.1 (eK (gE g)) = 2) (hp : 0 ≤ hP (gH g) ∧ hP (gH g) ≤ 6) (hn : 0 ≤ pN (gP g))
    (k : ∀ μ', RE μ' T N h (gE (namesG T g)) → GQ μ' h (hP (gH (namesG T g))) (namesG T g) → FRg μ μ' h → R μ') : CAv mX7_readNaming d sc [(2, 28)] μ R := by
  have hh := hE.1
  have hhv := ik_1 hh
  have hT := hE.2.2.1
  have hN := hE.2.1
  have h28 := hE.2.2.2.2.1
  have hpl : isK 6 (h + 7) := by
    rcases hhv with rfl | rfl | rfl | rfl
    · exact k_9
    · exact k_22
    · exact k_156
    · exact k_169
  refine byV (d' := 3) (by omega) (Q := R) ?_ (fun _ z => z)
  refine CTv_of mp_X7_readNaming (Nat.le_of_ble_eq_true rfl) ?_
  refine s_X7_readNaming_0 ⟨by rw [h28]; exact hh, ?_⟩
  rw [h28, hQ.2.2.2.2.2.1.1]
  refine ⟨fun z => ?_, fun z => ca_fail (by omega) (by decide) hE (fun μ' r f => ?_)⟩
  rotate_left
  · have e : namesG T g = failG T 4 g := by unfold namesG; rw [if_pos z]
    rw [e] at k
    exact k μ' r ((hQ.e hh f).st _) f.g
  have eP : namesG T g = ((names4 T g).2, gH g, addN (gP g) (names1 T g).1 (names2 T g).1 (names3 T g).1 (names4 T g).1, gO g) := by unfold namesG; rw [if_neg (by omega)]
  rw [eP] at k
  refine ca_step (by omega) hE (fun _ => by rw [hK]; decide) ?_
  intro μ4 r4 f4
  have Q4 := hQ.e hh f4
  rw [r4.2.2.2.2.1, Q4.2.2.2.1]
  refine ⟨hh, by omega, ca_readNumber (by omega) r4 ?_⟩
  intro μ8 r8 f8
  have F8 := f4.tr f8
  have r8' : RE μ8 T N h (names1 T g).2 := r8
  -- the loop of how sure
  have add : ∀ (μ1 : Mem) (x : Int × ES), RE μ1 T N h x.2 → FRe μ μ1 h → x = names4 T g → isK 1 (μ1 28 3) ∧ CAv mX6_add 3 sc [(2, μ1 28 3 + 7), (0, (names1 T g).1), (0, (names2 T g).1), (0, (names3 T g).1), (0, x.1)] μ1 (fun μ4 => R μ4) := by
    intro μ1 x hE1 hF1 hx
    have Q1 := hQ.e hh hF1
    rw [hE1.2.2.2.2.1]
    refine ⟨hh, byV (d' := 0) (by omega) (ct_add hpl (by rw [Q1.2.2.2.2.2.1.1]; omega)) ?_⟩
    rintro μ' ⟨f1, f2, f3, f4'⟩
    have g1 : ∀ b j : Int, (b < h + 7 ∨ h + 12 < b) → μ' b j = μ1 b j := fun b j y => f1 b j (by omega)
    rw [hx] at hE1 f4'
    refine k μ' (hE1.same (fun b j _ q => g1 b j (by omega))) ?_ (hF1.g.tr (fun b j q1 q2 => g1 b j (by omega)))
    obtain ⟨q1, q2, q3, q4, q5, q6, q7⟩ := Q1
    exact ⟨by rw [g1 _ _ (by omega)]; exact q1, by rw [g1 _ _ (by omega)]; exact q2, by rw [g1 _ _ (by omega)]; exact q3, by rw [g1 _ _ (by omega)]; exact q4, fun q z1 z2 => by rw [g1 _ _ (by omega), g1 _ _ (by omega), g1 _ _ (by omega)]; exact q5 q z1 z2, q6.add f1 f2 f3 f4', fun l z1 z2 => by rw [g1 _ _ (by omega), g1 _ _ (by omega)]; exact q7 l z1 z2⟩
  have key : ∀ (r : Nat) (left : Int) (x : Int × ES) (μ1 : Mem), RE μ1 T N h x.2 → FRe μ μ1 h → (eF x.2 = 0 → N + 1 ≤ r + eK x.2 ∧ (N : Int) + 1 ≤ left + eK x.2) → i32 left → repA (fun x : Int × ES => isE T x.2 4) (sureB T) r x = names4 T g →
      WQ mX7_readNaming 3 sc (ZV sc R) 105 [(2, 28), (0, (names1 T g).1), (0, (names2 T g).1), (0, (names3 T g).1), (0, x.1), (0, left)] [] μ1 := by
    intro r
    induction r with
    | zero =>
      intro left x μ1 hE1 hF1 hr hi he
      have hne : eF x.2 ≠ 0 := fun z => by have := hr z; have := hE1.2.2.2.2.2.1.1; omega
      have A := add μ1 x hE1 hF1 he
      exact s_X7_readNaming_105 ⟨fun _ => A, fun _ => ca_isAt (by omega) hE1 (fun _ => ⟨fun _ => A, fun q => absurd rfl q⟩) (fun y => absurd (isE_t.mp y).1 hne)⟩
    | succ r ih =>
      intro left x μ1 hE1 hF1 hr hi he
      refine s_X7_readNaming_105 ⟨fun z => ?_, fun hl0 => ca_isAt (by omega) hE1 (fun y => ⟨fun _ => add μ1 x hE1 hF1 (by rw [repA, y, if_neg (by decide)] at he; exact he), fun q => absurd rfl q⟩) (fun y => ⟨fun q => absurd q (by decide), fun _ => ?_⟩)⟩
      · have hne : eF x.2 ≠ 0 := fun z2 => by have := hr z2; have := hE1.2.2.2.2.2.1.1; omega
        exact add μ1 x hE1 hF1 (by rw [repA, isE_no hne, if_neg (by decide)] at he; exact he)
      · have y2 := isE_t.mp y
        have st := step_y y2.1
        have hr1 := hr y2.1
        rw [repA, if_pos y] at he
        refine ca_step (by omega) hE1 (fun _ => by rw [y2.2]; decide) ?_
        intro μ12 r12 f12
        refine ca_readNumber (by omega) r12 ?_
        intro μ14 r14 f14
        refine ⟨⟨by omega, by have := hi.2; omega⟩, ?_⟩
        rintro _ rfl
        refine ih (left + -1) (sureB T x) μ14 r14 ((hF1.tr f12).tr f14) (fun z => ?_) ⟨by omega, by have := hi.2; omega⟩ he
        obtain ⟨a1, a2, _⟩ := (SG.num (T := T) (lo := 0) (hi := 10) (e := stepE x.2)) z
        have e : eK (sureB T x).2 = eK (numE T 0 10 (stepE x.2)).2 := rfl
        omega
  -- from the second name on
  have rest : ∀ μ10 : Mem, RE μ10 T N h (sameE T (names1 T g)) → FRe μ μ10 h → isK 1 (μ10 28 3) ∧ (-2147483648 ≤ (μ10 (μ10 28 3) 3) - 1 ∧ (μ10 (μ10 28 3) 3) - 1 < 2147483648) ∧ CAi mX7_readNumber 3 sc [(2, 28), (0, 0), (0, (μ10 (μ10 28 3) 3) - 1)] μ10 (fun r14 μ15 => CAv mX7_expect 3 sc [(2, 28), (0, 3)] μ15 (fun μ17 => CAi mX7_readNumber 3 sc [(2, 28), (0, 0), (0, 99)] μ17 (fun r18 μ19 => ∀ v20 : Int, v20 = μ19 28 4 → WQ mX7_readNaming 3 sc (ZV sc R) 105 [(2, 28), (0, (names1 T g).1), (0, r14), (0, r18), (0, 10), (0, v20)] [] μ19))) := by
    intro μ10 r10 f10
    have Q10 := hQ.e hh f10
    rw [r10.2.2.2.2.1, Q10.2.2.2.1]
    refine ⟨hh, by omega, ca_readNumber (by omega) r10 ?_⟩
    intro μ15 r15 f15
    refine ca_expect (by omega) (by decide) r15 ?_
    intro μ17 r17 f17
    refine ca_readNumber (by omega) r17 ?_
    intro μ19 r19 f19
    intro v20 h20
    rw [r19.2.2.2.1.1] at h20
    rw [h20]
    exact key 1000 _ (10, (names3 T g).2) μ19 r19 (((f10.tr f15).tr f17).tr f19) (fun _ => by
      show N + 1 ≤ 1000 + eK (names3 T g).2 ∧ (N : Int) + 1 ≤ ((N + 1 : Nat) : Int) + eK (names3 T g).2
      omega) ⟨by omega, by omega⟩ rfl
  refine ca_isAt (by omega) r8' (fun n50 => ⟨fun _ => ?_, fun q => absurd rfl q⟩) (fun y50 => ⟨fun q => absurd q (by decide), fun _ => ?_⟩)
  · have e : sameE T (names1 T g) = (names1 T g).2 := by unfold sameE; rw [if_neg (fun q => by rw [n50] at q; exact absurd q.1 (by decide))]
    exact rest μ8 (by rw [e]; exact r8') F8
  · have t := r8'.tok
    refine ⟨t.1, ?_⟩
    rw [t.2.2.2]
    refine ⟨fun hne => ?_, fun heq => ca_fail (by omega) (by decide) r8' ?_⟩
    · have e : sameE T (names1 T g) = (names1 T g).2 := by unfold sameE; rw [if_neg (fun q => hne q.2)]
      exact rest μ8 (by rw [e]; exact r8') F8
    · intro μ33 r33 f33
      have e : sameE T (names1 T g) = failE T 3 (names1 T g).2 := by unfold sameE; rw [if_pos ⟨y50, heq⟩]
      exact rest μ33 (by rw [e]; exact r33) (F8.tr f33)
theorem ca_readLaw {d : Nat} {sc : SC} {μ : Mem} {T : TxT} {N : Nat} {h l : Int} {g : GS} {R : Mem → Prop} (hd : 61 ≤ d) (hl : 0 ≤ l ∧ l < 3) (hE : RE μ T N h (gE g)) (hQ : GQ μ h (hP (gH g)) g) (h0 : eF (gE g) = 0) (hK : T.1 (eK (gE g)) ≠ 52) (hL : Ln 0 (gE g))
    (k : ∀ μ', RE μ' T N h (gE (lawG T l g)) → GQ μ' h (hP (gH (lawG T l g))) (lawG T l g) → FRg μ μ' h → R μ') : CAv mX7_readLaw d sc [(2, 28), (0, l)] μ R := by
  have hh := hE.1
  have hhv := ik_1 hh
  have hT := hE.2.2.1
  refine byV (d' := 60) (by omega) (Q := R) ?_ (fun _ z => z)
  refine CTv_of mp_X7_readLaw (Nat.le_of_ble_eq_true rfl) ?_
  refine s_X7_readLaw_0 (ca_step (by omega) hE (fun _ => hK) ?_)
  intro μ2 r2 f2
  refine ca_expect (by omega) (by decide) r2 ?_
  intro μ4 r4 f4
  have r4' : RE μ4 T N h (law1 T g) := r4
  have F4 := f2.tr f4
  have L4 : Ln 0 (law1 T g) := by
    have q : Ln (0 + 1) (law1 T g) := (Ln.step (s := 0) hL h0).exp (T := T) (K := 31)
    intro z; have := q z; omega
  intro v5 h5
  rw [r4'.2.2.2.2.2.2.2.2.2.1] at h5
  -- both ways end so
  have fin : ∀ μ10 : Mem, RE μ10 T N h (law2 T l g) → FRg μ μ10 h → GQ μ10 h (hP (gH g)) g → isK 1 (μ10 28 3) ∧ (0 ≤ l ∧ l < 3) ∧ (∀ μ13, μ13 = mup μ10 (μ10 28 3 + 5) l v5 → isK 1 (μ13 28 3) ∧ (0 ≤ l ∧ l < 3) ∧ (∀ μ16, μ16 = mup μ13 (μ13 28 3 + 6) l (μ13 28 9) → R μ16)) := by
    intro μ10 r10 f10 Q10
    rw [r10.2.2.2.2.1]
    refine ⟨hh, hl, ?_⟩
    intro μ13 e13
    have g13 : ∀ b j : Int, (b = h + 5 → j ≠ l) → μ13 b j = μ10 b j := fun b j y => by rw [e13, mup_ap, if_neg (fun y2 => y y2.1 y2.2)]
    rw [g13 28 3 (by omega), r10.2.2.2.2.1, g13 28 9 (by omega), r10.2.2.2.2.2.2.2.2.2.1]
    refine ⟨hh, hl, ?_⟩
    intro μ16 e16
    have g16 : ∀ b j : Int, (b = h + 5 ∨ b = h + 6 → j ≠ l) → μ16 b j = μ10 b j := fun b j y => by rw [e16, mup_ap, if_neg (fun y2 => y (Or.inr y2.1) y2.2), g13 b j (fun y2 => y (Or.inl y2))]
    refine k μ16 (r10.same (fun b j _ q => g16 b j (by omega))) ?_ (f10.tr (fun b j q1 q2 => g16 b j (by omega)))
    obtain ⟨q1, q2, q3, q4, q5, q6, q7⟩ := Q10
    refine ⟨by rw [g16 _ _ (by omega)]; exact q1, by rw [g16 _ _ (by omega)]; exact q2, by rw [g16 _ _ (by omega)]; exact q3, by rw [g16 _ _ (by omega)]; exact q4, fun q z1 z2 => by rw [g16 _ _ (by omega), g16 _ _ (by omega), g16 _ _ (by omega)]; exact q5 q z1 z2, q6.same (fun b j z1 z2 => g16 b j (by omega)), fun m z1 z2 => ?_⟩
    show μ16 (h + 5) m = setA (gO g) l ((eC (law1 T g)).length : Int) m ∧ μ16 (h + 6) m = setA (gO g) l ((eC (law1 T g)).length : Int) m + setA (hLen (gH g)) l (((eC (law2 T l g)).length : Int) - ((eC (law1 T g)).length : Int)) m
    by_cases y : m = l
    · rw [y, setA_at, setA_at]
      refine ⟨?_, ?_⟩
      · rw [e16, mup_ap, if_neg (fun y2 => by omega), e13, mup_at]; exact h5
      · rw [e16, mup_at]; omega
    · rw [setA_ne _ y, setA_ne _ y, g16 _ _ (fun _ => y), g16 _ _ (fun _ => y)]
      exact q7 m z1 z2
  have Q4 := hQ.e hh F4
  refine ⟨fun hl2 => ?_, fun hl2 => ?_⟩
  · intro μ7 e7
    have g7 : ∀ b j : Int, (b = 28 → j ≠ 10) → μ7 b j = μ4 b j := fun b j y => by rw [e7, mup_ap, if_neg (fun y2 => y y2.1 y2.2)]
    have a7 : μ7 28 10 = 0 := by rw [e7, mup_at]
    have r7 : RE μ7 T N h (law1 T g) := r4'.same (fun b j y _ => g7 b j y)
    have F7 : FRg μ μ7 h := F4.g.tr (fun b j q1 q2 => g7 b j (fun y => (q1 y).2.2.2.2))
    rw [a7]
    refine ⟨fun _ => (law_CX hT (Or.inl rfl)).1 60 sc μ7 _ _ (Nat.le_refl _) r7 L4 (Or.inl ⟨a7, rfl⟩) ?_, fun q => absurd rfl q⟩
    intro μ10 r10 f10
    have e2 : law2 T l g = sumE T (lvE T 21 6).1 (law1 T g) := by unfold law2; rw [if_neg hl2]
    exact fin μ10 (by rw [e2]; exact r10) (F7.tr f10.g) ((Q4.same (fun b j z1 z2 z3 => g7 b j (by omega))).e hh f10)
  · intro μ7 e7
    have g7 : ∀ b j : Int, (b = 28 → j ≠ 10) → μ7 b j = μ4 b j := fun b j y => by rw [e7, mup_ap, if_neg (fun y2 => y y2.1 y2.2)]
    have a7 : μ7 28 10 = 1 := by rw [e7, mup_at]
    have r7 : RE μ7 T N h (law1 T g) := r4'.same (fun b j y _ => g7 b j y)
    have F7 : FRg μ μ7 h := F4.g.tr (fun b j q1 q2 => g7 b j (fun y => (q1 y).2.2.2.2))
    rw [a7]
    refine ⟨fun q => absurd q (by decide), fun _ => (law_CX hT (Or.inr rfl)).2 60 sc μ7 _ _ (Nat.le_refl _) r7 L4 (Or.inr ⟨by rw [a7]; decide, rfl⟩) ?_⟩
    intro μ10 r10 f10
    have e2 : law2 T l g = truthE T (lvE T 23 6).2 (law1 T g) := by unfold law2; rw [if_pos hl2]
    exact fin μ10 (by rw [e2]; exact r10) (F7.tr f10.g) ((Q4.same (fun b j z1 z2 z3 => g7 b j (by omega))).e hh f10)
theorem ca_readLine {d : Nat} {sc : SC} {μ : Mem} {T : TxT} {N : Nat} {h : Int} {g : GS} {R : Mem → Prop} (hd : 62 ≤ d) (hE : RE μ T N h (gE g)) (hQ : GQ μ h (hP (gH g)) g) (h0 : eF (gE g) = 0) (hK : T.1 (eK (gE g)) ≠ 52) (hW : WG N g)
    (k : ∀ μ', RE μ' T N h (gE (lineG T g)) → GQ μ' h (hP (gH (lineG T g))) (lineG T g) → FRg μ μ' h → R μ') : CAv mX7_readLine d sc [(2, 28)] μ R := by
  have hh := hE.1
  have hhv := ik_1 hh
  have hT := hE.2.2.1
  have t := hE.tok
  have hk := hE.2.2.2.2.2.1.1
  have hN := hE.2.1
  have hL : Ln 0 (gE g) := fun _ => by have := hW.2.2.2.2.2.2.1; omega
  refine byV (d' := 61) (by omega) (Q := R) ?_ (fun _ z => z)
  refine CTv_of mp_X7_readLine (Nat.le_of_ble_eq_true rfl) ?_
  have fin : ∀ (μ4 : Mem) (g1 : GS), g1 = midG T g → RE μ4 T N h (gE g1) → GQ μ4 h (hP (gH g1)) g1 → FRg μ μ4 h → hLines (gH g1) = hLines (gH g) → WQ mX7_readLine 61 sc (ZV sc R) 151 [(2, 28)] [] μ4 := by
    intro μ4 g1 he r4 Q4 f4 hlin
    refine s_X7_readLine_151 (ca_expect (by omega) (by decide) r4 ?_)
    intro μ2 r2 f2
    have Q2 := Q4.e hh f2
    have hlb := hW.2.2.2.2.2.2.2.1
    rw [r2.2.2.2.2.1, Q2.2.2.1, hlin]
    refine ⟨hh, by omega, ?_⟩
    intro μ5 e5
    have g5 : ∀ b j : Int, (b = h → j ≠ 2) → μ5 b j = μ2 b j := fun b j y => by rw [e5, mup_ap, if_neg (fun y2 => y y2.1 y2.2)]
    have eL : lineG T g = (expE T 30 (gE g1), linesH (gH g1) (hLines (gH g1) + 1), gP g1, gO g1) := by rw [he]; rfl
    rw [eL] at k
    refine k μ5 (r2.same (fun b j _ q => g5 b j (by omega))) ?_ ((f4.tr f2.g).tr (fun b j q1 q2 => g5 b j (by omega)))
    obtain ⟨q1, q2, q3, q4, q5, q6, q7⟩ := Q2
    exact ⟨by rw [g5 _ _ (by omega)]; exact q1, by rw [g5 _ _ (by omega)]; exact q2, by rw [e5, mup_at, ← hlin]; rfl, by rw [g5 _ _ (by omega)]; exact q4, fun q z1 z2 => by rw [g5 _ _ (by omega), g5 _ _ (by omega), g5 _ _ (by omega)]; exact q5 q z1 z2, q6.same (fun b j z1 z2 => g5 b j (by omega)), fun l z1 z2 => by rw [g5 _ _ (by omega), g5 _ _ (by omega)]; exact q7 l z1 z2⟩
  refine s_X7_readLine_0 ⟨t.1, ?_⟩
  rw [t.2.1]
  refine ⟨fun z => ?_, fun z => ?_, fun z => ?_, fun z => ?_, fun z => ?_, fun z => ?_, fun z => ?_⟩
  · have e : midG T g = personG T g := by unfold midG; rw [if_pos z]
    refine ca_readPerson (by omega) hE hQ h0 z ⟨hW.1, hW.2.1⟩ hW.2.2.1 (fun μ' r Q f => fin μ' _ e.symm r Q f ?_)
    by_cases y : 6 ≤ hP (gH g)
    · unfold personG; rw [if_pos y]; rfl
    · have e2 : personG T g = moreP (person2 T g) := by unfold personG; rw [if_neg y]
      rw [e2]
      have : hLines (gH (person2 T g)) = hLines (gH g) := repA_inv (c := flagC T) (g := flagB T) (I := fun x : GS => hLines (gH x) = hLines (gH g)) (fun x hx _ => hx) 1000 (person1 T g) rfl
      exact this
  · have e : midG T g = namesG T g := by unfold midG; rw [if_neg (by omega), if_pos z]
    refine ca_readNaming (by omega) hE hQ h0 z hW.2.2.1 hW.2.2.2.2.1.2.1.1.1 (fun μ' r Q f => fin μ' _ e.symm r Q f ?_)
    unfold namesG
    split <;> rfl
  · have e : midG T g = lawG T 0 g := by unfold midG; rw [if_neg (by omega), if_neg (by omega), if_pos z]
    exact ca_readLaw (by omega) (by decide) hE hQ h0 hK hL (fun μ' r Q f => fin μ' _ e.symm r Q f rfl)
  · have e : midG T g = lawG T 1 g := by unfold midG; rw [if_neg (by omega), if_neg (by omega), if_neg (by omega), if_pos z]
    exact ca_readLaw (by omega) (by decide) hE hQ h0 hK hL (fun μ' r Q f => fin μ' _ e.symm r Q f rfl)
  · have e : midG T g = lawG T 2 g := by unfold midG; rw [if_neg (by omega), if_neg (by omega), if_neg (by omega), if_neg (by omega), if_pos z]
    exact ca_readLaw (by omega) (by decide) hE hQ h0 hK hL (fun μ' r Q f => fin μ' _ e.symm r Q f rfl)
  · have e : midG T g = windG T g := by unfold midG; rw [if_neg (by omega), if_neg (by omega), if_neg (by omega), if_neg (by omega), if_neg (by omega), if_pos z]
    refine ca_step (by omega) hE (fun _ => hK) ?_
    intro μ14 r14 f14
    rw [r14.2.2.2.2.1]
    refine ⟨hh, ca_readNumber (by omega) r14 ?_⟩
    intro μ17 r17 f17
    intro μ18 e18
    have g18 : ∀ b j : Int, (b = h + 7 → j ≠ 6) → μ18 b j = μ17 b j := fun b j y => by rw [e18, mup_ap, if_neg (fun y2 => y y2.1 y2.2)]
    have Q17 := (hQ.e hh f14).e hh f17
    refine fin μ18 (windG T g) e.symm (r17.same (fun b j _ q => g18 b j (by omega))) ?_ ((f14.tr f17).g.tr (fun b j q1 q2 => g18 b j (by omega))) rfl
    obtain ⟨q1, q2, q3, q4, q5, q6, q7⟩ := Q17
    refine ⟨by rw [g18 _ _ (by omega)]; exact q1, by rw [g18 _ _ (by omega)]; exact q2, by rw [g18 _ _ (by omega)]; exact q3, by rw [g18 _ _ (by omega)]; exact q4, fun q z1 z2 => by rw [g18 _ _ (by omega), g18 _ _ (by omega), g18 _ _ (by omega)]; exact q5 q z1 z2, ?_, fun l z1 z2 => by rw [g18 _ _ (by omega), g18 _ _ (by omega)]; exact q7 l z1 z2⟩
    exact ⟨by rw [g18 _ _ (by omega)]; exact q6.1, fun i i0 i1 => by rw [g18 _ _ (by omega), g18 _ _ (by omega), g18 _ _ (by omega), g18 _ _ (by omega)]; exact q6.2.1 i i0 i1, fun q z1 z2 => by rw [g18 _ _ (by omega)]; exact q6.2.2.1 q z1 z2, by rw [e18, mup_at]; rfl⟩
  · have e : midG T g = failG T 2 g := by unfold midG; rw [if_neg (by omega), if_neg (by omega), if_neg (by omega), if_neg (by omega), if_neg (by omega), if_neg (by omega)]
    exact ca_fail (by omega) (by decide) hE (fun μ' r f => fin μ' _ e.symm r ((hQ.e hh f).st _) f.g rfl)

/-! THE TEXT: what a line leaves -/
theorem repA_inv {α : Type} {c : α → Bool} {g : α → α} {I : α → Prop} (h : ∀ x, I x → c x = true → I (g x)) : ∀ (n : Nat) (x : α), I x → I (repA c g n x) := by
  intro n
  induction n with
  | zero => intro x hx; exact hx
  | succ n ih =>
    intro x hx
    rw [repA]
    by_cases q : c x = true
    · rw [if_pos q]; exact ih _ (h x hx q)
    · rw [if_neg q]; exact hx
/-- a person's flags -/
def FG (N : Nat) (g g' : GS) : Prop := OE N (gE g') ∧ SG (gE g) (gE g') ∧ hP (gH g') = hP (gH g) ∧ hR (gH g') = hR (gH g) ∧ hC (gH g') = hC (gH g) ∧ hLines (gH g') = hLines (gH g) ∧ hLen (gH g') = hLen (gH g) ∧ gP g' = gP g ∧ gO g' = gO g ∧
  (eF (gE g') = 0 → (∀ q, q ≠ hP (gH g) → hLoud (gH g') q = hLoud (gH g) q ∧ hDeaf (gH g') q = hDeaf (gH g) q ∧ hVoice (gH g') q = hVoice (gH g) q) ∧ (0 ≤ hLoud (gH g') (hP (gH g)) ∧ hLoud (gH g') (hP (gH g)) ≤ 9) ∧ (0 ≤ hDeaf (gH g') (hP (gH g)) ∧ hDeaf (gH g') (hP (gH g)) ≤ 9) ∧ (0 ≤ hVoice (gH g') (hP (gH g)) ∧ hVoice (gH g') (hP (gH g)) ≤ 9))
theorem setA_at (f : Int → Int) (i v : Int) : setA f i v i = v := if_pos rfl
theorem setA_ne (f : Int → Int) {i v k : Int} (h : k ≠ i) : setA f i v k = f k := if_neg h
theorem flagB_FG {T : TxT} {N : Nat} {g g1 : GS} (hT : TH T N) (h : FG N g g1) (hc : flagC T g1 = true) : FG N g (flagB T g1) := by
  obtain ⟨a1, a2, a3, a4, a5, a6, a7, a8, a9, a10⟩ := h
  unfold flagC at hc
  rw [Bool.or_eq_true, Bool.or_eq_true, isE_t, isE_t, isE_t] at hc
  have hf : eF (gE g1) = 0 := by rcases hc with q | q | q <;> exact q.1
  have hk : T.1 (eK (gE g1)) = 16 ∨ T.1 (eK (gE g1)) = 17 ∨ T.1 (eK (gE g1)) = 18 := by omega
  have o1 := a1.step hT (by omega : T.1 (eK (gE g1)) ≠ 52)
  have hK : hP (gH (flagB T g1)) = hP (gH g1) := rfl
  refine ⟨o1.num hT, (a2.tr SG.step).tr SG.num, by rw [← a3]; rfl, by rw [← a4]; rfl, by rw [← a5]; rfl, by rw [← a6]; rfl, by rw [← a7]; rfl, by rw [← a8]; rfl, by rw [← a9]; rfl, fun z => ?_⟩
  have hb := num_b (T := T) (lo := 0) (hi := 9) (e := stepE (gE g1)) z
  obtain ⟨b1, b2, b3, b4⟩ := a10 hf
  generalize hv : (numE T 0 9 (stepE (gE g1))).1 = v at hb
  have eL : hLoud (gH (flagB T g1)) = if T.1 (eK (gE g1)) = 16 then setA (hLoud (gH g1)) (hP (gH g1)) v else hLoud (gH g1) := by rw [← hv]; rfl
  have eD : hDeaf (gH (flagB T g1)) = if T.1 (eK (gE g1)) = 17 then setA (hDeaf (gH g1)) (hP (gH g1)) v else hDeaf (gH g1) := by rw [← hv]; rfl
  have eV : hVoice (gH (flagB T g1)) = if T.1 (eK (gE g1)) = 16 ∨ T.1 (eK (gE g1)) = 17 then hVoice (gH g1) else setA (hVoice (gH g1)) (hP (gH g1)) v := by rw [← hv]; rfl
  rw [a3] at eL eD eV
  rw [eL, eD, eV]
  refine ⟨fun q hq => ?_, ?_, ?_, ?_⟩
  · have := b1 q hq
    refine ⟨?_, ?_, ?_⟩
    · split
      · rw [setA_ne _ hq]; exact this.1
      · exact this.1
    · split
      · rw [setA_ne _ hq]; exact this.2.1
      · exact this.2.1
    · split
      · exact this.2.2
      · rw [setA_ne _ hq]; exact this.2.2
  · split
    · rw [setA_at]; exact hb
    · exact b2
  · split
    · rw [setA_at]; exact hb
    · exact b3
  · split
    · exact b4
    · rw [setA_at]; exact hb
theorem LN.person {T : TxT} {N : Nat} {g : GS} (hT : TH T N) (h0 : eF (gE g) = 0) (hk : eK (gE g) ≤ N) (hK : T.1 (eK (gE g)) = 1) (h : WG N g) : LN N g (personG T g) ∧ SG (gE g) (gE (personG T g)) := by
  have og : OE N (gE g) := ⟨hk, Or.inl h0⟩
  unfold personG
  by_cases c : 6 ≤ hP (gH g)
  · rw [if_pos c]
    have f := og.fail (T := T) (w := 4) (by decide)
    exact ⟨⟨f.1, fun z => absurd z f.2⟩, SG.fail (by decide) og⟩
  rw [if_neg c]
  have o1 := og.step hT (by rw [hK]; decide)
  obtain ⟨w1, w2, w3, w4, w5, w6, w7, w8, w9⟩ := h
  have F1 : FG N (person1 T g) (person1 T g) := by
    refine ⟨o1.num hT, SG.refl _, rfl, rfl, rfl, rfl, rfl, rfl, rfl, fun _ => ⟨fun q hq => ⟨rfl, rfl, rfl⟩, ?_, ?_, ?_⟩⟩
    all_goals
      show 0 ≤ setA _ (hP (gH g)) 0 (hP (gH g)) ∧ setA _ (hP (gH g)) 0 (hP (gH g)) ≤ 9
      rw [setA_at]; decide
  have F2 : FG N (person1 T g) (person2 T g) := repA_inv (fun x hx hc => flagB_FG hT hx hc) 1000 _ F1
  obtain ⟨a1, a2, a3, a4, a5, a6, a7, a8, a9, a10⟩ := F2
  have s01 : SG (gE g) (gE (person1 T g)) := SG.step.tr SG.num
  refine ⟨⟨a1, fun z => ?_⟩, s01.tr a2⟩
  have z2 : eF (gE (person2 T g)) = 0 := z
  obtain ⟨b1, b2, b3, b4⟩ := a2 z2
  obtain ⟨c1, c2, c3, c4⟩ := s01 b1
  have hn := num_b (T := T) (lo := 0) (hi := hR (gH g) * hC (gH g) - 1) (e := stepE (gE g)) b1
  obtain ⟨d1, d2, d3, d4⟩ := a10 z2
  have sg := step_y h0
  have hk1 : eK (gE g) < eK (gE (person1 T g)) := by
    have := (SG.num (T := T) (lo := 0) (hi := hR (gH g) * hC (gH g) - 1) (e := stepE (gE g))) b1
    have h2 : eK (stepE (gE g)) ≤ eK (gE (person1 T g)) := this.2.1
    omega
  have pP : hP (gH (person1 T g)) = hP (gH g) := rfl
  refine ⟨h0, by show _ < eK (gE (person2 T g)); omega, ?_⟩
  have ePl : gP (moreP (person2 T g)) = moveC (gP g) (hP (gH g)) (numE T 0 (hR (gH g) * hC (gH g) - 1) (stepE (gE g))).1 := a8
  have eH : hP (gH (moreP (person2 T g))) = hP (gH g) + 1 := by show hP (gH (person2 T g)) + 1 = _; rw [a3]; rfl
  have eR : hR (gH (moreP (person2 T g))) = hR (gH g) := a4
  have eCo : hC (gH (moreP (person2 T g))) = hC (gH g) := a5
  refine ⟨by rw [eR]; exact w1, by rw [eCo]; exact w2, by rw [eH]; omega, fun q q0 q1 => ?_, ?_, fun l l0 l1 => ?_, ?_, ?_, ?_⟩
  · rw [eH] at q1
    by_cases y : q = hP (gH g)
    · rw [y]; exact ⟨d2, d3, d4⟩
    · have e := d1 q (by rw [pP]; exact y)
      have w := w4 q q0 (by omega)
      have f1 : hLoud (gH (person1 T g)) q = hLoud (gH g) q := setA_ne _ y
      have f2 : hDeaf (gH (person1 T g)) q = hDeaf (gH g) q := setA_ne _ y
      have f3 : hVoice (gH (person1 T g)) q = hVoice (gH g) q := setA_ne _ y
      show (0 ≤ hLoud (gH (person2 T g)) q ∧ hLoud (gH (person2 T g)) q ≤ 9) ∧ (0 ≤ hDeaf (gH (person2 T g)) q ∧ hDeaf (gH (person2 T g)) q ≤ 9) ∧ (0 ≤ hVoice (gH (person2 T g)) q ∧ hVoice (gH (person2 T g)) q ≤ 9)
      rw [e.1, e.2.1, e.2.2, f1, f2, f3]; exact w
  · rw [ePl]
    obtain ⟨⟨p1, p2⟩, ⟨p3, p4⟩, p5, p6⟩ := w5
    refine ⟨⟨fun q q0 q1 => ?_, p2⟩, ⟨p3, fun k k0 k1 => ?_⟩, p5, p6⟩
    · rw [eH] at q1
      rw [eR, eCo]
      by_cases y : q = hP (gH g)
      · have e : pCell (moveC (gP g) (hP (gH g)) (numE T 0 (hR (gH g) * hC (gH g) - 1) (stepE (gE g))).1) q = (numE T 0 (hR (gH g) * hC (gH g) - 1) (stepE (gE g))).1 := if_pos y
        rw [e]; omega
      · have e : pCell (moveC (gP g) (hP (gH g)) (numE T 0 (hR (gH g) * hC (gH g) - 1) (stepE (gE g))).1) q = pCell (gP g) q := if_neg y
        rw [e]; exact p1 q q0 (by omega)
    · have := p4 k k0 k1
      rw [eH]
      exact ⟨⟨this.1.1, by have : pWho (gP g) k < hP (gH g) := this.1.2; show pWho (gP g) k < hP (gH g) + 1; omega⟩, ⟨this.2.1.1, by have : pWhom (gP g) k < hP (gH g) := this.2.1.2; show pWhom (gP g) k < hP (gH g) + 1; omega⟩, this.2.2⟩
  · have e1 : eC (gE (moreP (person2 T g))) = eC (gE g) := b4.trans c4
    have e2 : gO (moreP (person2 T g)) = gO g := a9
    have e3 : hLen (gH (moreP (person2 T g))) = hLen (gH g) := a7
    rw [e1, e2, e3]; exact w6 l l0 l1
  · have e1 : eC (gE (moreP (person2 T g))) = eC (gE g) := b4.trans c4
    rw [e1]
    have : eK (gE (person1 T g)) ≤ eK (gE (moreP (person2 T g))) := b2
    omega
  · have e1 : hLines (gH (moreP (person2 T g))) = hLines (gH g) := a6
    rw [e1]
    have : eK (gE (person1 T g)) ≤ eK (gE (moreP (person2 T g))) := b2
    omega
  · have e1 : eP (gE (moreP (person2 T g))) = eP (gE g) := b3.trans c3
    rw [e1]; exact w9
theorem LN.names {T : TxT} {N : Nat} {g : GS} (hT : TH T N) (h0 : eF (gE g) = 0) (hk : eK (gE g) ≤ N) (hK : T.1 (eK (gE g)) = 2) (h : WG N g) : LN N g (namesG T g) ∧ SG (gE g) (gE (namesG T g)) := by
  have og : OE N (gE g) := ⟨hk, Or.inl h0⟩
  unfold namesG
  by_cases c : 8 ≤ pN (gP g)
  · rw [if_pos c]
    have f := og.fail (T := T) (w := 4) (by decide)
    exact ⟨⟨f.1, fun z => absurd z f.2⟩, SG.fail (by decide) og⟩
  rw [if_neg c]
  have o0 := og.step hT (by rw [hK]; decide)
  have o1 : OE N (names1 T g).2 := o0.num hT
  have o2 : OE N (sameE T (names1 T g)) := by
    unfold sameE
    split
    · exact (o1.fail (by decide)).1
    · exact o1
  have s2 : SG (names1 T g).2 (sameE T (names1 T g)) := by
    unfold sameE
    split
    · exact SG.fail (by decide) o1
    · exact SG.refl _
  have o3 : OE N (names2 T g).2 := o2.num hT
  have o4 : OE N (names3 T g).2 := (o3.exp hT (by decide)).num hT
  have J : ∀ x : Int × ES, (OE N x.2 ∧ SG (names3 T g).2 x.2 ∧ (eF x.2 = 0 → 0 ≤ x.1 ∧ x.1 ≤ 10)) → isE T x.2 4 = true → (OE N (sureB T x).2 ∧ SG (names3 T g).2 (sureB T x).2 ∧ (eF (sureB T x).2 = 0 → 0 ≤ (sureB T x).1 ∧ (sureB T x).1 ≤ 10)) := by
    intro x ⟨j1, j2, j3⟩ hc
    exact ⟨(j1.step hT (by rw [(isE_t.mp hc).2]; decide)).num hT, (j2.tr SG.step).tr SG.num, fun z => num_b z⟩
  have J4 : (OE N (names4 T g).2 ∧ SG (names3 T g).2 (names4 T g).2 ∧ (eF (names4 T g).2 = 0 → 0 ≤ (names4 T g).1 ∧ (names4 T g).1 ≤ 10)) := repA_inv (I := fun x : Int × ES => OE N x.2 ∧ SG (names3 T g).2 x.2 ∧ (eF x.2 = 0 → 0 ≤ x.1 ∧ x.1 ≤ 10)) J 1000 (10, (names3 T g).2) ⟨o4, SG.refl _, fun _ => ⟨(by decide : (0 : Int) ≤ 10), Int.le_refl 10⟩⟩
  have s13 : SG (names2 T g).2 (names3 T g).2 := SG.exp.tr SG.num
  have s12 : SG (sameE T (names1 T g)) (names2 T g).2 := SG.num
  have s01 : SG (gE g) (names1 T g).2 := SG.step.tr SG.num
  refine ⟨⟨J4.1, fun z => ?_⟩, (((s01.tr s2).tr s12).tr s13).tr J4.2.1⟩
  have z4 : eF (names4 T g).2 = 0 := z
  obtain ⟨a1, a2, a3, a4⟩ := J4.2.1 z4
  obtain ⟨b1, b2, b3, b4⟩ := s13 a1
  obtain ⟨c1, c2, c3, c4⟩ := s12 b1
  obtain ⟨d1, d2, d3, d4⟩ := s2 c1
  obtain ⟨f1, f2, f3, f4⟩ := s01 d1
  have sg := step_y h0
  have n1 := num_b (T := T) (e := stepE (gE g)) d1
  have n2 := num_b (T := T) (e := sameE T (names1 T g)) b1
  have n3 := num_b (T := T) (e := expE T 3 (names2 T g).2) a1
  have k1 := num_ok (T := T) (e := stepE (gE g)) d1
  have k2 := num_ok (T := T) (e := sameE T (names1 T g)) b1
  have hne : (names1 T g).1 ≠ (names2 T g).1 := by
    intro e
    have hs : sameE T (names1 T g) = (names1 T g).2 := by
      unfold sameE
      by_cases y : isE T (names1 T g).2 50 = true ∧ T.2.2 (eK (names1 T g).2) = (names1 T g).1
      · have f := (o1.fail (T := T) (w := 3) (by decide)).2
        have e3 : sameE T (names1 T g) = failE T 3 (names1 T g).2 := by unfold sameE; rw [if_pos y]
        rw [e3] at c1
        exact absurd c1 f
      · rw [if_neg y]
    have e2 : (names2 T g).1 = T.2.2 (eK (names1 T g).2) := by
      have : names2 T g = (T.2.2 (eK (sameE T (names1 T g))), stepE (sameE T (names1 T g))) := k2.2.2.1
      rw [this, hs]
    have y : isE T (names1 T g).2 50 = true ∧ T.2.2 (eK (names1 T g).2) = (names1 T g).1 := by
      refine ⟨isE_t.mpr ⟨d1, ?_⟩, by rw [e, e2]⟩
      have := k2.2.1
      rw [hs] at this
      exact this
    have f := (o1.fail (T := T) (w := 3) (by decide)).2
    have e3 : sameE T (names1 T g) = failE T 3 (names1 T g).2 := by unfold sameE; rw [if_pos y]
    rw [e3] at c1
    exact absurd c1 f
  have hk1 : eK (gE g) < eK (names1 T g).2 := by
    have : (names1 T g) = (T.2.2 (eK (stepE (gE g))), stepE (stepE (gE g))) := k1.2.2.1
    rw [this]
    have := step_y k1.1
    show _ < eK (stepE (stepE (gE g)))
    omega
  obtain ⟨w1, w2, w3, w4, ⟨p1, ⟨p2, p3⟩, p4, p5⟩, w6, w7, w8, w9⟩ := h
  have m1 : 0 ≤ (names1 T g).1 ∧ (names1 T g).1 ≤ hP (gH g) - 1 := n1
  have m2 : 0 ≤ (names2 T g).1 ∧ (names2 T g).1 ≤ hP (gH g) - 1 := n2
  have m3 : 0 ≤ (names3 T g).1 ∧ (names3 T g).1 ≤ 99 := n3
  have m4 := J4.2.2 z4
  have e1 : eC (names4 T g).2 = eC (gE g) := by rw [a4, b4, c4, d4, f4]
  refine ⟨h0, by show _ < eK (names4 T g).2; omega, w1, w2, w3, w4, ⟨p1, ⟨⟨by show 0 ≤ pN (gP g) + 1; omega, by show pN (gP g) + 1 ≤ 10; omega⟩, fun k k0 k1 => ?_⟩, by show pN (gP g) + 1 ≤ 8; omega, fun k k0 k1 => ?_⟩, fun l l0 l1 => ?_, ?_, ?_, ?_⟩
  · have k1' : k < pN (gP g) + 1 := k1
    by_cases y : k = pN (gP g)
    · have e := add_new (gP g) (names1 T g).1 (names2 T g).1 (names3 T g).1 (names4 T g).1
      show (0 ≤ pWho (addN (gP g) (names1 T g).1 (names2 T g).1 (names3 T g).1 (names4 T g).1) k ∧ pWho (addN (gP g) (names1 T g).1 (names2 T g).1 (names3 T g).1 (names4 T g).1) k < hP (gH g)) ∧ (0 ≤ pWhom (addN (gP g) (names1 T g).1 (names2 T g).1 (names3 T g).1 (names4 T g).1) k ∧ pWhom (addN (gP g) (names1 T g).1 (names2 T g).1 (names3 T g).1 (names4 T g).1) k < hP (gH g)) ∧ pWho (addN (gP g) (names1 T g).1 (names2 T g).1 (names3 T g).1 (names4 T g).1) k ≠ pWhom (addN (gP g) (names1 T g).1 (names2 T g).1 (names3 T g).1 (names4 T g).1) k ∧ (0 ≤ pAt (addN (gP g) (names1 T g).1 (names2 T g).1 (names3 T g).1 (names4 T g).1) k ∧ pAt (addN (gP g) (names1 T g).1 (names2 T g).1 (names3 T g).1 (names4 T g).1) k < 100)
      rw [y, e.1, e.2.1, e.2.2.1]
      exact ⟨⟨m1.1, by omega⟩, ⟨m2.1, by omega⟩, hne, m3.1, by omega⟩
    · have e := add_old (gP g) (names1 T g).1 (names2 T g).1 (names3 T g).1 (names4 T g).1 y
      show (0 ≤ pWho (addN (gP g) (names1 T g).1 (names2 T g).1 (names3 T g).1 (names4 T g).1) k ∧ pWho (addN (gP g) (names1 T g).1 (names2 T g).1 (names3 T g).1 (names4 T g).1) k < hP (gH g)) ∧ (0 ≤ pWhom (addN (gP g) (names1 T g).1 (names2 T g).1 (names3 T g).1 (names4 T g).1) k ∧ pWhom (addN (gP g) (names1 T g).1 (names2 T g).1 (names3 T g).1 (names4 T g).1) k < hP (gH g)) ∧ pWho (addN (gP g) (names1 T g).1 (names2 T g).1 (names3 T g).1 (names4 T g).1) k ≠ pWhom (addN (gP g) (names1 T g).1 (names2 T g).1 (names3 T g).1 (names4 T g).1) k ∧ (0 ≤ pAt (addN (gP g) (names1 T g).1 (names2 T g).1 (names3 T g).1 (names4 T g).1) k ∧ pAt (addN (gP g) (names1 T g).1 (names2 T g).1 (names3 T g).1 (names4 T g).1) k < 100)
      rw [e.1, e.2.1, e.2.2.1]
      exact p3 k k0 (by omega)
  · have k1' : k < pN (gP g) + 1 := k1
    by_cases y : k = pN (gP g)
    · have e := add_new (gP g) (names1 T g).1 (names2 T g).1 (names3 T g).1 (names4 T g).1
      show 0 ≤ pSure (addN (gP g) (names1 T g).1 (names2 T g).1 (names3 T g).1 (names4 T g).1) k ∧ pSure (addN (gP g) (names1 T g).1 (names2 T g).1 (names3 T g).1 (names4 T g).1) k ≤ 10
      rw [y, e.2.2.2]; exact m4
    · have e := add_old (gP g) (names1 T g).1 (names2 T g).1 (names3 T g).1 (names4 T g).1 y
      show 0 ≤ pSure (addN (gP g) (names1 T g).1 (names2 T g).1 (names3 T g).1 (names4 T g).1) k ∧ pSure (addN (gP g) (names1 T g).1 (names2 T g).1 (names3 T g).1 (names4 T g).1) k ≤ 10
      rw [e.2.2.2]; exact p5 k k0 (by omega)
  · show LawK (eC (names4 T g).2) (gO g l) (hLen (gH g) l) l
    rw [e1]; exact w6 l l0 l1
  · show (eC (names4 T g).2).length ≤ eK (names4 T g).2
    rw [e1]; omega
  · show 1 ≤ hLines (gH g) ∧ hLines (gH g) ≤ eK (names4 T g).2
    omega
  · show eP (names4 T g).2 = -1
    rw [a3, b3, c3, d3, f3]; exact w9

/-! THE TEXT: laws, wind, all lines -/
theorem PD.OE {N : Nat} {mx b h : Int} {e e' : ES} (hD : PD N mx b h e e') : OE N e' := ⟨hD.1, hD.2.1⟩
theorem law2_PD {T : TxT} {N : Nat} {l : Int} {g : GS} (hT : TH T N) (h0 : eF (law1 T g) = 0) (hk : eK (law1 T g) ≤ N) : PD N (if l = 2 then 23 else 21) (if l = 2 then 1 else 0) 36 (law1 T g) (law2 T l g) := by
  unfold law2
  by_cases y : l = 2
  · rw [if_pos y, if_pos y, if_pos y]
    exact ((((lv_PG hT (Or.inr rfl) 6).2.truth hT (by decide)) (law1 T g)).2 h0 hk).mono (by decide)
  · rw [if_neg y, if_neg y, if_neg y]
    exact ((((lv_PG hT (Or.inl rfl) 6).1.sum hT (by decide)) (law1 T g)).2 h0 hk).mono (by decide)
theorem law2_no {T : TxT} {N : Nat} {l : Int} {g : GS} (hT : TH T N) (h0 : eF (law1 T g) ≠ 0) : law2 T l g = law1 T g := by
  unfold law2
  by_cases y : l = 2
  · rw [if_pos y]
    exact (((lv_PG hT (Or.inr rfl) 6).2.truth hT (by decide)) (law1 T g)).1 h0
  · rw [if_neg y]
    exact (((lv_PG hT (Or.inl rfl) 6).1.sum hT (by decide)) (law1 T g)).1 h0
theorem LN.law {T : TxT} {N : Nat} {l : Int} {g : GS} (hT : TH T N) (hl : 0 ≤ l ∧ l < 3) (h0 : eF (gE g) = 0) (hk : eK (gE g) ≤ N) (hK : T.1 (eK (gE g)) ≠ 52) (h : WG N g) : LN N g (lawG T l g) := by
  have og : OE N (gE g) := ⟨hk, Or.inl h0⟩
  have o1 : OE N (law1 T g) := (og.step hT hK).exp hT (by decide)
  have s1 : SG (gE g) (law1 T g) := SG.step.tr SG.exp
  by_cases y : eF (law1 T g) = 0
  · have hD := law2_PD (l := l) hT y o1.1
    refine ⟨hD.OE, fun z => ?_⟩
    obtain ⟨a1, a2, a3, a4⟩ := s1 y
    obtain ⟨b1, b2, m, b3, b4, b5, b6⟩ := hD.2.2 z
    obtain ⟨w1, w2, w3, w4, w5, w6, w7, w8, w9⟩ := h
    refine ⟨h0, by show eK (gE g) < eK (law2 T l g); omega, w1, w2, w3, w4, w5, fun k k0 k1 => ?_, ?_, ?_, ?_⟩
    · show LawK (eC (law2 T l g)) (setA (gO g) l ((eC (law1 T g)).length : Int) k) (setA (hLen (gH g)) l (((eC (law2 T l g)).length : Int) - ((eC (law1 T g)).length : Int)) k) k
      by_cases e : k = l
      · rw [e, setA_at, setA_at, b3]
        refine ⟨eC (law1 T g), m, [], by simp, rfl, by simp; omega, fun _ => ⟨b5.mono (by decide), fun q => b6 (if_neg (by omega))⟩⟩
      · rw [setA_ne _ e, setA_ne _ e, b3, a4]
        exact (w6 k k0 k1).app
    · show (eC (law2 T l g)).length ≤ eK (law2 T l g)
      rw [b3, List.length_append, a4]
      omega
    · show 1 ≤ hLines (gH g) ∧ hLines (gH g) ≤ eK (law2 T l g)
      omega
    · show eP (law2 T l g) = -1
      rw [b2, a3]; exact w9
  · have e : gE (lawG T l g) = law1 T g := law2_no hT y
    exact ⟨by rw [e]; exact o1, fun z => by rw [e] at z; exact absurd z y⟩
theorem LN.wind {T : TxT} {N : Nat} {g : GS} (hT : TH T N) (h0 : eF (gE g) = 0) (hk : eK (gE g) ≤ N) (hK : T.1 (eK (gE g)) ≠ 52) (h : WG N g) : LN N g (windG T g) := by
  have og : OE N (gE g) := ⟨hk, Or.inl h0⟩
  have o1 := og.step hT hK
  refine ⟨o1.num hT, fun z => ?_⟩
  have s := (SG.step (e := gE g)).tr (SG.num (T := T) (lo := 0) (hi := 9))
  obtain ⟨a1, a2, a3, a4⟩ := s z
  have hn := num_b (T := T) (lo := 0) (hi := 9) z
  obtain ⟨b1, b2, b3, b4⟩ := (SG.num (T := T) (lo := 0) (hi := 9) (e := stepE (gE g))) z
  have sg := step_y h0
  obtain ⟨w1, w2, w3, w4, ⟨⟨p0, p1⟩, p2⟩, w6, w7, w8, w9⟩ := h
  have hk2 : eK (gE g) < eK (numE T 0 9 (stepE (gE g))).2 := by omega
  refine ⟨h0, hk2, w1, w2, w3, w4, ⟨⟨p0, hn⟩, p2⟩, fun k k0 k1 => ?_, ?_, ?_, ?_⟩
  · show LawK (eC (numE T 0 9 (stepE (gE g))).2) (gO g k) (hLen (gH g) k) k
    rw [a4]; exact w6 k k0 k1
  · show (eC (numE T 0 9 (stepE (gE g))).2).length ≤ eK (numE T 0 9 (stepE (gE g))).2
    rw [a4]; omega
  · show 1 ≤ hLines (gH g) ∧ hLines (gH g) ≤ eK (numE T 0 9 (stepE (gE g))).2
    omega
  · show eP (numE T 0 9 (stepE (gE g))).2 = -1
    rw [a3]; exact w9
theorem LN.mid {T : TxT} {N : Nat} {g : GS} (hT : TH T N) (h0 : eF (gE g) = 0) (hk : eK (gE g) ≤ N) (hK : T.1 (eK (gE g)) ≠ 52) (h : WG N g) : LN N g (midG T g) := by
  unfold midG
  split
  · rename_i q; exact (LN.person hT h0 hk q h).1
  split
  · rename_i q; exact (LN.names hT h0 hk q h).1
  split
  · exact LN.law hT (by decide) h0 hk hK h
  split
  · exact LN.law hT (by decide) h0 hk hK h
  split
  · exact LN.law hT (by decide) h0 hk hK h
  split
  · exact LN.wind hT h0 hk hK h
  · have f := OE.fail (T := T) (N := N) (w := 2) (e := gE g) (by decide) ⟨hk, Or.inl h0⟩
    exact ⟨f.1, fun z => absurd z f.2⟩
theorem LN.line {T : TxT} {N : Nat} {g : GS} (hT : TH T N) (h0 : eF (gE g) = 0) (hk : eK (gE g) ≤ N) (hK : T.1 (eK (gE g)) ≠ 52) (h : WG N g) : LN N g (lineG T g) := by
  obtain ⟨m1, m2⟩ := LN.mid hT h0 hk hK h
  refine ⟨m1.exp hT (by decide), fun z => ?_⟩
  obtain ⟨a1, a2, a3⟩ := exp_ok (T := T) (K := 30) (e := gE (midG T g)) z
  obtain ⟨b1, b2, b3⟩ := m2 a1
  have s := step_y a1
  obtain ⟨w1, w2, w3, w4, w5, w6, w7, w8, w9⟩ := b3
  have e : gE (lineG T g) = stepE (gE (midG T g)) := a3
  refine ⟨h0, by rw [e]; omega, w1, w2, w3, w4, w5, fun k k0 k1 => ?_, ?_, ?_, ?_⟩
  · rw [e, s.2.2.2]; exact w6 k k0 k1
  · rw [e, s.2.2.2]; omega
  · rw [e]; show 1 ≤ hLines (gH (midG T g)) + 1 ∧ hLines (gH (midG T g)) + 1 ≤ eK (stepE (gE (midG T g))); omega
  · rw [e, s.2.2.1]; exact w9
theorem first_ok {T : TxT} {N : Nat} (hT : TH T N) : OE N (gE (firstG T)) ∧ (eF (gE (firstG T)) = 0 → WG N (firstG T)) := by
  have o0 : OE N (gE g0S) := ⟨Nat.zero_le _, Or.inl rfl⟩
  have o1 : OE N (first1 T) := o0.exp hT (by decide)
  have o2 : OE N (first2 T).2 := o1.num hT
  have o3 : OE N (first3 T).2 := o2.num hT
  refine ⟨o3.exp hT (by decide), fun z => ?_⟩
  obtain ⟨a1, a2, a3⟩ := exp_ok (T := T) (K := 30) (e := (first3 T).2) z
  have n3 := num_b (T := T) (lo := 1) (hi := 8) (e := (first2 T).2) a1
  obtain ⟨b1, b2, b3, b4⟩ := (SG.num (T := T) (lo := 1) (hi := 8) (e := (first2 T).2)) a1
  have n2 := num_b (T := T) (lo := 1) (hi := 8) (e := first1 T) b1
  obtain ⟨c1, c2, c3, c4⟩ := (SG.num (T := T) (lo := 1) (hi := 8) (e := first1 T)) b1
  obtain ⟨d1, d2, d3, d4⟩ := (SG.exp (T := T) (K := 0) (e := gE g0S)) c1
  have s := step_y a1
  have e : gE (firstG T) = stepE (first3 T).2 := a3
  have eC0 : eC (first3 T).2 = [] := b4.trans (c4.trans d4)
  have eP0 : eP (first3 T).2 = -1 := b3.trans (c3.trans d3)
  have m2 : 1 ≤ (first2 T).1 ∧ (first2 T).1 ≤ 8 := n2
  have m3 : 1 ≤ (first3 T).1 ∧ (first3 T).1 ≤ 8 := n3
  refine ⟨m2, m3, ⟨Int.le_refl 0, (by decide : (0 : Int) ≤ 6)⟩, fun q q0 q1 => ?_, ⟨⟨fun q q0 q1 => ?_, (by decide : (0 : Int) ≤ 0 ∧ (0 : Int) ≤ 9)⟩, ⟨(by decide : (0 : Int) ≤ 0 ∧ (0 : Int) ≤ 10), fun k k0 k1 => ?_⟩, (by decide : (0 : Int) ≤ 8), fun k k0 k1 => ?_⟩, fun l l0 l1 => ?_, ?_, ?_, ?_⟩
  · have : q < 0 := q1
    omega
  · have : q < 0 := q1
    omega
  · have : k < 0 := k1
    omega
  · have : k < 0 := k1
    omega
  · rw [e, s.2.2.2, eC0]
    exact ⟨[], [], [], rfl, rfl, rfl, fun z => absurd z (by show ¬ (0 : Int) < 0; decide)⟩
  · rw [e, s.2.2.2, eC0]; exact Nat.zero_le _
  · rw [e]; show (1 : Int) ≤ 1 ∧ (1 : Int) ≤ eK (stepE (first3 T).2); omega
  · rw [e, s.2.2.1]; exact eP0
theorem text_ok {T : TxT} {N : Nat} (hT : TH T N) : OE N (gE (textG T)) ∧ (eF (gE (textG T)) = 0 → WG N (textG T)) := by
  refine repA_inv (I := fun g : GS => OE N (gE g) ∧ (eF (gE g) = 0 → WG N g)) (fun g hg hc => ?_) 1000 _ (first_ok hT)
  have hc := of_decide_eq_true hc
  have := LN.line hT hc.1 hg.1.1 hc.2 (hg.2 hc.1)
  exact ⟨this.1, fun z => (this.2 z).2.2⟩
/-- the hill that a text tells, the fault that it has -/
def textS (A : StT) (n : Int) : GS := textG (txt (aTape A) n.toNat)
def hillS (A : StT) (n : Int) : Int := if n < 0 ∨ aTaped A < n then -3 else if eF (gE (textS A n)) = 0 then hLines (gH (textS A n)) else -30 - eF (gE (textS A n))
def hillA (A : StT) (n : Int) : StT := if n < 0 ∨ aTaped A < n then A else if eF (gE (textS A n)) = 0 then ((0, aTape A), (0, -1), (hillOf (textS A n), gP (textS A n)), [], A.2.2.2.2) else ((0, aTape A), (eF (gE (textS A n)), eP (gE (textS A n))), A.2.2)

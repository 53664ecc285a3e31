/-! THE CLASS READS: laws -/
def RE (μ : Mem) (T : TxT) (N : Nat) (h : Int) (e : ES) : Prop := isK 1 h ∧ N ≤ 900 ∧ TH T N ∧ TKn μ T (N + 1) ∧ μ 28 3 = h ∧ OE N e ∧ μ 28 0 = eF e ∧ μ 28 1 = eP e ∧ μ 28 8 = eK e ∧ μ 28 9 = (eC e).length ∧ ∀ k : Nat, ∀ hk : k < (eC e).length, μ (h + 4) k = (eC e)[k]
def FRe (μ μ' : Mem) (h : Int) : Prop := ∀ b j, (b = 28 → j ≠ 0 ∧ j ≠ 1 ∧ j ≠ 8 ∧ j ≠ 9) → b ≠ h + 4 → μ' b j = μ b j
theorem FRe.refl (μ : Mem) (h : Int) : FRe μ μ h := fun _ _ _ _ => rfl
theorem FRe.tr {μ1 μ2 μ3 : Mem} {h : Int} (f : FRe μ1 μ2 h) (f' : FRe μ2 μ3 h) : FRe μ1 μ3 h := fun b j q1 q2 => by rw [f' b j q1 q2]; exact f b j q1 q2
def Ln (s : Nat) (e : ES) : Prop := eF e = 0 → (eC e).length + s ≤ eK e
theorem TKn.same {μ μ' : Mem} {T : TxT} {c : Nat} (h : TKn μ T c) (h4 : μ' 28 4 = μ 28 4) (hs : ∀ b j : Int, 29 ≤ b → b ≤ 31 → μ' b j = μ b j) : TKn μ' T c := ⟨by rw [h4]; exact h.1, fun k hk => by rw [hs _ _ (by omega) (by omega), hs _ _ (by omega) (by omega), hs _ _ (by omega) (by omega)]; exact h.2 k hk⟩
/-- the same in all but the state -/
theorem RE.keep {μ μ' : Mem} {T : TxT} {N : Nat} {h : Int} {e e' : ES} (hE : RE μ T N h e) (hf : ∀ b j : Int, (b = 28 → j ≠ 0 ∧ j ≠ 1 ∧ j ≠ 8 ∧ j ≠ 9) → b ≠ h + 4 → μ' b j = μ b j) (ho : OE N e') (h0 : μ' 28 0 = eF e') (h1 : μ' 28 1 = eP e') (h8 : μ' 28 8 = eK e') (h9 : μ' 28 9 = (eC e').length) (hc : ∀ k : Nat, ∀ hk : k < (eC e').length, μ' (h + 4) k = (eC e')[k]) : RE μ' T N h e' := by
  obtain ⟨a1, a2, a3, a4, a5, _⟩ := hE
  have hh := ik_1 a1
  exact ⟨a1, a2, a3, a4.same (hf _ _ (by omega) (by omega)) (fun b j q1 q2 => hf b j (by omega) (by omega)), by rw [hf _ _ (by omega) (by omega)]; exact a5, ho, h0, h1, h8, h9, hc⟩
theorem RE.tok {μ : Mem} {T : TxT} {N : Nat} {h : Int} {e : ES} (hE : RE μ T N h e) : (0 ≤ μ 28 8 ∧ μ 28 8 < 901) ∧ μ 29 (μ 28 8) = T.1 (eK e) ∧ μ 30 (μ 28 8) = T.2.1 (eK e) ∧ μ 31 (μ 28 8) = T.2.2 (eK e) := by
  obtain ⟨a1, a2, a3, a4, a5, a6, a7, a8, a9, a10⟩ := hE
  have := a6.1
  rw [a9]
  exact ⟨by omega, a4.2 (eK e) (by omega)⟩
theorem ca_isAt {d : Nat} {sc : SC} {μ : Mem} {T : TxT} {N : Nat} {h K : Int} {e : ES} {R : Int → Mem → Prop} (hd : 1 ≤ d) (hE : RE μ T N h e) (k0 : isE T e K = false → R 0 μ) (k1 : isE T e K = true → R 1 μ) : CAi mX7_isAt d sc [(2, 28), (0, K)] μ R := by
  have ht := hE.tok
  have hf : μ 28 0 = eF e := hE.2.2.2.2.2.2.1
  refine byI (d' := 0) (by omega) (Q := R) ?_ (fun _ _ z => z)
  refine CTi_of mp_X7_isAt (Nat.le_of_ble_eq_true rfl) ?_
  refine s_X7_isAt_0 ⟨fun z => k0 (isE_no (by rw [← hf]; exact z)), fun z => ⟨ht.1, ?_⟩⟩
  rw [ht.2.1]
  exact ⟨fun z2 => k0 (decide_eq_false (fun q => z2 q.2)), fun z2 => k1 (isE_t.mpr ⟨by rw [← hf]; exact z, z2⟩)⟩
theorem ca_fail {d : Nat} {sc : SC} {μ : Mem} {T : TxT} {N : Nat} {h w : Int} {e : ES} {R : Mem → Prop} (hd : 1 ≤ d) (hw : 1 ≤ w ∧ w ≤ 4) (hE : RE μ T N h e) (k : ∀ μ', RE μ' T N h (failE T w e) → FRe μ μ' h → R μ') : CAv mX7_fail d sc [(2, 28), (0, w)] μ R := by
  have ht := hE.tok
  have hE' := hE
  obtain ⟨a1, a2, a3, a4, a5, a6, a7, a8, a9, a10, a11⟩ := hE
  have hh := ik_1 a1
  refine byV (d' := 0) (by omega) (Q := R) ?_ (fun _ z => z)
  refine CTv_of mp_X7_fail (Nat.le_of_ble_eq_true rfl) ?_
  have fin : ∀ v : Int, eF e = 0 → v = (if T.1 (eK e) = 53 then 1 else w) → ∀ μ4 : Mem, μ4 = mup μ 28 0 v → (0 ≤ μ4 28 8 ∧ μ4 28 8 < 901) ∧ (∀ μ6, μ6 = mup μ4 28 1 (μ4 30 (μ4 28 8)) → R μ6) := by
    intro v z hv μ4 e4
    have g4 : ∀ b j : Int, (b = 28 → j ≠ 0) → μ4 b j = μ b j := fun b j q => by rw [e4, mup_ap, if_neg (fun y => q y.1 y.2)]
    rw [g4 28 8 (by omega), g4 30 _ (by omega), ht.2.2.1]
    refine ⟨ht.1, ?_⟩
    intro μ6 e6
    have g6 : ∀ b j : Int, (b = 28 → j ≠ 0 ∧ j ≠ 1) → μ6 b j = μ b j := fun b j q => by rw [e6, mup_ap, if_neg (fun y => (q y.1).2 y.2), g4 b j (fun y => (q y).1)]
    have ef : failE T w e = (eK e, v, T.2.1 (eK e), eC e) := by unfold failE; rw [if_pos z, hv]
    have of := (a6.fail (T := T) hw).1
    rw [ef] at of
    refine k μ6 (hE'.keep (fun b j q1 q2 => g6 b j (fun y => ⟨(q1 y).1, (q1 y).2.1⟩)) (by rw [ef]; exact of) (by rw [ef, e6, mup_ap, if_neg (fun y => by omega), e4, mup_at]; rfl) (by rw [ef, e6, mup_at]; rfl) (by rw [ef, g6 _ _ (by omega)]; exact a9) (by rw [ef, g6 _ _ (by omega)]; exact a10) (fun i hi => ?_)) (fun b j q1 q2 => g6 b j (fun y => ⟨(q1 y).1, (q1 y).2.1⟩))
    rw [g6 _ _ (by omega)]
    have : eC (failE T w e) = eC e := by rw [ef]; rfl
    simp only [this] at hi ⊢
    exact a11 i hi
  refine s_X7_fail_0 ⟨fun z => ?_, fun z => ⟨ht.1, ?_⟩⟩
  · rw [a7] at z
    exact k μ (by rw [fail_no z]; exact hE') (FRe.refl _ _)
  · rw [a7] at z
    rw [ht.2.1]
    exact ⟨fun y => fin w z (by rw [if_neg y]), fun y => fin 1 z (by rw [if_pos y])⟩
theorem ca_step {d : Nat} {sc : SC} {μ : Mem} {T : TxT} {N : Nat} {h : Int} {e : ES} {R : Mem → Prop} (hd : 1 ≤ d) (hE : RE μ T N h e) (hk : eF e = 0 → T.1 (eK e) ≠ 52) (k : ∀ μ', RE μ' T N h (stepE e) → FRe μ μ' h → R μ') : CAv mX7_step d sc [(2, 28)] μ R := by
  have hE' := hE
  obtain ⟨a1, a2, a3, a4, a5, a6, a7, a8, a9, a10, a11⟩ := hE
  have hh := ik_1 a1
  refine byV (d' := 0) (by omega) (Q := R) ?_ (fun _ z => z)
  refine CTv_of mp_X7_step (Nat.le_of_ble_eq_true rfl) ?_
  refine s_X7_step_0 ⟨fun z => ?_, fun z => ?_⟩
  · rw [a7] at z
    exact k μ (by rw [step_no z]; exact hE') (FRe.refl _ _)
  · rw [a7] at z
    have hlt := a3.lt a6.1 (hk z)
    have h4 := a4.1
    rw [a9, h4]
    refine ⟨by omega, fun q => by omega, fun _ => ⟨by omega, ?_⟩⟩
    intro μ5 e5
    have g : ∀ b j : Int, (b = 28 → j ≠ 8) → μ5 b j = μ b j := fun b j q => by rw [e5, mup_ap, if_neg (fun y => q y.1 y.2)]
    have s := step_y z
    refine k μ5 (hE'.keep (fun b j q1 q2 => g b j (fun y => (q1 y).2.2.1)) ⟨by omega, Or.inl s.2.1⟩ (by rw [g _ _ (by omega), s.2.1, a7, z]) (by rw [g _ _ (by omega), s.2.2.1]; exact a8) (by rw [e5, mup_at, s.1]; omega) (by rw [g _ _ (by omega), s.2.2.2]; exact a10) (fun i hi => ?_)) (fun b j q1 q2 => g b j (fun y => (q1 y).2.2.1))
    rw [g _ _ (by omega)]
    have := s.2.2.2
    simp only [this] at hi ⊢
    exact a11 i hi
theorem ca_expect {d : Nat} {sc : SC} {μ : Mem} {T : TxT} {N : Nat} {h K : Int} {e : ES} {R : Mem → Prop} (hd : 2 ≤ d) (hK : K ≠ 52) (hE : RE μ T N h e) (k : ∀ μ', RE μ' T N h (expE T K e) → FRe μ μ' h → R μ') : CAv mX7_expect d sc [(2, 28), (0, K)] μ R := by
  refine byV (d' := 1) (by omega) (Q := R) ?_ (fun _ z => z)
  refine CTv_of mp_X7_expect (Nat.le_of_ble_eq_true rfl) ?_
  refine s_X7_expect_0 (ca_isAt (Nat.le_refl _) hE (fun y => ⟨fun _ => ca_fail (Nat.le_refl _) (by decide) hE (fun μ' r f => k μ' ?_ f), fun q => absurd rfl q⟩) (fun y => ⟨fun q => absurd q (by decide), fun _ => ca_step (Nat.le_refl _) hE (fun _ => by rw [(isE_t.mp y).2]; exact hK) (fun μ' r f => k μ' ?_ f)⟩))
  · unfold expE; rw [y, if_neg (by decide)]; exact r
  · unfold expE; rw [if_pos y]; exact r
theorem ca_emit {d : Nat} {sc : SC} {μ : Mem} {T : TxT} {N : Nat} {h op : Int} {e : ES} {R : Mem → Prop} (hd : 1 ≤ d) (hE : RE μ T N h e) (hl : eF e = 0 → (eC e).length < 900) (k : ∀ μ', RE μ' T N h (emitE op e) → FRe μ μ' h → R μ') : CAv mX7_emit d sc [(2, 28), (0, op)] μ R := by
  have hE' := hE
  obtain ⟨a1, a2, a3, a4, a5, a6, a7, a8, a9, a10, a11⟩ := hE
  have hh := ik_1 a1
  refine byV (d' := 0) (by omega) (Q := R) ?_ (fun _ z => z)
  refine CTv_of mp_X7_emit (Nat.le_of_ble_eq_true rfl) ?_
  refine s_X7_emit_0 ⟨fun z => ?_, fun z => ⟨by rw [a5]; exact a1, ?_⟩⟩
  · rw [a7] at z
    exact k μ (by rw [emit_no z]; exact hE') (FRe.refl _ _)
  · rw [a7] at z
    have hl := hl z
    rw [a10, a5]
    refine ⟨fun q => by omega, fun _ => ⟨by omega, ?_⟩⟩
    intro μ5 e5
    have g5 : ∀ b j : Int, (b = h + 4 → j ≠ (eC e).length) → μ5 b j = μ b j := fun b j q => by rw [e5, mup_ap, if_neg (fun y => q y.1 y.2)]
    rw [g5 28 9 (by omega), a10]
    refine ⟨by omega, ?_⟩
    intro μ7 e7
    have g7 : ∀ b j : Int, (b = 28 → j ≠ 9) → (b = h + 4 → j ≠ (eC e).length) → μ7 b j = μ b j := fun b j q1 q2 => by rw [e7, mup_ap, if_neg (fun y => q1 y.1 y.2), g5 b j q2]
    have s := emit_y (op := op) z
    refine k μ7 (hE'.keep (fun b j q1 q2 => g7 b j (fun y => (q1 y).2.2.2) (fun y => absurd y q2)) ⟨by rw [s.1]; exact a6.1, Or.inl s.2.1⟩ (by rw [g7 _ _ (by omega) (by omega), s.2.1, a7, z]) (by rw [g7 _ _ (by omega) (by omega), s.2.2.1]; exact a8) (by rw [g7 _ _ (by omega) (by omega), s.1]; exact a9) (by rw [e7, mup_at, s.2.2.2, List.length_append, List.length_singleton]; omega) (fun i hi => ?_)) (fun b j q1 q2 => g7 b j (fun y => (q1 y).2.2.2) (fun y => absurd y q2))
    have hs := s.2.2.2
    simp only [hs] at hi ⊢
    rw [List.length_append, List.length_singleton] at hi
    by_cases y : i = (eC e).length
    · subst y
      rw [e7, mup_ap, if_neg (fun y => by omega), e5, mup_at]
      simp
    · rw [g7 _ _ (by omega) (by omega), List.getElem_append_left (by omega)]
      exact a11 i (by omega)
theorem ca_enter {d : Nat} {sc : SC} {μ : Mem} {T : TxT} {N : Nat} {h dep K : Int} {e : ES} {R : Int → Mem → Prop} (hd : 2 ≤ d) (hE : RE μ T N h e) (hK : isE T e K = true) (hK2 : K ≠ 52) (k1 : dep < 6 → ∀ μ', RE μ' T N h (stepE e) → FRe μ μ' h → R 1 μ') (k0 : 6 ≤ dep → ∀ μ', RE μ' T N h (failE T 4 e) → FRe μ μ' h → R 0 μ') : CAi mX7_enter d sc [(2, 28), (0, dep)] μ R := by
  refine byI (d' := 1) (by omega) (Q := R) ?_ (fun _ _ z => z)
  refine CTi_of mp_X7_enter (Nat.le_of_ble_eq_true rfl) ?_
  exact s_X7_enter_0 ⟨fun z => ca_step (Nat.le_refl _) hE (fun _ => by rw [(isE_t.mp hK).2]; exact hK2) (fun μ' r f => k1 z μ' r f), fun z => ca_fail (Nat.le_refl _) (by decide) hE (fun μ' r f => k0 z μ' r f)⟩
theorem Ln.step {s : Nat} {e : ES} (h : Ln s e) (h0 : eF e = 0) : Ln (s + 1) (stepE e) := fun _ => by
  have st := step_y h0
  have := h h0
  rw [st.2.2.2, st.1]; omega
theorem Ln.emit {s : Nat} {op : Int} {e : ES} (h : Ln (s + 1) e) : Ln s (emitE op e) := fun z => by
  by_cases y : eF e = 0
  · have st := emit_y (op := op) y
    have := h y
    rw [st.2.2.2, st.1, List.length_append, List.length_singleton]; omega
  · rw [emit_no y] at z; exact absurd z y
theorem Ln.lt {s N : Nat} {e : ES} (h : Ln (s + 1) e) (hN : N ≤ 900) (hk : eK e ≤ N) : eF e = 0 → (eC e).length < 900 := fun z => by have := h z; omega
theorem Ln.exp {T : TxT} {K : Int} {s : Nat} {e : ES} (h : Ln s e) : Ln s (expE T K e) := fun z => by
  obtain ⟨a1, a2, a3⟩ := exp_ok z
  have st := step_y a1
  have := h a1
  rw [a3, st.2.2.2, st.1]; omega
theorem Ln.PG {T : TxT} {N s : Nat} {mx b hh : Int} {g : ES → ES} {e : ES} (h : Ln s e) (hg : PG T N mx b hh g) (hk : eK e ≤ N) : Ln s (g e) := fun z => by
  by_cases y : eF e = 0
  · obtain ⟨_, _, q⟩ := (hg e).2 y hk
    obtain ⟨a1, a2, l, a3, a4, _⟩ := q z
    have := h y
    rw [a3, List.length_append]; omega
  · rw [(hg e).1 y] at z; exact absurd z y
/-- what is asked of a method that reads a part of a law -/
def CX (md : MD) (dep : Int) (D : Nat) (T : TxT) (N : Nat) (h mx : Int) (g : ES → ES) : Prop := ∀ (d : Nat) (sc : SC) (μ : Mem) (e : ES) (R : Mem → Prop), D ≤ d → RE μ T N h e → Ln 0 e → ((μ 28 10 = 0 ∧ mx = 21) ∨ (μ 28 10 ≠ 0 ∧ mx = 23)) → (∀ μ', RE μ' T N h (g e) → FRe μ μ' h → R μ') → CAv md d sc [(2, 28), (0, dep)] μ R

theorem CX.term {T : TxT} {N D : Nat} {h mx dep ha : Int} {a : ES → ES} (hT : TH T N) (hA : CX mX7_readAtom dep D T N h mx (a)) (hP : PG T N mx 0 ha (a)) (hD : 3 ≤ D) : CX mX7_readTerm dep (D + 1) T N h mx (termE T a) := by
  intro d sc μ e R hd hE hL hmx k
  have hh := ik_1 hE.1
  refine byV (d' := D) (by omega) (Q := R) ?_ (fun _ z => z)
  refine CTv_of mp_X7_readTerm (Nat.le_of_ble_eq_true rfl) ?_
  refine s_X7_readTerm_0 (hA D sc μ e _ (Nat.le_refl _) hE hL hmx ?_)
  intro μ2 r2 f2
  have key : ∀ (r : Nat) (left : Int) (e1 : ES) (μ3 : Mem), RE μ3 T N h e1 → FRe μ μ3 h → Ln 0 e1 → (eF e1 = 0 → N + 1 ≤ r + eK e1 ∧ (N : Int) + 1 ≤ left + eK e1) → i32 left → repE (fun e => isE T e 34) (fun e => emitE 1034 (a (stepE e))) r e1 = termE T a e →
      WQ mX7_readTerm D sc (ZV sc R) 10 [(2, 28), (0, dep), (0, left)] [] μ3 := by
    intro r
    induction r with
    | zero =>
      intro left e1 μ3 hE1 hF1 hL1 hr hi he
      have hne : eF e1 ≠ 0 := fun z => by have := hr z; have := hE1.2.2.2.2.2.1.1; omega
      rw [repE] at he
      rw [he] at hE1
      have e1f : eF (termE T a e) ≠ 0 := by rw [← he]; exact hne
      refine s_X7_readTerm_10 ⟨fun _ => k μ3 hE1 hF1, fun _ => ca_isAt (by omega) hE1 (fun _ => ⟨fun _ => k μ3 hE1 hF1, fun q => absurd rfl q⟩) (fun y => by rw [isE_no e1f] at y; exact absurd y (by decide))⟩
    | succ r ih =>
      intro left e1 μ3 hE1 hF1 hL1 hr hi he
      refine s_X7_readTerm_10 ⟨fun z => ?_, fun _ => ca_isAt (by omega) hE1 (fun y => ⟨fun _ => ?_, fun q => absurd rfl q⟩) (fun y => ⟨fun q => absurd q (by decide), fun _ => ?_⟩)⟩
      · have hne : eF e1 ≠ 0 := fun z2 => by have := hr z2; have := hE1.2.2.2.2.2.1.1; omega
        rw [rep_no (isE_no hne)] at he
        rw [he] at hE1
        exact k μ3 hE1 hF1
      · rw [rep_no y] at he
        rw [he] at hE1
        exact k μ3 hE1 hF1
      · have y2 := isE_t.mp y
        have st := step_y y2.1
        have hlt := hT.lt hE1.2.2.2.2.2.1.1 (by rw [y2.2]; decide)
        rw [repE, if_pos y] at he
        refine ca_step (by omega) hE1 (fun _ => by rw [y2.2]; decide) ?_
        intro μ6 r6 f6
        have L6 : Ln 1 (stepE e1) := Ln.step (s := 0) hL1 y2.1
        have hmx6 : (μ6 28 10 = 0 ∧ mx = 21) ∨ (μ6 28 10 ≠ 0 ∧ mx = 23) := by rw [f6 _ _ (by omega) (by omega), hF1 _ _ (by omega) (by omega)]; exact hmx
        refine hA D sc μ6 _ _ (Nat.le_refl _) r6 (fun z => by have := L6 z; omega) hmx6 ?_
        intro μ8 r8 f8
        have L8 : Ln 1 (a (stepE e1)) := Ln.PG L6 hP (by rw [st.1]; omega)
        refine ca_emit (by omega) r8 (L8.lt hE.2.1 r8.2.2.2.2.2.1.1) ?_
        intro μ10 r10 f10
        refine ⟨⟨by have := hi.1; omega, by have := hi.2; omega⟩, ?_⟩
        rintro _ rfl
        refine ih (left + -1) _ μ10 r10 (((hF1.tr f6).tr f8).tr f10) L8.emit (fun z => ?_) ⟨by have := hi.1; omega, by have := hi.2; omega⟩ he
        have z8 : eF (a (stepE e1)) = 0 := by
          by_cases q : eF (a (stepE e1)) = 0
          · exact q
          · rw [emit_no q] at z; exact absurd z q
        have m := emit_y (op := 1034) z8
        have pd := ((hP (stepE e1)).2 st.2.1 (by omega)).2.2 z8
        have := hr y2.1
        omega
  intro v hv
  rw [r2.2.2.2.1.1] at hv
  rw [hv]
  have hN := hE.2.1
  exact key 1000 ((N + 1 : Nat) : Int) (a e) μ2 r2 f2 (hL.PG hP hE.2.2.2.2.2.1.1) (fun _ => ⟨by omega, by omega⟩) ⟨by omega, by omega⟩ rfl
theorem CX.both {T : TxT} {N D : Nat} {h mx dep ha : Int} {a : ES → ES} (hT : TH T N) (hA : CX mX7_readUnit dep D T N h mx (a)) (hP : PG T N mx 1 ha (a)) (hD : 3 ≤ D) : CX mX7_readBoth dep (D + 1) T N h mx (bothE T a) := by
  intro d sc μ e R hd hE hL hmx k
  have hh := ik_1 hE.1
  refine byV (d' := D) (by omega) (Q := R) ?_ (fun _ z => z)
  refine CTv_of mp_X7_readBoth (Nat.le_of_ble_eq_true rfl) ?_
  refine s_X7_readBoth_0 (hA D sc μ e _ (Nat.le_refl _) hE hL hmx ?_)
  intro μ2 r2 f2
  have key : ∀ (r : Nat) (left : Int) (e1 : ES) (μ3 : Mem), RE μ3 T N h e1 → FRe μ μ3 h → Ln 0 e1 → (eF e1 = 0 → N + 1 ≤ r + eK e1 ∧ (N : Int) + 1 ≤ left + eK e1) → i32 left → repE (fun e => isE T e 12) (fun e => emitE 1012 (a (stepE e))) r e1 = bothE T a e →
      WQ mX7_readBoth D sc (ZV sc R) 10 [(2, 28), (0, dep), (0, left)] [] μ3 := by
    intro r
    induction r with
    | zero =>
      intro left e1 μ3 hE1 hF1 hL1 hr hi he
      have hne : eF e1 ≠ 0 := fun z => by have := hr z; have := hE1.2.2.2.2.2.1.1; omega
      rw [repE] at he
      rw [he] at hE1
      have e1f : eF (bothE T a e) ≠ 0 := by rw [← he]; exact hne
      refine s_X7_readBoth_10 ⟨fun _ => k μ3 hE1 hF1, fun _ => ca_isAt (by omega) hE1 (fun _ => ⟨fun _ => k μ3 hE1 hF1, fun q => absurd rfl q⟩) (fun y => by rw [isE_no e1f] at y; exact absurd y (by decide))⟩
    | succ r ih =>
      intro left e1 μ3 hE1 hF1 hL1 hr hi he
      refine s_X7_readBoth_10 ⟨fun z => ?_, fun _ => ca_isAt (by omega) hE1 (fun y => ⟨fun _ => ?_, fun q => absurd rfl q⟩) (fun y => ⟨fun q => absurd q (by decide), fun _ => ?_⟩)⟩
      · have hne : eF e1 ≠ 0 := fun z2 => by have := hr z2; have := hE1.2.2.2.2.2.1.1; omega
        rw [rep_no (isE_no hne)] at he
        rw [he] at hE1
        exact k μ3 hE1 hF1
      · rw [rep_no y] at he
        rw [he] at hE1
        exact k μ3 hE1 hF1
      · have y2 := isE_t.mp y
        have st := step_y y2.1
        have hlt := hT.lt hE1.2.2.2.2.2.1.1 (by rw [y2.2]; decide)
        rw [repE, if_pos y] at he
        refine ca_step (by omega) hE1 (fun _ => by rw [y2.2]; decide) ?_
        intro μ6 r6 f6
        have L6 : Ln 1 (stepE e1) := Ln.step (s := 0) hL1 y2.1
        have hmx6 : (μ6 28 10 = 0 ∧ mx = 21) ∨ (μ6 28 10 ≠ 0 ∧ mx = 23) := by rw [f6 _ _ (by omega) (by omega), hF1 _ _ (by omega) (by omega)]; exact hmx
        refine hA D sc μ6 _ _ (Nat.le_refl _) r6 (fun z => by have := L6 z; omega) hmx6 ?_
        intro μ8 r8 f8
        have L8 : Ln 1 (a (stepE e1)) := Ln.PG L6 hP (by rw [st.1]; omega)
        refine ca_emit (by omega) r8 (L8.lt hE.2.1 r8.2.2.2.2.2.1.1) ?_
        intro μ10 r10 f10
        refine ⟨⟨by have := hi.1; omega, by have := hi.2; omega⟩, ?_⟩
        rintro _ rfl
        refine ih (left + -1) _ μ10 r10 (((hF1.tr f6).tr f8).tr f10) L8.emit (fun z => ?_) ⟨by have := hi.1; omega, by have := hi.2; omega⟩ he
        have z8 : eF (a (stepE e1)) = 0 := by
          by_cases q : eF (a (stepE e1)) = 0
          · exact q
          · rw [emit_no q] at z; exact absurd z q
        have m := emit_y (op := 1012) z8
        have pd := ((hP (stepE e1)).2 st.2.1 (by omega)).2.2 z8
        have := hr y2.1
        omega
  intro v hv
  rw [r2.2.2.2.1.1] at hv
  rw [hv]
  have hN := hE.2.1
  exact key 1000 ((N + 1 : Nat) : Int) (a e) μ2 r2 f2 (hL.PG hP hE.2.2.2.2.2.1.1) (fun _ => ⟨by omega, by omega⟩) ⟨by omega, by omega⟩ rfl
theorem CX.truth {T : TxT} {N D : Nat} {h mx dep ha : Int} {a : ES → ES} (hT : TH T N) (hA : CX mX7_readBoth dep D T N h mx (bothE T a)) (hP : PG T N mx 1 ha (bothE T a)) (hD : 3 ≤ D) : CX mX7_readTruth dep (D + 1) T N h mx (truthE T a) := by
  intro d sc μ e R hd hE hL hmx k
  have hh := ik_1 hE.1
  refine byV (d' := D) (by omega) (Q := R) ?_ (fun _ z => z)
  refine CTv_of mp_X7_readTruth (Nat.le_of_ble_eq_true rfl) ?_
  refine s_X7_readTruth_0 (hA D sc μ e _ (Nat.le_refl _) hE hL hmx ?_)
  intro μ2 r2 f2
  have key : ∀ (r : Nat) (left : Int) (e1 : ES) (μ3 : Mem), RE μ3 T N h e1 → FRe μ μ3 h → Ln 0 e1 → (eF e1 = 0 → N + 1 ≤ r + eK e1 ∧ (N : Int) + 1 ≤ left + eK e1) → i32 left → repE (fun e => isE T e 13) (fun e => emitE 1013 (bothE T a (stepE e))) r e1 = truthE T a e →
      WQ mX7_readTruth D sc (ZV sc R) 10 [(2, 28), (0, dep), (0, left)] [] μ3 := by
    intro r
    induction r with
    | zero =>
      intro left e1 μ3 hE1 hF1 hL1 hr hi he
      have hne : eF e1 ≠ 0 := fun z => by have := hr z; have := hE1.2.2.2.2.2.1.1; omega
      rw [repE] at he
      rw [he] at hE1
      have e1f : eF (truthE T a e) ≠ 0 := by rw [← he]; exact hne
      refine s_X7_readTruth_10 ⟨fun _ => k μ3 hE1 hF1, fun _ => ca_isAt (by omega) hE1 (fun _ => ⟨fun _ => k μ3 hE1 hF1, fun q => absurd rfl q⟩) (fun y => by rw [isE_no e1f] at y; exact absurd y (by decide))⟩
    | succ r ih =>
      intro left e1 μ3 hE1 hF1 hL1 hr hi he
      refine s_X7_readTruth_10 ⟨fun z => ?_, fun _ => ca_isAt (by omega) hE1 (fun y => ⟨fun _ => ?_, fun q => absurd rfl q⟩) (fun y => ⟨fun q => absurd q (by decide), fun _ => ?_⟩)⟩
      · have hne : eF e1 ≠ 0 := fun z2 => by have := hr z2; have := hE1.2.2.2.2.2.1.1; omega
        rw [rep_no (isE_no hne)] at he
        rw [he] at hE1
        exact k μ3 hE1 hF1
      · rw [rep_no y] at he
        rw [he] at hE1
        exact k μ3 hE1 hF1
      · have y2 := isE_t.mp y
        have st := step_y y2.1
        have hlt := hT.lt hE1.2.2.2.2.2.1.1 (by rw [y2.2]; decide)
        rw [repE, if_pos y] at he
        refine ca_step (by omega) hE1 (fun _ => by rw [y2.2]; decide) ?_
        intro μ6 r6 f6
        have L6 : Ln 1 (stepE e1) := Ln.step (s := 0) hL1 y2.1
        have hmx6 : (μ6 28 10 = 0 ∧ mx = 21) ∨ (μ6 28 10 ≠ 0 ∧ mx = 23) := by rw [f6 _ _ (by omega) (by omega), hF1 _ _ (by omega) (by omega)]; exact hmx
        refine hA D sc μ6 _ _ (Nat.le_refl _) r6 (fun z => by have := L6 z; omega) hmx6 ?_
        intro μ8 r8 f8
        have L8 : Ln 1 (bothE T a (stepE e1)) := Ln.PG L6 hP (by rw [st.1]; omega)
        refine ca_emit (by omega) r8 (L8.lt hE.2.1 r8.2.2.2.2.2.1.1) ?_
        intro μ10 r10 f10
        refine ⟨⟨by have := hi.1; omega, by have := hi.2; omega⟩, ?_⟩
        rintro _ rfl
        refine ih (left + -1) _ μ10 r10 (((hF1.tr f6).tr f8).tr f10) L8.emit (fun z => ?_) ⟨by have := hi.1; omega, by have := hi.2; omega⟩ he
        have z8 : eF (bothE T a (stepE e1)) = 0 := by
          by_cases q : eF (bothE T a (stepE e1)) = 0
          · exact q
          · rw [emit_no q] at z; exact absurd z q
        have m := emit_y (op := 1013) z8
        have pd := ((hP (stepE e1)).2 st.2.1 (by omega)).2.2 z8
        have := hr y2.1
        omega
  intro v hv
  rw [r2.2.2.2.1.1] at hv
  rw [hv]
  have hN := hE.2.1
  exact key 1000 ((N + 1 : Nat) : Int) (bothE T a e) μ2 r2 f2 (hL.PG hP hE.2.2.2.2.2.1.1) (fun _ => ⟨by omega, by omega⟩) ⟨by omega, by omega⟩ rfl
theorem CX.sum {T : TxT} {N D : Nat} {h mx dep ha : Int} {a : ES → ES} (hT : TH T N) (hA : CX mX7_readTerm dep D T N h mx (termE T a)) (hP : PG T N mx 0 ha (termE T a)) (hD : 3 ≤ D) : CX mX7_readSum dep (D + 1) T N h mx (sumE T a) := by
  intro d sc μ e R hd hE hL hmx k
  have hh := ik_1 hE.1
  refine byV (d' := D) (by omega) (Q := R) ?_ (fun _ z => z)
  refine CTv_of mp_X7_readSum (Nat.le_of_ble_eq_true rfl) ?_
  refine s_X7_readSum_0 (hA D sc μ e _ (Nat.le_refl _) hE hL hmx ?_)
  intro μ2 r2 f2
  have key : ∀ (r : Nat) (left : Int) (e1 : ES) (μ3 : Mem), RE μ3 T N h e1 → FRe μ μ3 h → Ln 0 e1 → (eF e1 = 0 → N + 1 ≤ r + eK e1 ∧ (N : Int) + 1 ≤ left + eK e1) → i32 left → repE (fun e => isE T e 32 || isE T e 33) (fun e => emitE (1000 + T.1 (eK e)) (termE T a (stepE e))) r e1 = sumE T a e →
      WQ mX7_readSum D sc (ZV sc R) 10 [(2, 28), (0, dep), (0, left), (9, 0)] [] μ3 := by
    intro r
    induction r with
    | zero =>
      intro left e1 μ3 hE1 hF1 hL1 hr hi he
      have hne : eF e1 ≠ 0 := fun z => by have := hr z; have := hE1.2.2.2.2.2.1.1; omega
      rw [repE] at he
      rw [he] at hE1
      have e1f : eF (sumE T a e) ≠ 0 := by rw [← he]; exact hne
      refine s_X7_readSum_10 ⟨fun _ => k μ3 hE1 hF1, fun _ => ca_isAt (by omega) hE1 (fun _ => ⟨fun q => absurd rfl q, fun _ => ca_isAt (by omega) hE1 (fun _ => ⟨fun _ => k μ3 hE1 hF1, fun q => absurd rfl q⟩) (fun y => by rw [isE_no e1f] at y; exact absurd y (by decide))⟩) (fun y => by rw [isE_no e1f] at y; exact absurd y (by decide))⟩
    | succ r ih =>
      intro left e1 μ3 hE1 hF1 hL1 hr hi he
      have ht := hE1.tok
      have body : ∀ K : Int, (K = 32 ∨ K = 33) → isE T e1 K = true → (0 ≤ μ3 28 8 ∧ μ3 28 8 < 901) ∧ (∀ v6 : Int, v6 = μ3 29 (μ3 28 8) → CAv mX7_step D sc [(2, 28)] μ3 (fun μ8 => CAv mX7_readTerm D sc [(2, 28), (0, dep)] μ8 (fun μ10 => (-2147483648 ≤ 1000 + v6 ∧ 1000 + v6 < 2147483648) ∧ CAv mX7_emit D sc [(2, 28), (0, 1000 + v6)] μ10 (fun μ13 => (-2147483648 ≤ left + (-1) ∧ left + (-1) < 2147483648) ∧ ∀ v15 : Int, v15 = left + (-1) → WQ mX7_readSum D sc (ZV sc R) 10 [(2, 28), (0, dep), (0, v15), (9, 0)] [] μ13)))) := by
        intro K hK y
        have y2 := isE_t.mp y
        have hc : (isE T e1 32 || isE T e1 33) = true := by
          rcases hK with q | q
          · rw [q] at y; rw [y]; rfl
          · rw [q] at y; rw [y, Bool.or_true]
        have st := step_y y2.1
        have hlt := hT.lt hE1.2.2.2.2.2.1.1 (by rw [y2.2]; omega)
        rw [repE, if_pos hc] at he
        refine ⟨ht.1, ?_⟩
        intro v6 h6
        rw [ht.2.1] at h6
        refine ca_step (by omega) hE1 (fun _ => by rw [y2.2]; omega) ?_
        intro μ6 r6 f6
        have L6 : Ln 1 (stepE e1) := Ln.step (s := 0) hL1 y2.1
        have hmx6 : (μ6 28 10 = 0 ∧ mx = 21) ∨ (μ6 28 10 ≠ 0 ∧ mx = 23) := by rw [f6 _ _ (by omega) (by omega), hF1 _ _ (by omega) (by omega)]; exact hmx
        refine hA D sc μ6 _ _ (Nat.le_refl _) r6 (fun z => by have := L6 z; omega) hmx6 ?_
        intro μ8 r8 f8
        have L8 : Ln 1 (termE T a (stepE e1)) := Ln.PG L6 hP (by rw [st.1]; omega)
        refine ⟨by omega, ?_⟩
        rw [h6]
        refine ca_emit (by omega) r8 (L8.lt hE.2.1 r8.2.2.2.2.2.1.1) ?_
        intro μ10 r10 f10
        by_cases hl0 : 0 < left
        · refine ⟨⟨by omega, by have := hi.2; omega⟩, ?_⟩
          rintro _ rfl
          refine ih (left + -1) _ μ10 r10 (((hF1.tr f6).tr f8).tr f10) L8.emit (fun z => ?_) ⟨by omega, by have := hi.2; omega⟩ he
          have z8 : eF (termE T a (stepE e1)) = 0 := by
            by_cases q : eF (termE T a (stepE e1)) = 0
            · exact q
            · rw [emit_no q] at z; exact absurd z q
          have m := emit_y (op := 1000 + T.1 (eK e1)) z8
          have pd := ((hP (stepE e1)).2 st.2.1 (by omega)).2.2 z8
          have := hr y2.1
          omega
        · have := hr y2.1
          have := hE1.2.2.2.2.2.1.1
          omega
      refine s_X7_readSum_10 ⟨fun z => ?_, fun _ => ca_isAt (by omega) hE1 (fun y => ⟨fun q => absurd rfl q, fun _ => ca_isAt (by omega) hE1 (fun y2 => ⟨fun _ => ?_, fun q => absurd rfl q⟩) (fun y2 => ⟨fun q => absurd q (by decide), fun _ => body 33 (Or.inr rfl) y2⟩)⟩) (fun y => ⟨fun _ => body 32 (Or.inl rfl) y, fun q => absurd q (by decide)⟩)⟩
      · have hne : eF e1 ≠ 0 := fun z2 => by have := hr z2; have := hE1.2.2.2.2.2.1.1; omega
        rw [rep_no (by rw [isE_no hne, isE_no hne]; rfl)] at he
        rw [he] at hE1
        exact k μ3 hE1 hF1
      · rw [rep_no (by rw [y, y2]; rfl)] at he
        rw [he] at hE1
        exact k μ3 hE1 hF1
  intro v hv
  rw [r2.2.2.2.1.1] at hv
  rw [hv]
  have hN := hE.2.1
  exact key 1000 ((N + 1 : Nat) : Int) (termE T a e) μ2 r2 f2 (hL.PG hP hE.2.2.2.2.2.1.1) (fun _ => ⟨by omega, by omega⟩) ⟨by omega, by omega⟩ rfl

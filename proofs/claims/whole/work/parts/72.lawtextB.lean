/-! THE TEXT: what reading a law does -/
def TH (T : TxT) (N : Nat) : Prop := T.1 N = 52 ∧ ∀ k, 0 ≤ T.2.2 k ∧ T.2.2 k ≤ 999
def PD (N : Nat) (mx b h : Int) (e e' : ES) : Prop := eK e' ≤ N ∧ (eF e' = 0 ∨ (1 ≤ eF e' ∧ eF e' ≤ 4)) ∧ (eF e' = 0 → eK e < eK e' ∧ eP e' = eP e ∧ ∃ l, eC e' = eC e ++ l ∧ l.length + eK e ≤ eK e' ∧ TyL b h l ∧ (mx = 21 → ∀ x ∈ l, x ≠ 1022 ∧ x ≠ 1023))
def PG (T : TxT) (N : Nat) (mx b h : Int) (g : ES → ES) : Prop := ∀ e, (eF e ≠ 0 → g e = e) ∧ (eF e = 0 → eK e ≤ N → PD N mx b h e (g e))
theorem isE_t {T : TxT} {e : ES} {K : Int} : isE T e K = true ↔ eF e = 0 ∧ T.1 (eK e) = K := by unfold isE; rw [decide_eq_true_eq]
theorem isE_no {T : TxT} {e : ES} {K : Int} (h : eF e ≠ 0) : isE T e K = false := by unfold isE; exact decide_eq_false (fun q => h q.1)
theorem fail_no {T : TxT} {e : ES} {w : Int} (h : eF e ≠ 0) : failE T w e = e := if_neg h
theorem step_no {e : ES} (h : eF e ≠ 0) : stepE e = e := if_neg h
theorem emit_no {e : ES} {op : Int} (h : eF e ≠ 0) : emitE op e = e := if_neg h
theorem exp_no {T : TxT} {e : ES} {K : Int} (h : eF e ≠ 0) : expE T K e = e := by unfold expE; rw [isE_no h, if_neg (by decide), fail_no h]
theorem fail_f {T : TxT} {e : ES} {w : Int} (hw : 1 ≤ w ∧ w ≤ 4) (h : eF e = 0) : eK (failE T w e) = eK e ∧ (1 ≤ eF (failE T w e) ∧ eF (failE T w e) ≤ 4) ∧ eC (failE T w e) = eC e := by
  unfold failE
  rw [if_pos h]
  refine ⟨rfl, ?_, rfl⟩
  show 1 ≤ (if T.1 (eK e) = 53 then 1 else w) ∧ (if T.1 (eK e) = 53 then 1 else w) ≤ 4
  split <;> omega
theorem PD.fault {N : Nat} {mx b h : Int} {e e' : ES} (h1 : eK e' ≤ N) (h2 : 1 ≤ eF e' ∧ eF e' ≤ 4) : PD N mx b h e e' := ⟨h1, Or.inr h2, fun z => by omega⟩
theorem PD.fail {T : TxT} {N : Nat} {mx b h w : Int} {e e1 : ES} (hw : 1 ≤ w ∧ w ≤ 4) (h0 : eF e1 = 0) (hk : eK e1 ≤ N) : PD N mx b h e (failE T w e1) := by
  have := fail_f (T := T) hw h0
  exact PD.fault (by rw [this.1]; exact hk) this.2.1
theorem PD.mono {N : Nat} {mx b h h' : Int} {e e' : ES} (hD : PD N mx b h e e') (hh : h ≤ h') : PD N mx b h' e e' := by
  obtain ⟨q1, q2, q3⟩ := hD
  refine ⟨q1, q2, fun z => ?_⟩
  obtain ⟨a1, a2, l, a3, a4, a5, a6⟩ := q3 z
  exact ⟨a1, a2, l, a3, a4, a5.mono hh, a6⟩
theorem step_y {e : ES} (h : eF e = 0) : eK (stepE e) = eK e + 1 ∧ eF (stepE e) = 0 ∧ eP (stepE e) = eP e ∧ eC (stepE e) = eC e := by unfold stepE; rw [if_pos h]; exact ⟨rfl, h, rfl, rfl⟩
theorem emit_y {e : ES} {op : Int} (h : eF e = 0) : eK (emitE op e) = eK e ∧ eF (emitE op e) = 0 ∧ eP (emitE op e) = eP e ∧ eC (emitE op e) = eC e ++ [op] := by unfold emitE; rw [if_pos h]; exact ⟨rfl, h, rfl, rfl⟩
theorem TH.lt {T : TxT} {N k : Nat} (hT : TH T N) (hk : k ≤ N) (h : T.1 k ≠ 52) : k < N := by
  by_cases q : k = N
  · rw [q] at h; exact absurd hT.1 h
  · omega
/-- reading from the next token on is reading from here on -/
theorem PD.step {T : TxT} {N : Nat} {mx b h : Int} {e e' : ES} (h0 : eF e = 0) (hD : PD N mx b h (stepE e) e') : PD N mx b h e e' := by
  obtain ⟨q1, q2, q3⟩ := hD
  have s := step_y h0
  refine ⟨q1, q2, fun z => ?_⟩
  obtain ⟨a1, a2, l, a3, a4, a5⟩ := q3 z
  exact ⟨by omega, by rw [a2, s.2.2.1], l, by rw [a3, s.2.2.2], by omega, a5⟩
theorem PD.exp {T : TxT} {N : Nat} {mx b h K : Int} {e e' : ES} (hT : TH T N) (hK : K ≠ 52) (hD : PD N mx b h e e') : PD N mx b h e (expE T K e') := by
  by_cases z : eF e' = 0
  · obtain ⟨q1, q2, q3⟩ := hD
    unfold expE
    by_cases y : isE T e' K = true
    · rw [if_pos y]
      have hlt := hT.lt q1 (by rw [(isE_t.mp y).2]; exact hK)
      have s := step_y z
      obtain ⟨a1, a2, l, a3, a4, a5⟩ := q3 z
      exact ⟨by omega, Or.inl s.2.1, fun _ => ⟨by omega, by rw [s.2.2.1, a2], l, by rw [s.2.2.2, a3], by omega, a5⟩⟩
    · rw [if_neg y]; exact PD.fail (by decide) z q1
  · rw [exp_no z]; exact hD
theorem exp_ok {T : TxT} {e : ES} {K : Int} (h : eF (expE T K e) = 0) : eF e = 0 ∧ T.1 (eK e) = K ∧ expE T K e = stepE e := by
  by_cases z : eF e = 0
  · by_cases y : isE T e K = true
    · exact ⟨z, (isE_t.mp y).2, by unfold expE; rw [if_pos y]⟩
    · have e1 : expE T K e = failE T 2 e := by unfold expE; rw [if_neg y]
      have := (fail_f (T := T) (w := 2) (by decide) z).2.1
      rw [e1] at h
      omega
  · rw [exp_no z] at h; exact absurd h z
theorem PD.un {N : Nat} {mx h : Int} {e e' : ES} (h0 : eF e = 0) (hD : PD N mx 1 h (stepE e) e') : PD N mx 1 h e (emitE 1014 e') := by
  by_cases z : eF e' = 0
  · obtain ⟨q1, q2, q3⟩ := hD
    have s := step_y h0
    have m := emit_y (op := 1014) z
    obtain ⟨a1, a2, l, a3, a4, a5, a6⟩ := q3 z
    refine ⟨by omega, Or.inl m.2.1, fun _ => ⟨by omega, by rw [m.2.2.1, a2, s.2.2.1], l ++ [1014], by rw [m.2.2.2, a3, s.2.2.2, List.append_assoc], by rw [List.length_append]; simp; omega, a5.un, fun y x hx => ?_⟩⟩
    rw [List.mem_append, List.mem_singleton] at hx
    rcases hx with hx | hx
    · exact a6 y x hx
    · omega
  · rw [emit_no z]
    exact PD.fault hD.1 (by rcases hD.2.1 with q | q <;> omega)
theorem PD.bin {T : TxT} {N : Nat} {mx t b h h1 h2 op : Int} {g : ES → ES} {e e1 : ES} (hT : TH T N) (hD : PD N mx t h1 e e1) (h0 : eF e1 = 0) (hk : T.1 (eK e1) ≠ 52) (hg : PG T N mx t h2 g) (hh : 1 ≤ h ∧ h1 ≤ h ∧ 1 + h2 ≤ h) (hop : (t = 1 ∧ b = 1 ∧ (op = 1012 ∨ op = 1013)) ∨ (t = 0 ∧ b = 1 ∧ (op = 1039 ∨ op = 1040 ∨ op = 1041)) ∨ (t = 0 ∧ b = 0 ∧ (op = 1032 ∨ op = 1033 ∨ op = 1034))) : PD N mx b h e (emitE op (g (stepE e1))) := by
  have hopn : op ≠ 1022 ∧ op ≠ 1023 := by omega
  obtain ⟨q1, q2, q3⟩ := hD
  have s := step_y h0
  have hlt := hT.lt q1 hk
  have hG := (hg (stepE e1)).2 s.2.1 (by omega)
  by_cases z : eF (g (stepE e1)) = 0
  · obtain ⟨r1, r2, r3⟩ := hG
    have m := emit_y (op := op) z
    obtain ⟨a1, a2, l, a3, a4, a5, a6⟩ := q3 h0
    obtain ⟨b1, b2, l2, b3, b4, b5, b6⟩ := r3 z
    refine ⟨by omega, Or.inl m.2.1, fun _ => ⟨by omega, by rw [m.2.2.1, b2, s.2.2.1, a2], l ++ (l2 ++ [op]), by rw [m.2.2.2, b3, s.2.2.2, a3, List.append_assoc, List.append_assoc], by rw [List.length_append, List.length_append]; simp; omega, a5.bin b5 hh hop, fun y x hx => ?_⟩⟩
    rw [List.mem_append, List.mem_append, List.mem_singleton] at hx
    rcases hx with hx | hx | hx
    · exact a6 y x hx
    · exact b6 y x hx
    · rw [hx]; exact hopn
  · rw [emit_no z]
    exact PD.fault hG.1 (by rcases hG.2.1 with q | q <;> omega)
theorem rep_no {c : ES → Bool} {g : ES → ES} {n : Nat} {e : ES} (h : c e = false) : repE c g n e = e := by
  cases n with
  | zero => rfl
  | succ n => rw [repE, h, if_neg (by decide)]
theorem rep_PD {N : Nat} {mx b h : Int} {c : ES → Bool} {g : ES → ES} {e : ES} (hg : ∀ e1, PD N mx b h e e1 → c e1 = true → PD N mx b h e (g e1)) : ∀ (n : Nat) (e1 : ES), PD N mx b h e e1 → PD N mx b h e (repE c g n e1) := by
  intro n
  induction n with
  | zero => intro e1 h1; exact h1
  | succ n ih =>
    intro e1 h1
    rw [repE]
    by_cases q : c e1 = true
    · rw [if_pos q]; exact ih _ (hg e1 h1 q)
    · rw [if_neg q]; exact h1
theorem PG.term {T : TxT} {N : Nat} {mx h : Int} {a : ES → ES} (hT : TH T N) (ha : PG T N mx 0 h a) (hh : 1 ≤ h) : PG T N mx 0 (1 + h) (termE T a) := by
  intro e
  refine ⟨fun z => ?_, fun z hk => ?_⟩
  · unfold termE
    rw [(ha e).1 z, rep_no (isE_no z)]
  · refine rep_PD (fun e1 h1 hc => ?_) 1000 _ (((ha e).2 z hk).mono (by omega))
    have hc := isE_t.mp hc
    exact PD.bin hT h1 hc.1 (by rw [hc.2]; decide) ha ⟨by omega, Int.le_refl _, Int.le_refl _⟩ (Or.inr (Or.inr ⟨rfl, rfl, Or.inr (Or.inr rfl)⟩))
theorem PG.sum {T : TxT} {N : Nat} {mx h : Int} {a : ES → ES} (hT : TH T N) (ha : PG T N mx 0 h a) (hh : 1 ≤ h) : PG T N mx 0 (2 + h) (sumE T a) := by
  have ht := ha.term hT hh
  intro e
  refine ⟨fun z => ?_, fun z hk => ?_⟩
  · unfold sumE
    rw [(ht e).1 z, rep_no (by rw [isE_no z, isE_no z]; rfl)]
  · refine rep_PD (fun e1 h1 hc => ?_) 1000 _ (((ht e).2 z hk).mono (by omega))
    rw [Bool.or_eq_true, isE_t, isE_t] at hc
    have hf : eF e1 = 0 := by rcases hc with q | q <;> exact q.1
    have hc2 : T.1 (eK e1) = 32 ∨ T.1 (eK e1) = 33 := hc.elim (fun q => Or.inl q.2) (fun q => Or.inr q.2)
    exact PD.bin hT h1 hf (by omega) ht ⟨by omega, Int.le_refl _, by omega⟩ (Or.inr (Or.inr ⟨rfl, rfl, by omega⟩))
theorem PG.both {T : TxT} {N : Nat} {mx h : Int} {u : ES → ES} (hT : TH T N) (hu : PG T N mx 1 h u) (hh : 1 ≤ h) : PG T N mx 1 (1 + h) (bothE T u) := by
  intro e
  refine ⟨fun z => ?_, fun z hk => ?_⟩
  · unfold bothE
    rw [(hu e).1 z, rep_no (isE_no z)]
  · refine rep_PD (fun e1 h1 hc => ?_) 1000 _ (((hu e).2 z hk).mono (by omega))
    have hc := isE_t.mp hc
    exact PD.bin hT h1 hc.1 (by rw [hc.2]; decide) hu ⟨by omega, Int.le_refl _, Int.le_refl _⟩ (Or.inl ⟨rfl, rfl, Or.inl rfl⟩)
theorem PG.truth {T : TxT} {N : Nat} {mx h : Int} {u : ES → ES} (hT : TH T N) (hu : PG T N mx 1 h u) (hh : 1 ≤ h) : PG T N mx 1 (2 + h) (truthE T u) := by
  have hb := hu.both hT hh
  intro e
  refine ⟨fun z => ?_, fun z hk => ?_⟩
  · unfold truthE
    rw [(hb e).1 z, rep_no (isE_no z)]
  · refine rep_PD (fun e1 h1 hc => ?_) 1000 _ (((hb e).2 z hk).mono (by omega))
    have hc := isE_t.mp hc
    exact PD.bin hT h1 hc.1 (by rw [hc.2]; decide) hb ⟨by omega, Int.le_refl _, by omega⟩ (Or.inl ⟨rfl, rfl, Or.inr rfl⟩)
theorem PG.pUnitB {T : TxT} {N : Nat} {mx h : Int} {a : ES → ES} (hT : TH T N) (ha : PG T N mx 0 h a) (hh : 1 ≤ h) : PG T N mx 1 (3 + h) (unitB T a) := by
  have hs := ha.sum hT hh
  intro e
  refine ⟨fun z => ?_, fun z hk => ?_⟩
  · have hc : cmpE T e = e := by unfold cmpE; rw [isE_no z, isE_no z, isE_no z, fail_no z]; rfl
    unfold unitB
    rw [(hs e).1 z, hc, if_neg z]
  · have h1 := (hs e).2 z hk
    unfold unitB
    generalize sumE T a e = e1 at *
    by_cases y : eF e1 = 0
    · by_cases c : (isE T e1 39 || isE T e1 40 || isE T e1 41) = true
      · have hc : cmpE T e1 = stepE e1 := by unfold cmpE; rw [if_pos c]
        rw [Bool.or_eq_true, Bool.or_eq_true, isE_t, isE_t, isE_t] at c
        have hk2 : T.1 (eK e1) = 39 ∨ T.1 (eK e1) = 40 ∨ T.1 (eK e1) = 41 := by omega
        rw [hc, if_pos (step_y y).2.1]
        exact PD.bin hT h1 y (by omega) hs ⟨by omega, by omega, by omega⟩ (Or.inr (Or.inl ⟨rfl, rfl, by omega⟩))
      · have hc : cmpE T e1 = failE T 2 e1 := by unfold cmpE; rw [if_neg c]
        have f := fail_f (T := T) (w := 2) (by decide) y
        rw [hc, if_neg (by omega)]
        exact PD.fail (by decide) y h1.1
    · have hc : cmpE T e1 = e1 := by unfold cmpE; rw [isE_no y, isE_no y, isE_no y, fail_no y]; rfl
      rw [hc, if_neg y]
      exact PD.fault h1.1 (by rcases h1.2.1 with q | q <;> omega)
theorem PG.ite {T : TxT} {N : Nat} {mx h h1 h2 : Int} {a u : ES → ES} (hT : TH T N) (ha : PG T N mx 0 h1 a) (hu : PG T N mx 1 h2 u) (hh1 : 1 ≤ h1) (hh2 : 1 ≤ h2) (hh : 2 + h2 ≤ h ∧ 4 + h1 ≤ h) : PG T N mx 0 h (ifE T a u) := by
  have hs := ha.sum hT hh1
  have ht := hu.truth hT hh2
  intro e
  refine ⟨fun z => ?_, fun z hk => ?_⟩
  · have hsi : sumIf T a e = e := if_neg z
    unfold ifE
    rw [(ht e).1 z, exp_no z, hsi, exp_no z, hsi, exp_no z, emit_no z]
  · unfold ifE
    have d1 := ((ht e).2 z hk).exp hT (K := 9) (by decide)
    generalize expE T 9 (truthE T u e) = e1 at *
    by_cases f1 : eF e1 = 0
    · have x1 : sumIf T a e1 = sumE T a e1 := if_pos f1
      rw [x1]
      have d2 := ((hs e1).2 f1 d1.1).exp hT (K := 10) (by decide)
      generalize expE T 10 (sumE T a e1) = e2 at *
      by_cases f2 : eF e2 = 0
      · have x2 : sumIf T a e2 = sumE T a e2 := if_pos f2
        rw [x2]
        have d3' := (hs e2).2 f2 d2.1
        have d3 := d3'.exp hT (K := 11) (by decide)
        by_cases f3 : eF (expE T 11 (sumE T a e2)) = 0
        · obtain ⟨g1, _, g2⟩ := exp_ok f3
          have s3 := step_y g1
          rw [g2] at f3 d3 ⊢
          have m := emit_y (op := 1008) f3
          obtain ⟨a1, a2, l1, a3, a4, a5, a6⟩ := d1.2.2 f1
          obtain ⟨b1, b2, l2, b3, b4, b5, b6⟩ := d2.2.2 f2
          obtain ⟨c1, c2, l3, c3, c4, c5, c6⟩ := d3'.2.2 g1
          refine ⟨by have := d3.1; omega, Or.inl m.2.1, fun _ => ⟨by omega, by rw [m.2.2.1, s3.2.2.1, c2, b2, a2], l1 ++ (l2 ++ (l3 ++ [1008])), by rw [m.2.2.2, s3.2.2.2, c3, b3, a3]; simp [List.append_assoc], ?_, a5.ite b5 c5 ⟨by omega, by omega, by omega, by omega⟩, fun y x hx => ?_⟩⟩
          · rw [List.length_append, List.length_append, List.length_append, List.length_singleton]
            omega
          · rw [List.mem_append, List.mem_append, List.mem_append, List.mem_singleton] at hx
            rcases hx with hx | hx | hx | hx
            · exact a6 y x hx
            · exact b6 y x hx
            · exact c6 y x hx
            · clear y; omega
        · rw [emit_no f3]; exact PD.fault d3.1 (by rcases d3.2.1 with q | q <;> omega)
      · have x2 : sumIf T a e2 = e2 := if_neg f2
        rw [x2, exp_no f2, emit_no f2]; exact PD.fault d2.1 (by rcases d2.2.1 with q | q <;> omega)
    · have x1 : sumIf T a e1 = e1 := if_neg f1
      rw [x1, exp_no f1, x1, exp_no f1, emit_no f1]; exact PD.fault d1.1 (by rcases d1.2.1 with q | q <;> omega)
theorem PG.leaf {T : TxT} {N : Nat} {mx : Int} {e : ES} (hT : TH T N) (hmx : mx = 21 ∨ mx = 23) (h : Int) (hh : 1 ≤ h) : (eF e ≠ 0 → leafE T mx e = e) ∧ (eF e = 0 → eK e ≤ N → PD N mx 0 h e (leafE T mx e)) := by
  refine ⟨fun z => ?_, fun z hk => ?_⟩
  · unfold leafE
    rw [emit_no z, emit_no z, step_no z, fail_no z]
    split <;> (try split) <;> rfl
  · have one : ∀ op : Int, ((0 ≤ op ∧ op < 1000) ∨ (1015 ≤ op ∧ op ≤ 1023)) → (mx = 21 → op ≠ 1022 ∧ op ≠ 1023) → T.1 (eK e) ≠ 52 → PD N mx 0 h e (stepE (emitE op e)) := by
      intro op h1 h2 h3
      have hlt := hT.lt hk h3
      have m := emit_y (op := op) z
      have s := step_y m.2.1
      exact ⟨by omega, Or.inl s.2.1, fun _ => ⟨by omega, by rw [s.2.2.1, m.2.2.1], [op], by rw [s.2.2.2, m.2.2.2], by rw [List.length_singleton]; omega, (TyL.leaf h1).mono hh, fun y x hx => by rw [List.mem_singleton.mp hx]; exact h2 y⟩⟩
    unfold leafE
    by_cases q : T.1 (eK e) = 50
    · rw [if_pos q]
      have := hT.2 (eK e)
      exact one _ (Or.inl ⟨this.1, by omega⟩) (fun _ => by omega) (by omega)
    · rw [if_neg q]
      by_cases q2 : 15 ≤ T.1 (eK e) ∧ T.1 (eK e) ≤ mx
      · rw [if_pos q2]
        exact one _ (Or.inr ⟨by omega, by omega⟩) (fun _ => by omega) (by omega)
      · rw [if_neg q2]; exact PD.fail (by decide) z hk
theorem PG.pAtom0 {T : TxT} {N : Nat} {mx : Int} (hT : TH T N) (hmx : mx = 21 ∨ mx = 23) : PG T N mx 0 1 (atom0 T mx) := by
  intro e
  have hl := PG.leaf (e := e) hT hmx 1 (Int.le_refl _)
  refine ⟨fun z => ?_, fun z hk => ?_⟩
  · unfold atom0
    rw [isE_no z, isE_no z, if_neg (by decide), if_neg (by decide)]; exact hl.1 z
  · unfold atom0
    split
    · exact PD.fail (by decide) z hk
    · split
      · exact PD.fail (by decide) z hk
      · exact hl.2 z hk
theorem PG.pUnit0 {T : TxT} {N : Nat} {mx h : Int} {a : ES → ES} (hT : TH T N) (ha : PG T N mx 0 h a) (hh : 1 ≤ h) : PG T N mx 1 (3 + h) (unit0 T a) := by
  intro e
  have hl := (ha.pUnitB hT hh) e
  refine ⟨fun z => ?_, fun z hk => ?_⟩
  · unfold unit0
    rw [isE_no z, isE_no z, if_neg (by decide), if_neg (by decide)]; exact hl.1 z
  · unfold unit0
    split
    · exact PD.fail (by decide) z hk
    · split
      · exact PD.fail (by decide) z hk
      · exact hl.2 z hk
theorem PG.pAtomS {T : TxT} {N : Nat} {mx h h1 h2 : Int} {a u : ES → ES} (hT : TH T N) (hmx : mx = 21 ∨ mx = 23) (ha : PG T N mx 0 h1 a) (hu : PG T N mx 1 h2 u) (hh1 : 1 ≤ h1) (hh2 : 1 ≤ h2) (hh : 2 + h2 ≤ h ∧ 4 + h1 ≤ h) : PG T N mx 0 h (atomS T mx a u) := by
  intro e
  have hl := PG.leaf (e := e) hT hmx h (by omega)
  refine ⟨fun z => ?_, fun z hk => ?_⟩
  · unfold atomS
    rw [isE_no z, isE_no z, if_neg (by decide), if_neg (by decide)]; exact hl.1 z
  · unfold atomS
    have s := step_y z
    by_cases c1 : isE T e 35 = true
    · rw [if_pos c1]
      have hlt := hT.lt hk (by rw [(isE_t.mp c1).2]; decide)
      exact ((((ha.sum hT hh1) (stepE e)).2 s.2.1 (by omega)).mono (by omega)).step (T := T) z |>.exp hT (by decide)
    · rw [if_neg c1]
      by_cases c2 : isE T e 8 = true
      · rw [if_pos c2]
        have hlt := hT.lt hk (by rw [(isE_t.mp c2).2]; decide)
        exact (((ha.ite hT hu hh1 hh2 hh) (stepE e)).2 s.2.1 (by omega)).step (T := T) z
      · rw [if_neg c2]; exact hl.2 z hk
theorem PG.pUnitS {T : TxT} {N : Nat} {mx h h1 h2 : Int} {a u : ES → ES} (hT : TH T N) (ha : PG T N mx 0 h1 a) (hu : PG T N mx 1 h2 u) (hh1 : 1 ≤ h1) (hh2 : 1 ≤ h2) (hh : 2 + h2 ≤ h ∧ 3 + h1 ≤ h) : PG T N mx 1 h (unitS T a u) := by
  intro e
  have hl := (ha.pUnitB hT hh1) e
  refine ⟨fun z => ?_, fun z hk => ?_⟩
  · unfold unitS
    rw [isE_no z, isE_no z, if_neg (by decide), if_neg (by decide)]; exact hl.1 z
  · unfold unitS
    have s := step_y z
    by_cases c1 : isE T e 14 = true
    · rw [if_pos c1]
      have hlt := hT.lt hk (by rw [(isE_t.mp c1).2]; decide)
      exact PD.un z (((hu (stepE e)).2 s.2.1 (by omega)).mono (by omega))
    · rw [if_neg c1]
      by_cases c2 : isE T e 37 = true
      · rw [if_pos c2]
        have hlt := hT.lt hk (by rw [(isE_t.mp c2).2]; decide)
        exact ((((hu.truth hT hh2) (stepE e)).2 s.2.1 (by omega)).mono (by omega)).step (T := T) z |>.exp hT (by decide)
      · rw [if_neg c2]; exact (hl.2 z hk).mono (by omega)
theorem lv_PG {T : TxT} {N : Nat} {mx : Int} (hT : TH T N) (hmx : mx = 21 ∨ mx = 23) : ∀ m : Nat, PG T N mx 0 (1 + 5 * m) (lvE T mx m).1 ∧ PG T N mx 1 (4 + 5 * m) (lvE T mx m).2 := by
  intro m
  induction m with
  | zero => exact ⟨PG.pAtom0 hT hmx, (PG.pAtom0 hT hmx).pUnit0 hT (by decide)⟩
  | succ m ih =>
    have ha := ih.1.pAtomS (h := 1 + 5 * ((m + 1 : Nat) : Int)) hT hmx ih.2 (by omega) (by omega) (by omega)
    exact ⟨ha, ha.pUnitS hT ih.2 (by omega) (by omega) (by omega)⟩

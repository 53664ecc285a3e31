/-! THE REFERENCE READS: laws -/
def kOk (x : Int) : Prop := (0 ≤ x ∧ x < 24) ∨ (30 ≤ x ∧ x ≤ 41) ∨ (50 ≤ x ∧ x ≤ 53)
theorem signK_ok (c : Int) : kOk (signK c) := by
  unfold signK kOk
  repeat' split
  all_goals decide
theorem tkK_ok (b : Int → Int) (n pos : Nat) : kOk (tkK b n pos) := by
  unfold tkK
  split
  · unfold kOk; omega
  · split
    · have := wordK_b b (tkP b n pos) (runE isLetB b n (tkP b n pos))
      unfold kOk; omega
    · split
      · split <;> (unfold kOk; omega)
      · exact signK_ok _
theorem trK_inj {x y : Int} (hx : kOk x) (hy : kOk y) (h : trK x = trK y) : x = y := by
  have H : ∀ a : Nat, a < 54 → ∀ c : Nat, c < 54 → ((a < 24 ∨ (30 ≤ a ∧ a ≤ 41) ∨ 50 ≤ a) ∧ (c < 24 ∨ (30 ≤ c ∧ c ≤ 41) ∨ 50 ≤ c)) → trK (a : Int) = trK (c : Int) → a = c := by decide +kernel
  unfold kOk at hx hy
  have := H x.toNat (by omega) y.toNat (by omega) (by omega)
  rw [show ((x.toNat : Nat) : Int) = x by omega, show ((y.toNat : Nat) : Int) = y by omega] at this
  have := this h
  omega
def RQ (μ : Mem) (b : Int → Int) (n N : Nat) (f : Int) (e : ES) : Prop := TM μ b n ∧ TH (txt b n) N ∧ N ≤ 900 ∧ 0 ≤ f ∧ OE N e ∧ μ 183 11 = eF e ∧ (eF e = 0 → PT μ b n (eK e) ∧ μ 187 472 = f + (eC e).length ∧ ∀ k : Nat, ∀ hk : k < (eC e).length, μ 187 (473 + f + (k : Int)) = trC (eC e)[k]) ∧ (eF e ≠ 0 → μ 183 12 = eP e)
def FRl (f : Int) (μ μ' : Mem) : Prop := ∀ b j, (b = 183 → j < 6 ∨ j = 8 ∨ 12 < j) → (b = 187 → j < 472 ∨ (473 ≤ j ∧ j < 473 + f)) → μ' b j = μ b j
theorem FRl.refl (f : Int) (μ : Mem) : FRl f μ μ := fun _ _ _ _ => rfl
theorem FRl.tr {f : Int} {μ1 μ2 μ3 : Mem} (h : FRl f μ1 μ2) (h' : FRl f μ2 μ3) : FRl f μ1 μ3 := fun b j q1 q2 => by rw [h' b j q1 q2]; exact h b j q1 q2
theorem FRn.l {f : Int} {μ μ' : Mem} (h : FRn μ μ') : FRl f μ μ' := fun b j q1 _ => h b j (fun y => by have := q1 y; omega)
def Lm (f : Int) (s : Nat) (e : ES) : Prop := eF e = 0 → f + (eC e).length + s ≤ eK e
theorem PT.same {μ μ' : Mem} {b : Int → Int} {n k : Nat} (h : PT μ b n k) (hs : ∀ j, j = 6 ∨ j = 7 ∨ j = 9 ∨ j = 10 → μ' 183 j = μ 183 j) : PT μ' b n k := ⟨by rw [hs _ (by omega)]; exact h.1, by rw [hs _ (by omega)]; exact h.2.1, by rw [hs _ (by omega)]; exact h.2.2.1, fun z => by rw [hs _ (by omega)]; exact h.2.2.2 z⟩
theorem RQ.kind {μ : Mem} {b : Int → Int} {n N : Nat} {f K : Int} {e : ES} (h : RQ μ b n N f e) (hK : kOk K) (h0 : eF e = 0) : μ 183 9 = trK K ↔ (txt b n).1 (eK e) = K := by
  have hp := (h.2.2.2.2.2.2.1 h0).1.1
  rw [hp]
  exact ⟨fun z => trK_inj (tkK_ok b n _) hK z, fun z => by rw [z]⟩
theorem cb_is {d : Nat} {sc : SC} {μ : Mem} {b : Int → Int} {n N : Nat} {f K k' : Int} {e : ES} {R : Int → Mem → Prop} (hd : 1 ≤ d) (hE : RQ μ b n N f e) (hK : kOk K) (hk : trK K = k') (k0 : isE (txt b n) e K = false → R 0 μ) (k1 : isE (txt b n) e K = true → R 1 μ) : CAi mX10_is d sc [(2, 183), (0, k')] μ R := by
  have hf : μ 183 11 = eF e := hE.2.2.2.2.2.1
  refine byI (d' := 0) (by omega) (Q := R) ?_ (fun _ _ z => z)
  refine CTi_of mp_X10_is (Nat.le_of_ble_eq_true rfl) ?_
  refine s_X10_is_0 ⟨fun z => k0 (isE_no (by rw [← hf]; exact z)), fun z => ?_⟩
  rw [hf] at z
  rw [← hk]
  exact ⟨fun z2 => k0 (decide_eq_false (fun q => z2 ((hE.kind hK z).mpr q.2))), fun z2 => k1 (isE_t.mpr ⟨z, (hE.kind hK z).mp z2⟩)⟩
theorem cb_fails {d : Nat} {sc : SC} {μ : Mem} {b : Int → Int} {n N : Nat} {f w : Int} {e : ES} {R : Mem → Prop} (hd : 1 ≤ d) (hw : 1 ≤ w ∧ w ≤ 4) (hE : RQ μ b n N f e) (k : ∀ μ', RQ μ' b n N f (failE (txt b n) w e) → FRl f μ μ' → R μ') : CAv mX10_fails d sc [(2, 183), (0, w)] μ R := by
  have hE' := hE
  obtain ⟨a1, a2, a3, a4, a5, a6, a7, a8⟩ := hE
  refine byV (d' := 0) (by omega) (Q := R) ?_ (fun _ z => z)
  refine CTv_of mp_X10_fails (Nat.le_of_ble_eq_true rfl) ?_
  have fin : ∀ v : Int, eF e = 0 → v = (if (txt b n).1 (eK e) = 53 then 1 else w) → ∀ μ3, μ3 = mup μ 183 11 v → ∀ μ4, μ4 = mup μ3 183 12 (μ3 183 6) → R μ4 := by
    intro v z hv μ3 e3 μ4 e4
    have g : ∀ b' j : Int, (b' = 183 → j ≠ 11 ∧ j ≠ 12) → μ4 b' j = μ b' j := fun b' j q => by rw [e4, mup_ap, if_neg (fun y => (q y.1).2 y.2), e3, mup_ap, if_neg (fun y => (q y.1).1 y.2)]
    have ef : failE (txt b n) w e = (eK e, v, (txt b n).2.1 (eK e), eC e) := by unfold failE; rw [if_pos z, hv]
    have of := a5.fail (T := txt b n) hw
    have s6 : μ3 183 6 = (txt b n).2.1 (eK e) := by rw [e3, mup_ap, if_neg (fun y => by omega)]; exact (a7 z).1.2.1
    have hne : eF (failE (txt b n) w e) ≠ 0 := of.2
    refine k μ4 ⟨a1.same (g _ _ (by omega)) (fun j => g _ _ (by omega)), a2, a3, a4, of.1, ?_, fun y => absurd y hne, fun _ => ?_⟩ (fun b' j q1 q2 => g b' j (fun y => by have := q1 y; omega))
    · rw [ef, e4, mup_ap, if_neg (fun y => by omega), e3, mup_at]; rfl
    · rw [ef, e4, mup_at, s6]; rfl
  refine s_X10_fails_0 ⟨fun z => ⟨fun z2 => ?_, fun z2 => ?_⟩, fun z => ?_⟩
  · rw [a6] at z
    exact fin w z (by rw [if_neg (fun y => z2 ((hE'.kind (K := 53) (by unfold kOk; omega) z).mpr y))])
  · rw [a6] at z
    exact fin 1 z (by rw [if_pos ((hE'.kind (K := 53) (by unfold kOk; omega) z).mp z2)])
  · rw [a6] at z
    exact k μ (by rw [fail_no z]; exact hE') (FRl.refl _ _)
theorem cb_step {d : Nat} {sc : SC} {μ : Mem} {b : Int → Int} {n N : Nat} {f : Int} {e : ES} {R : Mem → Prop} (hd : 6 ≤ d) (hE : RQ μ b n N f e) (h0 : eF e = 0) (hk : (txt b n).1 (eK e) ≠ 52) (k : ∀ μ', RQ μ' b n N f (stepE e) → FRl f μ μ' → R μ') : CAv mX10_next d sc [(2, 183)] μ R := by
  obtain ⟨a1, a2, a3, a4, a5, a6, a7, a8⟩ := hE
  have st := step_y h0
  refine cb_next hd a1 (a7 h0).1.2.2.1 (fun μ' fr pt => k μ' ⟨fr.tm a1, a2, a3, a4, a5.step a2 hk, ?_, fun _ => ?_, fun y => absurd st.2.1 y⟩ fr.l)
  · rw [fr _ _ (by omega), st.2.1, a6, h0]
  · obtain ⟨c1, c2, c3⟩ := a7 h0
    refine ⟨by rw [st.1]; exact pt, by rw [fr _ _ (by omega), st.2.2.2]; exact c2, fun i hi => ?_⟩
    rw [fr _ _ (by omega)]
    have hs := st.2.2.2
    simp only [hs] at hi ⊢
    exact c3 i hi
theorem cb_eats {d : Nat} {sc : SC} {μ : Mem} {b : Int → Int} {n N : Nat} {f K k' : Int} {e : ES} {R : Int → Mem → Prop} (hd : 7 ≤ d) (hE : RQ μ b n N f e) (hK : kOk K) (hK2 : K ≠ 52) (hk : trK K = k') (k0 : isE (txt b n) e K = false → R 0 μ) (k1 : isE (txt b n) e K = true → ∀ μ', RQ μ' b n N f (stepE e) → FRl f μ μ' → R 1 μ') : CAi mX10_eats d sc [(2, 183), (0, k')] μ R := by
  refine byI (d' := 6) (by omega) (Q := R) ?_ (fun _ _ z => z)
  refine CTi_of mp_X10_eats (Nat.le_of_ble_eq_true rfl) ?_
  refine s_X10_eats_0 (cb_is (by omega) hE hK hk (fun y => ⟨fun q => absurd rfl q, fun _ => k0 y⟩) (fun y => ⟨fun _ => ?_, fun q => absurd q (by decide)⟩))
  have y2 := isE_t.mp y
  exact cb_step (Nat.le_refl _) hE y2.1 (by rw [y2.2]; exact hK2) (k1 y)
/-- eaten, or a fault: what was wanted -/
theorem cb_exp {d : Nat} {sc : SC} {μ : Mem} {b : Int → Int} {n N : Nat} {f K k' : Int} {e : ES} {X Y : Mem → Prop} (hd : 7 ≤ d) (hE : RQ μ b n N f e) (hK : kOk K) (hK2 : K ≠ 52) (hk : trK K = k') (kx : ∀ μ', RQ μ' b n N f (expE (txt b n) K e) → FRl f μ μ' → X μ') (ky : ∀ μ', RQ μ' b n N f (expE (txt b n) K e) → FRl f μ μ' → Y μ') : CAi mX10_eats d sc [(2, 183), (0, k')] μ (fun r μ' => (r ≠ 0 → X μ') ∧ (r = 0 → CAv mX10_fails d sc [(2, 183), (0, 2)] μ' Y)) := by
  refine cb_eats hd hE hK hK2 hk (fun y => ⟨fun q => absurd rfl q, fun _ => cb_fails (by omega) (by decide) hE (fun μ' r f' => ky μ' ?_ f')⟩) (fun y μ' r f' => ⟨fun _ => kx μ' ?_ f', fun q => absurd q (by decide)⟩)
  · unfold expE; rw [y, if_neg (by decide)]; exact r
  · unfold expE; rw [if_pos y]; exact r
theorem cb_codes {d : Nat} {sc : SC} {μ : Mem} {b : Int → Int} {n N : Nat} {f op x : Int} {e : ES} {R : Mem → Prop} (hd : 1 ≤ d) (hE : RQ μ b n N f e) (hx : eF e = 0 → x = trC op) (hl : eF e = 0 → f + (eC e).length < 900) (k : ∀ μ', RQ μ' b n N f (emitE op e) → FRl f μ μ' → R μ') : CAv mX10_codes d sc [(2, 183), (0, x)] μ R := by
  have hE' := hE
  obtain ⟨a1, a2, a3, a4, a5, a6, a7, a8⟩ := hE
  refine byV (d' := 0) (by omega) (Q := R) ?_ (fun _ z => z)
  refine CTv_of mp_X10_codes (Nat.le_of_ble_eq_true rfl) ?_
  refine s_X10_codes_0 ⟨fun z => ?_, fun z => ?_⟩
  · rw [a6] at z
    have hl := hl z
    obtain ⟨c1, c2, c3⟩ := a7 z
    rw [c2]
    refine ⟨by omega, by omega, ?_⟩
    intro μ5 e5
    have g5 : ∀ b' j : Int, (b' = 187 → j ≠ 473 + (f + (eC e).length)) → μ5 b' j = μ b' j := fun b' j q => by rw [e5, mup_ap, if_neg (fun y => q y.1 y.2)]
    rw [g5 187 472 (by omega), c2]
    refine ⟨by omega, ?_⟩
    intro μ9 e9
    have g9 : ∀ b' j : Int, (b' = 187 → j ≠ 472 ∧ j ≠ 473 + (f + (eC e).length)) → μ9 b' j = μ b' j := fun b' j q => by rw [e9, mup_ap, if_neg (fun y => (q y.1).1 y.2), g5 b' j (fun y => (q y).2)]
    have s := emit_y (op := op) z
    refine k μ9 ⟨a1.same (g9 _ _ (by omega)) (fun j => g9 _ _ (by omega)), a2, a3, a4, ⟨by rw [s.1]; exact a5.1, Or.inl s.2.1⟩, by rw [g9 _ _ (by omega), s.2.1, a6, z], fun _ => ⟨?_, ?_, fun i hi => ?_⟩, fun y => absurd s.2.1 y⟩ (fun b' j q1 q2 => g9 b' j (fun y => by have := q2 y; omega))
    · rw [s.1]; exact c1.same (fun j _ => g9 _ _ (by omega))
    · rw [e9, mup_at, s.2.2.2, List.length_append, List.length_singleton]; omega
    · have hs := s.2.2.2
      simp only [hs] at hi ⊢
      rw [List.length_append, List.length_singleton] at hi
      by_cases y : i = (eC e).length
      · subst y
        rw [e9, mup_ap, if_neg (fun y => by omega), e5, mup_ap, if_pos ⟨rfl, by omega⟩, hx z]
        simp
      · rw [g9 _ _ (fun _ => by omega), List.getElem_append_left (by omega)]
        exact c3 i (by omega)
  · rw [a6] at z
    exact k μ (by rw [emit_no z]; exact hE') (FRl.refl _ _)
theorem cb_goesIn {d : Nat} {sc : SC} {μ : Mem} {b : Int → Int} {n N : Nat} {f dep K : Int} {e : ES} {R : Int → Mem → Prop} (hd : 7 ≤ d) (hE : RQ μ b n N f e) (hK : isE (txt b n) e K = true) (hK2 : K ≠ 52) (hdep : dep ≤ 6) (k1 : dep < 6 → ∀ μ', RQ μ' b n N f (stepE e) → FRl f μ μ' → R 1 μ') (k0 : 6 ≤ dep → ∀ μ', RQ μ' b n N f (failE (txt b n) 4 e) → FRl f μ μ' → R 0 μ') : CAi mX10_goesIn d sc [(2, 183), (0, dep)] μ R := by
  have y2 := isE_t.mp hK
  refine byI (d' := 6) (by omega) (Q := R) ?_ (fun _ _ z => z)
  refine CTi_of mp_X10_goesIn (Nat.le_of_ble_eq_true rfl) ?_
  refine s_X10_goesIn_0 ⟨fun z => ⟨fun q => ?_, fun _ => ?_⟩, fun z => ?_⟩
  · rw [hE.2.2.2.2.2.1] at q; exact absurd y2.1 q
  · refine cb_step (Nat.le_refl _) hE y2.1 (by rw [y2.2]; exact hK2) (fun μ' r fr => ?_)
    have s := step_y y2.1
    have := r.2.2.2.2.2.1
    exact ⟨fun q => by omega, fun _ => k1 (by omega) μ' r fr⟩
  · refine cb_fails (by omega) (by decide) hE (fun μ' r fr => ?_)
    have h1 := (fail_f (T := txt b n) (w := 4) (by decide) y2.1).2.1
    have := r.2.2.2.2.2.1
    exact ⟨fun _ => ⟨fun _ => k0 (by omega) μ' r fr, fun q => by omega⟩, fun q => by omega⟩
theorem Lm.step {f : Int} {s : Nat} {e : ES} (h : Lm f s e) (h0 : eF e = 0) : Lm f (s + 1) (stepE e) := fun _ => by
  have st := step_y h0
  have := h h0
  rw [st.2.2.2, st.1]; omega
theorem Lm.emit {f : Int} {s : Nat} {op : Int} {e : ES} (h : Lm f (s + 1) e) : Lm f s (emitE op e) := fun z => by
  by_cases y : eF e = 0
  · have st := emit_y (op := op) y
    have := h y
    rw [st.2.2.2, st.1, List.length_append, List.length_singleton]; omega
  · rw [emit_no y] at z; exact absurd z y
theorem Lm.lt {f : Int} {s N : Nat} {e : ES} (h : Lm f (s + 1) e) (hN : N ≤ 900) (hk : eK e ≤ N) : eF e = 0 → f + (eC e).length < 900 := fun z => by have := h z; omega
theorem Lm.exp {T : TxT} {f K : Int} {s : Nat} {e : ES} (h : Lm f s e) : Lm f s (expE T K e) := fun z => by
  obtain ⟨a1, a2, a3⟩ := exp_ok z
  have st := step_y a1
  have := h a1
  rw [a3, st.2.2.2, st.1]; omega
theorem Lm.PG {T : TxT} {N s : Nat} {f mx b hh : Int} {g : ES → ES} {e : ES} (h : Lm f s e) (hg : PG T N mx b hh g) (hk : eK e ≤ N) : Lm f s (g e) := fun z => by
  by_cases y : eF e = 0
  · obtain ⟨_, _, q⟩ := (hg e).2 y hk
    obtain ⟨a1, a2, l, a3, a4, _⟩ := q z
    have := h y
    rw [a3, List.length_append]; omega
  · rw [(hg e).1 y] at z; exact absurd z y
def MX (μ : Mem) (mx : Int) : Prop := (μ 183 15 = 2 ∧ mx = 23) ∨ (μ 183 15 ≠ 2 ∧ mx = 21)
theorem MX.same {f mx : Int} {μ μ' : Mem} (h : MX μ mx) (fr : FRl f μ μ') : MX μ' mx := by unfold MX; rw [fr _ _ (by omega) (by omega)]; exact h
/-- what is asked of a method that reads a part of a law -/
def CY (md : MD) (dep : Int) (D : Nat) (b : Int → Int) (n N : Nat) (f mx : Int) (g : ES → ES) : Prop := ∀ (d : Nat) (sc : SC) (μ : Mem) (e : ES) (R : Mem → Prop), D ≤ d → RQ μ b n N f e → Lm f 0 e → MX μ mx → (∀ μ', RQ μ' b n N f (g e) → FRl f μ μ' → R μ') → CAv md d sc [(2, 183), (0, dep)] μ R
theorem CY.mono {md : MD} {dep : Int} {D D' : Nat} {b : Int → Int} {n N : Nat} {f mx : Int} {g : ES → ES} (hC : CY md dep D b n N f mx g) (hD : D ≤ D') : CY md dep D' b n N f mx g := fun d sc μ e R hd => hC d sc μ e R (by omega)
theorem CY.term {D : Nat} {b : Int → Int} {n N : Nat} {f mx dep ha : Int} {a : ES → ES} (hA : CY mX10_readAtom dep D b n N f mx a) (hP : PG (txt b n) N mx 0 ha a) (hD : 7 ≤ D) : CY mX10_readTerm dep (D + 1) b n N f mx (termE (txt b n) a) := by
  intro d sc μ e R hd hE hL hmx k
  have hT := hE.2.1
  have hN9 := hE.2.2.1
  refine byV (d' := D) (by omega) (Q := R) ?_ (fun _ z => z)
  refine CTv_of mp_X10_readTerm (Nat.le_of_ble_eq_true rfl) ?_
  refine s_X10_readTerm_0 (hA D sc μ e _ (Nat.le_refl _) hE hL hmx ?_)
  intro μ2 r2 f2
  have key : ∀ (r : Nat) (e1 : ES) (μ3 : Mem), RQ μ3 b n N f e1 → FRl f μ μ3 → Lm f 0 e1 → (eF e1 = 0 → N + 1 ≤ r + eK e1) → repE (fun e => isE (txt b n) e 34) (fun e => emitE 1034 (a (stepE e))) r e1 = termE (txt b n) a e →
      WQ mX10_readTerm D sc (ZV sc R) 5 [(2, 183), (0, dep)] [] μ3 := by
    intro r
    induction r with
    | zero =>
      intro e1 μ3 hE1 hF1 hL1 hr he
      have hne : eF e1 ≠ 0 := fun z => by have := hr z; have := hE1.2.2.2.2.1.1; omega
      rw [repE] at he
      refine s_X10_readTerm_5 (cb_eats hD hE1 (K := 34) (by unfold kOk; omega) (by decide) rfl (fun _ => ⟨fun _ => k μ3 (by rw [← he]; exact hE1) hF1, fun q => absurd rfl q⟩) (fun y => by rw [isE_no hne] at y; exact absurd y (by decide)))
    | succ r ih =>
      intro e1 μ3 hE1 hF1 hL1 hr he
      refine s_X10_readTerm_5 (cb_eats hD hE1 (K := 34) (by unfold kOk; omega) (by decide) rfl (fun y => ⟨fun _ => ?_, fun q => absurd rfl q⟩) (fun y μ6 r6 f6 => ⟨fun q => absurd q (by decide), fun _ => ?_⟩))
      · rw [rep_no y] at he
        exact k μ3 (by rw [← he]; exact hE1) hF1
      · have y2 := isE_t.mp y
        have st := step_y y2.1
        have hlt := hT.lt hE1.2.2.2.2.1.1 (by rw [y2.2]; decide)
        rw [repE, if_pos y] at he
        have L6 : Lm f 1 (stepE e1) := Lm.step (s := 0) hL1 y2.1
        refine hA D sc μ6 _ _ (Nat.le_refl _) r6 (fun z => by have := L6 z; omega) ((hmx.same hF1).same f6) ?_
        intro μ8 r8 f8
        have L8 : Lm f 1 (a (stepE e1)) := Lm.PG L6 hP (by rw [st.1]; omega)
        refine cb_codes (op := 1034) (by omega) r8 (fun _ => by decide) (L8.lt hN9 r8.2.2.2.2.1.1) ?_
        intro μ10 r10 f10
        refine ih _ μ10 r10 (((hF1.tr f6).tr f8).tr f10) L8.emit (fun z => ?_) he
        have z8 : eF (a (stepE e1)) = 0 := by
          by_cases q : eF (a (stepE e1)) = 0
          · exact q
          · rw [emit_no q] at z; exact absurd z q
        have m := emit_y (op := 1034) z8
        have pd := ((hP (stepE e1)).2 st.2.1 (by omega)).2.2 z8
        have := hr y2.1
        omega
  exact key 1000 (a e) μ2 r2 f2 (hL.PG hP hE.2.2.2.2.1.1) (fun _ => by omega) rfl
theorem CY.both {D : Nat} {b : Int → Int} {n N : Nat} {f mx dep ha : Int} {a : ES → ES} (hA : CY mX10_readUnit dep D b n N f mx a) (hP : PG (txt b n) N mx 1 ha a) (hD : 7 ≤ D) : CY mX10_readBoth dep (D + 1) b n N f mx (bothE (txt b n) a) := by
  intro d sc μ e R hd hE hL hmx k
  have hT := hE.2.1
  have hN9 := hE.2.2.1
  refine byV (d' := D) (by omega) (Q := R) ?_ (fun _ z => z)
  refine CTv_of mp_X10_readBoth (Nat.le_of_ble_eq_true rfl) ?_
  refine s_X10_readBoth_0 (hA D sc μ e _ (Nat.le_refl _) hE hL hmx ?_)
  intro μ2 r2 f2
  have key : ∀ (r : Nat) (e1 : ES) (μ3 : Mem), RQ μ3 b n N f e1 → FRl f μ μ3 → Lm f 0 e1 → (eF e1 = 0 → N + 1 ≤ r + eK e1) → repE (fun e => isE (txt b n) e 12) (fun e => emitE 1012 (a (stepE e))) r e1 = bothE (txt b n) a e →
      WQ mX10_readBoth D sc (ZV sc R) 5 [(2, 183), (0, dep)] [] μ3 := by
    intro r
    induction r with
    | zero =>
      intro e1 μ3 hE1 hF1 hL1 hr he
      have hne : eF e1 ≠ 0 := fun z => by have := hr z; have := hE1.2.2.2.2.1.1; omega
      rw [repE] at he
      refine s_X10_readBoth_5 (cb_eats hD hE1 (K := 12) (by unfold kOk; omega) (by decide) rfl (fun _ => ⟨fun _ => k μ3 (by rw [← he]; exact hE1) hF1, fun q => absurd rfl q⟩) (fun y => by rw [isE_no hne] at y; exact absurd y (by decide)))
    | succ r ih =>
      intro e1 μ3 hE1 hF1 hL1 hr he
      refine s_X10_readBoth_5 (cb_eats hD hE1 (K := 12) (by unfold kOk; omega) (by decide) rfl (fun y => ⟨fun _ => ?_, fun q => absurd rfl q⟩) (fun y μ6 r6 f6 => ⟨fun q => absurd q (by decide), fun _ => ?_⟩))
      · rw [rep_no y] at he
        exact k μ3 (by rw [← he]; exact hE1) hF1
      · have y2 := isE_t.mp y
        have st := step_y y2.1
        have hlt := hT.lt hE1.2.2.2.2.1.1 (by rw [y2.2]; decide)
        rw [repE, if_pos y] at he
        have L6 : Lm f 1 (stepE e1) := Lm.step (s := 0) hL1 y2.1
        refine hA D sc μ6 _ _ (Nat.le_refl _) r6 (fun z => by have := L6 z; omega) ((hmx.same hF1).same f6) ?_
        intro μ8 r8 f8
        have L8 : Lm f 1 (a (stepE e1)) := Lm.PG L6 hP (by rw [st.1]; omega)
        refine cb_codes (op := 1012) (by omega) r8 (fun _ => by decide) (L8.lt hN9 r8.2.2.2.2.1.1) ?_
        intro μ10 r10 f10
        refine ih _ μ10 r10 (((hF1.tr f6).tr f8).tr f10) L8.emit (fun z => ?_) he
        have z8 : eF (a (stepE e1)) = 0 := by
          by_cases q : eF (a (stepE e1)) = 0
          · exact q
          · rw [emit_no q] at z; exact absurd z q
        have m := emit_y (op := 1012) z8
        have pd := ((hP (stepE e1)).2 st.2.1 (by omega)).2.2 z8
        have := hr y2.1
        omega
  exact key 1000 (a e) μ2 r2 f2 (hL.PG hP hE.2.2.2.2.1.1) (fun _ => by omega) rfl
theorem CY.truth {D : Nat} {b : Int → Int} {n N : Nat} {f mx dep ha : Int} {a : ES → ES} (hA : CY mX10_readBoth dep D b n N f mx (bothE (txt b n) a)) (hP : PG (txt b n) N mx 1 ha (bothE (txt b n) a)) (hD : 7 ≤ D) : CY mX10_readTruth dep (D + 1) b n N f mx (truthE (txt b n) a) := by
  intro d sc μ e R hd hE hL hmx k
  have hT := hE.2.1
  have hN9 := hE.2.2.1
  refine byV (d' := D) (by omega) (Q := R) ?_ (fun _ z => z)
  refine CTv_of mp_X10_readTruth (Nat.le_of_ble_eq_true rfl) ?_
  refine s_X10_readTruth_0 (hA D sc μ e _ (Nat.le_refl _) hE hL hmx ?_)
  intro μ2 r2 f2
  have key : ∀ (r : Nat) (e1 : ES) (μ3 : Mem), RQ μ3 b n N f e1 → FRl f μ μ3 → Lm f 0 e1 → (eF e1 = 0 → N + 1 ≤ r + eK e1) → repE (fun e => isE (txt b n) e 13) (fun e => emitE 1013 ((bothE (txt b n) a) (stepE e))) r e1 = truthE (txt b n) a e →
      WQ mX10_readTruth D sc (ZV sc R) 5 [(2, 183), (0, dep)] [] μ3 := by
    intro r
    induction r with
    | zero =>
      intro e1 μ3 hE1 hF1 hL1 hr he
      have hne : eF e1 ≠ 0 := fun z => by have := hr z; have := hE1.2.2.2.2.1.1; omega
      rw [repE] at he
      refine s_X10_readTruth_5 (cb_eats hD hE1 (K := 13) (by unfold kOk; omega) (by decide) rfl (fun _ => ⟨fun _ => k μ3 (by rw [← he]; exact hE1) hF1, fun q => absurd rfl q⟩) (fun y => by rw [isE_no hne] at y; exact absurd y (by decide)))
    | succ r ih =>
      intro e1 μ3 hE1 hF1 hL1 hr he
      refine s_X10_readTruth_5 (cb_eats hD hE1 (K := 13) (by unfold kOk; omega) (by decide) rfl (fun y => ⟨fun _ => ?_, fun q => absurd rfl q⟩) (fun y μ6 r6 f6 => ⟨fun q => absurd q (by decide), fun _ => ?_⟩))
      · rw [rep_no y] at he
        exact k μ3 (by rw [← he]; exact hE1) hF1
      · have y2 := isE_t.mp y
        have st := step_y y2.1
        have hlt := hT.lt hE1.2.2.2.2.1.1 (by rw [y2.2]; decide)
        rw [repE, if_pos y] at he
        have L6 : Lm f 1 (stepE e1) := Lm.step (s := 0) hL1 y2.1
        refine hA D sc μ6 _ _ (Nat.le_refl _) r6 (fun z => by have := L6 z; omega) ((hmx.same hF1).same f6) ?_
        intro μ8 r8 f8
        have L8 : Lm f 1 ((bothE (txt b n) a) (stepE e1)) := Lm.PG L6 hP (by rw [st.1]; omega)
        refine cb_codes (op := 1013) (by omega) r8 (fun _ => by decide) (L8.lt hN9 r8.2.2.2.2.1.1) ?_
        intro μ10 r10 f10
        refine ih _ μ10 r10 (((hF1.tr f6).tr f8).tr f10) L8.emit (fun z => ?_) he
        have z8 : eF ((bothE (txt b n) a) (stepE e1)) = 0 := by
          by_cases q : eF ((bothE (txt b n) a) (stepE e1)) = 0
          · exact q
          · rw [emit_no q] at z; exact absurd z q
        have m := emit_y (op := 1013) z8
        have pd := ((hP (stepE e1)).2 st.2.1 (by omega)).2.2 z8
        have := hr y2.1
        omega
  exact key 1000 ((bothE (txt b n) a) e) μ2 r2 f2 (hL.PG hP hE.2.2.2.2.1.1) (fun _ => by omega) rfl
theorem CY.sum {D : Nat} {b : Int → Int} {n N : Nat} {f mx dep ha : Int} {a : ES → ES} (hA : CY mX10_readTerm dep D b n N f mx (termE (txt b n) a)) (hP : PG (txt b n) N mx 0 ha (termE (txt b n) a)) (hD : 7 ≤ D) : CY mX10_readSum dep (D + 1) b n N f mx (sumE (txt b n) a) := by
  intro d sc μ e R hd hE hL hmx k
  have hT := hE.2.1
  have hN9 := hE.2.2.1
  refine byV (d' := D) (by omega) (Q := R) ?_ (fun _ z => z)
  refine CTv_of mp_X10_readSum (Nat.le_of_ble_eq_true rfl) ?_
  refine s_X10_readSum_0 (hA D sc μ e _ (Nat.le_refl _) hE hL hmx ?_)
  intro μ2 r2 f2
  have key : ∀ (r : Nat) (e1 : ES) (μ3 : Mem), RQ μ3 b n N f e1 → FRl f μ μ3 → Lm f 0 e1 → (eF e1 = 0 → N + 1 ≤ r + eK e1) → repE (fun e => isE (txt b n) e 32 || isE (txt b n) e 33) (fun e => emitE (1000 + (txt b n).1 (eK e)) (termE (txt b n) a (stepE e))) r e1 = sumE (txt b n) a e →
      WQ mX10_readSum D sc (ZV sc R) 5 [(2, 183), (0, dep), (9, 0)] [] μ3 := by
    intro r
    induction r with
    | zero =>
      intro e1 μ3 hE1 hF1 hL1 hr he
      have hne : eF e1 ≠ 0 := fun z => by have := hr z; have := hE1.2.2.2.2.1.1; omega
      rw [repE] at he
      refine s_X10_readSum_5 (cb_is (by omega) hE1 (K := 32) (by unfold kOk; omega) rfl (fun _ => ⟨fun q => absurd rfl q, fun _ => cb_is (by omega) hE1 (K := 33) (by unfold kOk; omega) rfl (fun _ => ⟨fun _ => k μ3 (by rw [← he]; exact hE1) hF1, fun q => absurd rfl q⟩) (fun y => by rw [isE_no hne] at y; exact absurd y (by decide))⟩) (fun y => by rw [isE_no hne] at y; exact absurd y (by decide)))
    | succ r ih =>
      intro e1 μ3 hE1 hF1 hL1 hr he
      have body : ∀ (K x : Int), (K = 32 ∨ K = 33) → x = trC (1000 + K) → isE (txt b n) e1 K = true → CAv mX10_next D sc [(2, 183)] μ3 (fun μ6 => CAv mX10_readTerm D sc [(2, 183), (0, dep)] μ6 (fun μ8 => CAv mX10_codes D sc [(2, 183), (0, x)] μ8 (fun μ10 => WQ mX10_readSum D sc (ZV sc R) 5 [(2, 183), (0, dep), (9, 0)] [] μ10))) := by
        intro K x hK hx y
        have y2 := isE_t.mp y
        have hc : (isE (txt b n) e1 32 || isE (txt b n) e1 33) = true := by
          rcases hK with q | q
          · rw [q] at y; rw [y]; rfl
          · rw [q] at y; rw [y, Bool.or_true]
        have st := step_y y2.1
        have hlt := hT.lt hE1.2.2.2.2.1.1 (by rw [y2.2]; omega)
        rw [repE, if_pos hc] at he
        refine cb_step (by omega) hE1 y2.1 (by rw [y2.2]; omega) ?_
        intro μ6 r6 f6
        have L6 : Lm f 1 (stepE e1) := Lm.step (s := 0) hL1 y2.1
        refine hA D sc μ6 _ _ (Nat.le_refl _) r6 (fun z => by have := L6 z; omega) ((hmx.same hF1).same f6) ?_
        intro μ8 r8 f8
        have L8 : Lm f 1 (termE (txt b n) a (stepE e1)) := Lm.PG L6 hP (by rw [st.1]; omega)
        refine cb_codes (op := 1000 + (txt b n).1 (eK e1)) (by omega) r8 (fun _ => by rw [y2.2]; exact hx) (L8.lt hN9 r8.2.2.2.2.1.1) ?_
        intro μ10 r10 f10
        refine ih _ μ10 r10 (((hF1.tr f6).tr f8).tr f10) L8.emit (fun z => ?_) he
        have z8 : eF (termE (txt b n) a (stepE e1)) = 0 := by
          by_cases q : eF (termE (txt b n) a (stepE e1)) = 0
          · exact q
          · rw [emit_no q] at z; exact absurd z q
        have m := emit_y (op := 1000 + (txt b n).1 (eK e1)) z8
        have pd := ((hP (stepE e1)).2 st.2.1 (by omega)).2.2 z8
        have := hr y2.1
        omega
      refine s_X10_readSum_5 (cb_is (by omega) hE1 (K := 32) (by unfold kOk; omega) rfl (fun y => ⟨fun q => absurd rfl q, fun _ => cb_is (by omega) hE1 (K := 33) (by unfold kOk; omega) rfl (fun y2 => ⟨fun _ => ?_, fun q => absurd rfl q⟩) (fun y2 => ⟨fun q => absurd q (by decide), fun _ => ?_⟩)⟩) (fun y => ⟨fun _ => ?_, fun q => absurd q (by decide)⟩))
      · rw [rep_no (by rw [y, y2]; rfl)] at he
        exact k μ3 (by rw [← he]; exact hE1) hF1
      · have yk := isE_t.mp y2
        have k9 := (hE1.kind (K := 33) (by unfold kOk; omega) yk.1).mpr yk.2
        exact ⟨fun _ => body 33 3001 (Or.inr rfl) (by decide) y2, fun q => by rw [k9] at q; exact absurd q (by decide)⟩
      · have yk := isE_t.mp y
        have k9 := (hE1.kind (K := 32) (by unfold kOk; omega) yk.1).mpr yk.2
        exact ⟨fun q => absurd k9 q, fun _ => body 32 3000 (Or.inl rfl) (by decide) y⟩
  exact key 1000 (termE (txt b n) a e) μ2 r2 f2 (hL.PG hP hE.2.2.2.2.1.1) (fun _ => by omega) rfl

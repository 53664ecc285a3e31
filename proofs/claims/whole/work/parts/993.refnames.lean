/-! THE REFERENCE READS: namings -/
theorem MP.addR {f f' : Int → Int} {np a b t s : Int} {P : PlanT} (h : MP f np P) (h8 : 0 ≤ pN P ∧ pN P < 8) (h6 : np ≤ 6) (e0 : f' 0 = pN P + 1) (e1 : f' (1 + 4 * pN P) = a) (e2 : f' (2 + 4 * pN P) = b) (e3 : f' (3 + 4 * pN P) = t) (e4 : f' (4 + 4 * pN P) = s) (ho : ∀ i, i ≠ 0 → 0 ≤ i → i < 40 → (i < 1 + 4 * pN P ∨ 4 + 4 * pN P < i) → f' i = f i) : MP f' np (addN P a b t s) := by
  obtain ⟨h1, h2, h3, h4⟩ := h
  refine ⟨e0, fun k k0 k1 => ?_, fun q q0 q1 => (ho _ (by omega) (by omega) (by omega) (by omega)).trans (h3 q q0 q1), (ho _ (by omega) (by omega) (by omega) (by omega)).trans h4⟩
  have k2 : k < pN P + 1 := k1
  by_cases hk : k = pN P
  · have e := add_new P a b t s
    subst hk
    rw [e.1, e.2.1, e.2.2.1, e.2.2.2]
    exact ⟨e1, e2, e3, e4⟩
  · have e := add_old P a b t s hk
    rw [e.1, e.2.1, e.2.2.1, e.2.2.2]
    have x := h2 k k0 (by omega)
    exact ⟨(ho _ (by omega) (by omega) (by omega) (by omega)).trans x.1, (ho _ (by omega) (by omega) (by omega) (by omega)).trans x.2.1, (ho _ (by omega) (by omega) (by omega) (by omega)).trans x.2.2.1, (ho _ (by omega) (by omega) (by omega) (by omega)).trans x.2.2.2⟩
/-- the plan's entry k alone is written -/
def FRk (k : Int) (μ μ' : Mem) : Prop := ∀ b j, (b = 183 → j < 6 ∨ j = 8 ∨ 15 < j) → (b = 187 → j < 472 ∧ (j < 32 + 4 * k ∨ 35 + 4 * k < j)) → μ' b j = μ b j
theorem FRl.k {c : Int} {μ1 μ μ' : Mem} (h0 : FRk c μ μ1) (h : FRl 0 μ1 μ') : FRk c μ μ' := fun b j q1 q2 => by rw [h b j (fun y => by have := q1 y; omega) (fun y => by have := q2 y; omega)]; exact h0 b j q1 q2
theorem FRk.put {c x v : Int} {μ1 μ μ' : Mem} (h0 : FRk c μ μ1) (e : μ' = mup μ1 187 x v) (hx : 32 + 4 * c ≤ x ∧ x ≤ 35 + 4 * c) : FRk c μ μ' := fun b j q1 q2 => by rw [e, mup_ap, if_neg (fun y => by have := q2 y.1; omega)]; exact h0 b j q1 q2
theorem cb_readNames {d : Nat} {sc : SC} {μ : Mem} {b : Int → Int} {n N : Nat} {g : GS} {R : Mem → Prop} (hd : 9 ≤ d) (hL : LR μ b n N g) (h0 : eF (gE g) = 0) (hK : (txt b n).1 (eK (gE g)) = 2) (hp : 0 ≤ hP (gH g) ∧ hP (gH g) ≤ 6) (h8 : 0 ≤ pN (gP g) ∧ pN (gP g) ≤ 8)
    (k : ∀ μ', LR μ' b n N (namesG (txt b n) g) → FRq μ μ' → R μ') : CAv mX10_readNames d sc [(2, 183)] μ R := by
  obtain ⟨hE, hL2⟩ := hL
  obtain ⟨hG, h3⟩ := hL2 h0
  have hN9 := hE.2.2.1
  have h31 : μ 187 31 = pN (gP g) := hG.2.2.2.2.1.1
  refine byV (d' := 8) (by omega) (Q := R) ?_ (fun _ z => z)
  refine CTv_of mp_X10_readNames (Nat.le_of_ble_eq_true rfl) ?_
  refine s_X10_readNames_0 ?_
  rw [h31]
  rintro _ rfl
  refine ⟨fun z => ⟨fun _ => ?_, fun q => ?_⟩, fun z => ?_⟩
  rotate_left
  · rw [hE.2.2.2.2.2.1] at q; exact absurd h0 q
  · refine cb_fails (by omega) (by decide) hE (fun μ' r fr => ?_)
    have hne : eF (failE (txt b n) 4 (gE g)) ≠ 0 := (hE.2.2.2.2.1.fail (T := txt b n) (w := 4) (by decide)).2
    refine ⟨fun q => ?_, fun _ => k μ' ⟨?_, fun y => ?_⟩ fr.q⟩
    · rw [r.2.2.2.2.2.1] at q; exact absurd q hne
    · unfold namesG; rw [if_pos (by omega)]; exact r
    · unfold namesG at y; rw [if_pos (by omega)] at y; exact absurd y hne
  have hNG : namesG (txt b n) g = ((names4 (txt b n) g).2, gH g, addN (gP g) (names1 (txt b n) g).1 (names2 (txt b n) g).1 (names3 (txt b n) g).1 (names4 (txt b n) g).1, gO g) := by unfold namesG; rw [if_neg (by omega)]
  generalize hc : pN (gP g) = c at *
  have FQ : ∀ {μ' : Mem}, FRk c μ μ' → FRq μ μ' := fun h b' j q1 q2 => h b' j q1 (fun y => by have := q2 y; omega)
  have key : ∀ (r : Nat) (x : Int × ES) (μ1 : Mem), RQ μ1 b n N 0 x.2 → FRk c μ μ1 → (eF x.2 = 0 → μ1 187 (32 + 4 * c) = (names1 (txt b n) g).1 ∧ μ1 187 (33 + 4 * c) = (names2 (txt b n) g).1 ∧ μ1 187 (34 + 4 * c) = (names3 (txt b n) g).1 ∧ μ1 187 (35 + 4 * c) = x.1 ∧ N + 1 ≤ r + eK x.2) → repA (fun x : Int × ES => isE (txt b n) x.2 4) (sureB (txt b n)) r x = names4 (txt b n) g →
      WQ mX10_readNames 8 sc (ZV sc R) 144 [(2, 183), (9, 0), (0, 32 + 4 * c)] [] μ1 := by
    have fin : ∀ (x : Int × ES) (μ1 : Mem), names4 (txt b n) g = x → RQ μ1 b n N 0 x.2 → FRk c μ μ1 → (eF x.2 = 0 → μ1 187 (32 + 4 * c) = (names1 (txt b n) g).1 ∧ μ1 187 (33 + 4 * c) = (names2 (txt b n) g).1 ∧ μ1 187 (34 + 4 * c) = (names3 (txt b n) g).1 ∧ μ1 187 (35 + 4 * c) = x.1) → (μ1 183 11 ≠ 0 → R μ1) ∧ (μ1 183 11 = 0 → (-2147483648 ≤ (μ1 187 31) + 1 ∧ (μ1 187 31) + 1 < 2147483648) ∧ (∀ μ6, μ6 = mup μ1 187 31 ((μ1 187 31) + 1) → R μ6)) := by
      intro x μ1 hx hE1 hF1 hv
      have h11 := hE1.2.2.2.2.2.1
      have eE : gE (namesG (txt b n) g) = x.2 := by rw [hNG]; show (names4 (txt b n) g).2 = _; rw [hx]
      refine ⟨fun z => k μ1 ⟨by rw [eE]; exact hE1, fun y => ?_⟩ (FQ hF1), fun z => ?_⟩
      · rw [eE] at y; omega
      · have z0 : eF x.2 = 0 := by omega
        obtain ⟨v1, v2, v3, v4⟩ := hv z0
        have e31 : μ1 187 31 = c := by rw [hF1 _ _ (by omega) (by omega)]; exact h31
        rw [e31]
        refine ⟨by omega, ?_⟩
        intro μ6 e6
        have g6 : ∀ b' j : Int, (b' = 187 → j ≠ 31) → μ6 b' j = μ1 b' j := fun b' j q => by rw [e6, mup_ap, if_neg (fun w => q w.1 w.2)]
        have row : ∀ j : Int, j < 472 → j ≠ 31 → (j < 32 + 4 * c ∨ 35 + 4 * c < j) → μ6 187 j = μ 187 j := fun j q1 q2 q3 => by rw [g6 _ _ (fun _ => q2)]; exact hF1 _ _ (by omega) (fun _ => ⟨q1, q3⟩)
        refine k μ6 ⟨by rw [eE]; exact hE1.row (fun b' j q => g6 b' j (fun w => by have := q w; omega)), fun _ => ?_⟩ ((FQ hF1).tr (fun b' j q1 q2 => g6 b' j (fun w => by have := q2 w; omega)))
        rw [hNG]
        obtain ⟨q1, q2, q3, q4, q5, q6⟩ := hG
        refine ⟨⟨by rw [row _ (by omega) (by omega) (by omega)]; exact q1, by rw [row _ (by omega) (by omega) (by omega)]; exact q2, fun q z1 z2 => by have z2' : q < hP (gH g) := z2; rw [row _ (by omega) (by omega) (by omega), row _ (by omega) (by omega) (by omega), row _ (by omega) (by omega) (by omega)]; exact q3 q z1 z2', fun q z1 z2 => by rw [row _ (by omega) (by omega) (by omega), row _ (by omega) (by omega) (by omega), row _ (by omega) (by omega) (by omega)]; exact q4 q z1 z2, ?_, fun l l0 l1 => by rw [row _ (by omega) (by omega) (by omega), row _ (by omega) (by omega) (by omega), row _ (by omega) (by omega) (by omega)]; exact q6 l l0 l1⟩, by rw [row _ (by omega) (by omega) (by omega)]; exact h3⟩
        refine q5.addR (by rw [hc]; omega) hp.2 ?_ ?_ ?_ ?_ ?_ (fun i i0 i1 i2 i3 => row _ (by omega) (by omega) (by rw [hc] at i3; omega))
        · show μ6 187 (31 + 0) = _
          rw [hc, e6]; exact mup_at _ _ _ _
        · show μ6 187 (31 + (1 + 4 * pN (gP g))) = _
          rw [hc, g6 _ _ (by omega), show 31 + (1 + 4 * c) = 32 + 4 * c by omega]; exact v1
        · show μ6 187 (31 + (2 + 4 * pN (gP g))) = _
          rw [hc, g6 _ _ (by omega), show 31 + (2 + 4 * c) = 33 + 4 * c by omega]; exact v2
        · show μ6 187 (31 + (3 + 4 * pN (gP g))) = _
          rw [hc, g6 _ _ (by omega), show 31 + (3 + 4 * c) = 34 + 4 * c by omega]; exact v3
        · show μ6 187 (31 + (4 + 4 * pN (gP g))) = _
          rw [hc, g6 _ _ (by omega), show 31 + (4 + 4 * c) = 35 + 4 * c by omega, v4, hx]
    intro r
    induction r with
    | zero =>
      intro x μ1 hE1 hF1 hv he
      have hne : eF x.2 ≠ 0 := fun z => by have := (hv z).2.2.2.2; have := hE1.2.2.2.2.1.1; omega
      rw [repA] at he
      have h11 := hE1.2.2.2.2.2.1
      exact s_X10_readNames_144 ⟨fun _ => fin x μ1 he.symm hE1 hF1 (fun z => absurd z hne), fun q => by omega⟩
    | succ r ih =>
      intro x μ1 hE1 hF1 hv he
      have h11 := hE1.2.2.2.2.2.1
      have hv' := fun z => (⟨(hv z).1, (hv z).2.1, (hv z).2.2.1, (hv z).2.2.2.1⟩ : μ1 187 (32 + 4 * c) = (names1 (txt b n) g).1 ∧ μ1 187 (33 + 4 * c) = (names2 (txt b n) g).1 ∧ μ1 187 (34 + 4 * c) = (names3 (txt b n) g).1 ∧ μ1 187 (35 + 4 * c) = x.1)
      refine s_X10_readNames_144 ⟨fun z => fin x μ1 (by rw [← he]; exact repA_no (c := fun x : Int × ES => isE (txt b n) x.2 4) (x := x) (isE_no (by omega))) hE1 hF1 hv', fun z => ?_⟩
      refine cb_eats (by omega) hE1 (K := 4) (by unfold kOk; omega) (by decide) rfl (fun y => ⟨fun _ => fin x μ1 (by rw [← he]; exact repA_no (c := fun x : Int × ES => isE (txt b n) x.2 4) (x := x) y) hE1 hF1 hv', fun q => absurd rfl q⟩) (fun y μ8 r8 f8 => ⟨fun q => absurd q (by decide), fun _ => ⟨by omega, ?_⟩⟩)
      refine cb_takes (by omega) r8 (fun v μ17 r17 f17 hvv => ⟨by omega, ?_⟩)
      intro μ19 e19
      rw [repA_yes (c := fun x : Int × ES => isE (txt b n) x.2 4) (x := x) y] at he
      have F17 : FRk c μ μ17 := FRl.k (FRl.k hF1 f8) f17
      have F19 := F17.put e19 (by omega)
      have g19 : ∀ b' j : Int, (b' = 187 → j ≠ 32 + 4 * c + 3) → μ19 b' j = μ17 b' j := fun b' j q => by rw [e19, mup_ap, if_neg (fun w => q w.1 w.2)]
      refine ih (sureB (txt b n) x) μ19 (r17.row (fun b' j q => g19 b' j (fun w => by have := q w; omega))) F19 (fun w => ?_) he
      have y2 := isE_t.mp y
      obtain ⟨u1, u2, u3, u4, u5⟩ := hv y2.1
      have keep : ∀ j : Int, j < 472 → j ≠ 35 + 4 * c → μ19 187 j = μ1 187 j := fun j q1 q2 => by rw [g19 _ _ (fun _ => by omega), f17.r.row q1, f8.r.row q1]
      refine ⟨by rw [keep _ (by omega) (by omega)]; exact u1, by rw [keep _ (by omega) (by omega)]; exact u2, by rw [keep _ (by omega) (by omega)]; exact u3, ?_, ?_⟩
      · rw [e19, mup_ap, if_pos ⟨rfl, by omega⟩]; exact hvv w
      · obtain ⟨a1, a2, a3, _⟩ := num_ok (T := txt b n) (lo := 0) (hi := 10) (e := stepE x.2) w
        have s1 := step_y y2.1
        have s2 := step_y a1
        have e2 : (sureB (txt b n) x).2 = stepE (stepE x.2) := by show (numE (txt b n) 0 10 (stepE x.2)).2 = _; rw [a3]
        rw [e2]
        omega
  have at84 : ∀ μ1 : Mem, RQ μ1 b n N 0 (sameE (txt b n) (names1 (txt b n) g)) → FRk c μ μ1 → (eF (sameE (txt b n) (names1 (txt b n) g)) = 0 → μ1 187 (32 + 4 * c) = (names1 (txt b n) g).1) → WQ mX10_readNames 8 sc (ZV sc R) 84 [(2, 183), (9, 0), (0, 32 + 4 * c)] [] μ1 := by
    intro μ1 hE1 hF1 hv1
    have e3 : μ1 187 3 = hP (gH g) := by rw [hF1 _ _ (by omega) (by omega)]; exact h3
    refine s_X10_readNames_84 ⟨by omega, ?_⟩
    rw [e3]
    refine ⟨by omega, cb_takes (by omega) hE1 (fun v2 μ5 r5 f5 hv2 => ⟨by omega, ?_⟩)⟩
    intro μ7 e7
    have g7 : ∀ b' j : Int, (b' = 187 → j ≠ 32 + 4 * c + 1) → μ7 b' j = μ5 b' j := fun b' j q => by rw [e7, mup_ap, if_neg (fun w => q w.1 w.2)]
    have r7 : RQ μ7 b n N 0 (names2 (txt b n) g).2 := r5.row (fun b' j q => g7 b' j (fun w => by have := q w; omega))
    have F7 : FRk c μ μ7 := (FRl.k hF1 f5).put e7 (by omega)
    have last : ∀ μ9 : Mem, RQ μ9 b n N 0 (expE (txt b n) 3 (names2 (txt b n) g).2) → FRl 0 μ7 μ9 → (-2147483648 ≤ 32 + 4 * c + 2 ∧ 32 + 4 * c + 2 < 2147483648) ∧ CAi mX10_takes 8 sc [(2, 183), (0, 0), (0, 99)] μ9 (fun r12 μ13 => (0 ≤ 32 + 4 * c + 2 ∧ 32 + 4 * c + 2 < 1373) ∧ (∀ μ15, μ15 = mup μ13 187 (32 + 4 * c + 2) r12 → (-2147483648 ≤ 32 + 4 * c + 3 ∧ 32 + 4 * c + 3 < 2147483648) ∧ (0 ≤ 32 + 4 * c + 3 ∧ 32 + 4 * c + 3 < 1373) ∧ (∀ μ18, μ18 = mup μ15 187 (32 + 4 * c + 3) 10 → WQ mX10_readNames 8 sc (ZV sc R) 144 [(2, 183), (9, 0), (0, 32 + 4 * c)] [] μ18))) := by
      intro μ9 r9 f9
      refine ⟨by omega, cb_takes (by omega) r9 (fun v3 μ13 r13 f13 hv3 => ⟨by omega, ?_⟩)⟩
      intro μ15 e15
      refine ⟨by omega, by omega, ?_⟩
      intro μ18 e18
      have F9 := FRl.k (FRl.k F7 f9) f13
      have F18 : FRk c μ μ18 := (F9.put e15 (by omega)).put e18 (by omega)
      have g18 : ∀ b' j : Int, (b' = 187 → j ≠ 32 + 4 * c + 2 ∧ j ≠ 32 + 4 * c + 3) → μ18 b' j = μ13 b' j := fun b' j q => by rw [e18, mup_ap, if_neg (fun w => (q w.1).2 w.2), e15, mup_ap, if_neg (fun w => (q w.1).1 w.2)]
      refine key 1000 (10, (names3 (txt b n) g).2) μ18 (r13.row (fun b' j q => g18 b' j (fun w => by have := q w; omega))) F18 (fun w => ?_) rfl
      have z3 : eF (names3 (txt b n) g).2 = 0 := w
      have sg3 := SG.num (T := txt b n) (lo := 0) (hi := 99) (e := expE (txt b n) 3 (names2 (txt b n) g).2) z3
      have sg2e := SG.exp (T := txt b n) (K := 3) (e := (names2 (txt b n) g).2) sg3.1
      have sg2 := SG.num (T := txt b n) (lo := 0) (hi := hP (gH g) - 1) (e := sameE (txt b n) (names1 (txt b n) g)) sg2e.1
      refine ⟨?_, ?_, ?_, ?_, by omega⟩
      · rw [g18 _ _ (by omega), f13.r.row (by omega), f9.r.row (by omega), g7 _ _ (by omega), f5.r.row (by omega)]; exact hv1 sg2.1
      · rw [g18 _ _ (by omega), f13.r.row (by omega), f9.r.row (by omega), e7, mup_ap, if_pos ⟨rfl, by omega⟩]; exact hv2 sg2e.1
      · rw [e18, mup_ap, if_neg (by omega), e15, mup_ap, if_pos ⟨rfl, by omega⟩]; exact hv3 z3
      · rw [e18, mup_ap, if_pos ⟨rfl, by omega⟩]
    exact cb_exp (by omega) r7 (K := 3) (by unfold kOk; omega) (by decide) rfl last last
  refine cb_step (by omega) hE h0 (by rw [hK]; decide) (fun μ6 r6 f6 => ⟨by omega, by omega, ?_⟩)
  rintro _ rfl
  rw [f6.r.row (by omega), h3]
  refine ⟨by omega, cb_takes (by omega) r6 (fun v1 μ13 r13 f13 hv1 => ⟨by omega, ?_⟩)⟩
  intro μ15 e15
  have g15 : ∀ b' j : Int, (b' = 187 → j ≠ 32 + 4 * c) → μ15 b' j = μ13 b' j := fun b' j q => by rw [e15, mup_ap, if_neg (fun w => q w.1 w.2)]
  have r15 : RQ μ15 b n N 0 (names1 (txt b n) g).2 := r13.row (fun b' j q => g15 b' j (fun w => by have := q w; omega))
  have F15 : FRk c μ μ15 := (FRl.k (FRl.k (fun _ _ _ _ => rfl) f6) f13).put e15 (by omega)
  have s15 : μ15 187 (32 + 4 * c) = v1 := by rw [e15, mup_at]
  refine cb_is (by omega) r15 (K := 50) (by unfold kOk; omega) rfl (fun y => ⟨fun _ => ?_, fun q => absurd rfl q⟩) (fun y => ⟨fun q => absurd q (by decide), fun _ => ⟨by omega, ?_⟩⟩)
  · have eS : sameE (txt b n) (names1 (txt b n) g) = (names1 (txt b n) g).2 := by unfold sameE; rw [if_neg (fun w => by rw [y] at w; exact absurd w.1 (by decide))]
    exact at84 μ15 (by rw [eS]; exact r15) F15 (fun w => by rw [eS] at w; rw [s15]; exact hv1 w)
  · have y2 := isE_t.mp y
    have h10 : μ15 183 10 = (txt b n).2.2 (eK (names1 (txt b n) g).2) := (r15.2.2.2.2.2.2.1 y2.1).1.2.2.2 y2.2
    have ev : v1 = (names1 (txt b n) g).1 := hv1 y2.1
    rw [h10, s15, ev]
    refine ⟨fun w => ?_, fun w => ?_⟩
    · have eS : sameE (txt b n) (names1 (txt b n) g) = (names1 (txt b n) g).2 := by unfold sameE; rw [if_neg (fun u => w u.2)]
      exact at84 μ15 (by rw [eS]; exact r15) F15 (fun _ => by rw [s15]; exact ev)
    · have eS : sameE (txt b n) (names1 (txt b n) g) = failE (txt b n) 3 (names1 (txt b n) g).2 := by unfold sameE; rw [if_pos ⟨y, w⟩]
      refine cb_fails (by omega) (by decide) r15 (fun μ22 r22 f22 => at84 μ22 (by rw [eS]; exact r22) (FRl.k F15 f22) (fun u => ?_))
      rw [eS] at u
      exact absurd u (r15.2.2.2.2.1.fail (T := txt b n) (w := 3) (by decide)).2

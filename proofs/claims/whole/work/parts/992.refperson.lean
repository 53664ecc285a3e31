/-! THE REFERENCE READS: persons, namings -/
def FRq (μ μ' : Mem) : Prop := ∀ b j, (b = 183 → j < 6 ∨ j = 8 ∨ 15 < j) → (b = 187 → j = 0 ∨ (71 ≤ j ∧ j < 472)) → μ' b j = μ b j
theorem FRq.refl (μ : Mem) : FRq μ μ := fun _ _ _ _ => rfl
theorem FRq.tr {μ1 μ2 μ3 : Mem} (h : FRq μ1 μ2) (h' : FRq μ2 μ3) : FRq μ1 μ3 := fun b j q1 q2 => by rw [h' b j q1 q2]; exact h b j q1 q2
theorem FRl.q {μ μ' : Mem} (h : FRl 0 μ μ') : FRq μ μ' := fun b j q1 q2 => h b j (fun y => by have := q1 y; omega) (fun y => by have := q2 y; omega)
def LR (μ : Mem) (b : Int → Int) (n N : Nat) (g : GS) : Prop := RQ μ b n N 0 (gE g) ∧ (eF (gE g) = 0 → GR μ (hP (gH g)) g ∧ μ 187 3 = hP (gH g))
theorem repA_no {α : Type} {c : α → Bool} {g : α → α} {n : Nat} {x : α} (h : c x = false) : repA c g n x = x := by
  cases n with
  | zero => rfl
  | succ n => rw [repA, h, if_neg (by decide)]
theorem repA_yes {α : Type} {c : α → Bool} {g : α → α} {n : Nat} {x : α} (h : c x = true) : repA c g (n + 1) x = repA c g n (g x) := by rw [repA, if_pos h]
theorem flagC_no {T : TxT} {g : GS} (h : eF (gE g) ≠ 0) : flagC T g = false := by unfold flagC; rw [isE_no h, isE_no h, isE_no h]; rfl
theorem cb_readPerson {d : Nat} {sc : SC} {μ : Mem} {b : Int → Int} {n N : Nat} {g : GS} {R : Mem → Prop} (hd : 10 ≤ d) (hL : LR μ b n N g) (h0 : eF (gE g) = 0) (hK : (txt b n).1 (eK (gE g)) = 1) (hb : (1 ≤ hR (gH g) ∧ hR (gH g) ≤ 8) ∧ (1 ≤ hC (gH g) ∧ hC (gH g) ≤ 8)) (hp : 0 ≤ hP (gH g) ∧ hP (gH g) ≤ 6) (h8 : 0 ≤ pN (gP g) ∧ pN (gP g) ≤ 8)
    (k : ∀ μ', LR μ' b n N (personG (txt b n) g) → FRq μ μ' → R μ') : CAv mX10_readPerson d sc [(2, 183)] μ R := by
  obtain ⟨hE, hL2⟩ := hL
  obtain ⟨hG, h3⟩ := hL2 h0
  have hN9 := hE.2.2.1
  have hcells : 1 ≤ hR (gH g) * hC (gH g) ∧ hR (gH g) * hC (gH g) ≤ 64 := by
    have h1 : 1 ≤ hR (gH g) * hC (gH g) := Int.mul_pos (by omega) (by omega)
    have h2 : hR (gH g) * hC (gH g) ≤ 8 * 8 := Int.mul_le_mul hb.1.2 hb.2.2 (by omega) (by decide)
    omega
  refine byV (d' := 9) (by omega) (Q := R) ?_ (fun _ z => z)
  refine CTv_of mp_X10_readPerson (Nat.le_of_ble_eq_true rfl) ?_
  refine s_X10_readPerson_0 ?_
  rw [h3]
  rintro _ rfl
  refine ⟨fun z => ⟨fun _ => ?_, fun q => ?_⟩, fun z => ?_⟩
  rotate_left
  · rw [hE.2.2.2.2.2.1] at q; exact absurd h0 q
  · refine cb_fails (by omega) (by decide) hE (fun μ' r fr => ?_)
    have hne : eF (failE (txt b n) 4 (gE g)) ≠ 0 := (hE.2.2.2.2.1.fail (T := txt b n) (w := 4) (by decide)).2
    refine ⟨fun q => ?_, fun _ => k μ' ⟨?_, fun y => ?_⟩ fr.q⟩
    · rw [r.2.2.2.2.2.1] at q; exact absurd q hne
    · unfold personG; rw [if_pos (by omega)]; exact r
    · unfold personG at y; rw [if_pos (by omega)] at y; exact absurd y hne
  have hPG : personG (txt b n) g = moreP (person2 (txt b n) g) := by unfold personG; rw [if_neg (by omega)]
  refine cb_step (by omega) hE h0 (by rw [hK]; decide) (fun μ6 r6 f6 => ?_)
  rw [f6.r.row (by omega), f6.r.row (by omega), hG.1, hG.2.1]
  refine ⟨by omega, by omega, by omega, cb_takes (by omega) r6 (fun v μ13 r13 f13 hv => ⟨by omega, ?_⟩)⟩
  intro μ15 e15
  have g15 : ∀ b' j : Int, (b' = 187 → j ≠ 64 + hP (gH g)) → μ15 b' j = μ13 b' j := fun b' j q => by rw [e15, mup_ap, if_neg (fun y => q y.1 y.2)]
  have r15 : RQ μ15 b n N 0 (gE (person1 (txt b n) g)) := r13.row (fun b' j q => g15 b' j (fun y => by have := q y; omega))
  have row : ∀ j : Int, j < 472 → j ≠ 64 + hP (gH g) → μ15 187 j = μ 187 j := fun j q1 q2 => by rw [g15 _ _ (fun _ => q2), f13.r.row q1, f6.r.row q1]
  have F15 : FRq μ μ15 := fun b' j q1 q2 => by rw [g15 b' j (fun y => by have := q2 y; omega), f13.q b' j q1 q2]; exact f6.q b' j q1 q2
  have G15 : eF (gE (person1 (txt b n) g)) = 0 → GR μ15 (hP (gH g) + 1) (person1 (txt b n) g) := fun y => by
    obtain ⟨q1, q2, q3, q4, q5, q6⟩ := hG
    have hv' := hv y
    refine ⟨by rw [row _ (by omega) (by omega)]; exact q1, by rw [row _ (by omega) (by omega)]; exact q2, fun q z1 z2 => ?_, fun q z1 z2 => by rw [row _ (by omega) (by omega), row _ (by omega) (by omega), row _ (by omega) (by omega)]; exact q4 q (by omega) z2, ?_, fun l l0 l1 => by rw [row _ (by omega) (by omega), row _ (by omega) (by omega), row _ (by omega) (by omega)]; exact q6 l l0 l1⟩
    · show μ15 187 (13 + q) = setA (hLoud (gH g)) (hP (gH g)) 0 q ∧ μ15 187 (19 + q) = setA (hDeaf (gH g)) (hP (gH g)) 0 q ∧ μ15 187 (25 + q) = setA (hVoice (gH g)) (hP (gH g)) 0 q
      rw [row (13 + q) (by omega) (by omega), row (19 + q) (by omega) (by omega), row (25 + q) (by omega) (by omega)]
      by_cases w : q = hP (gH g)
      · rw [w, setA_at, setA_at, setA_at]; exact q4 _ (Int.le_refl _) (by omega)
      · rw [setA_ne _ w, setA_ne _ w, setA_ne _ w]; exact q3 q z1 (by omega)
    · obtain ⟨m1, m2, m3, m4⟩ := q5
      refine ⟨(row _ (by omega) (by omega)).trans m1, fun kk k0 k1 => ?_, fun q z1 z2 => ?_, (row _ (by omega) (by omega)).trans m4⟩
      · have k2 : kk < pN (gP g) := k1
        have x := m2 kk k0 k2
        exact ⟨(row _ (by omega) (by omega)).trans x.1, (row _ (by omega) (by omega)).trans x.2.1, (row _ (by omega) (by omega)).trans x.2.2.1, (row _ (by omega) (by omega)).trans x.2.2.2⟩
      · show μ15 187 (31 + (33 + q)) = if q = hP (gH g) then (numE (txt b n) 0 (hR (gH g) * hC (gH g) - 1) (stepE (gE g))).1 else pCell (gP g) q
        by_cases w : q = hP (gH g)
        · rw [if_pos w, w, e15, mup_ap, if_pos ⟨rfl, by omega⟩]; exact hv'
        · rw [if_neg w, row _ (by omega) (by omega)]; exact m3 q z1 (by omega)
  have key : ∀ (r : Nat) (g1 : GS) (μ1 : Mem), RQ μ1 b n N 0 (gE g1) → FRq μ μ1 → μ1 187 3 = hP (gH g) → hP (gH g1) = hP (gH g) → pN (gP g1) = pN (gP g) → (eF (gE g1) = 0 → GR μ1 (hP (gH g) + 1) g1 ∧ N + 1 ≤ r + eK (gE g1)) → repA (flagC (txt b n)) (flagB (txt b n)) r g1 = person2 (txt b n) g →
      WQ mX10_readPerson 9 sc (ZV sc R) 59 [(2, 183), (0, hP (gH g))] [] μ1 := by
    intro r
    induction r with
    | zero =>
      intro g1 μ1 hE1 hF1 h31 hp1 hn1 hG1 he
      have hne : eF (gE g1) ≠ 0 := fun z => by have := (hG1 z).2; have := hE1.2.2.2.2.1.1; omega
      rw [repA] at he
      have h11 := hE1.2.2.2.2.2.1
      refine s_X10_readPerson_59 ⟨fun _ => ⟨fun _ => k μ1 ⟨?_, fun y => ?_⟩ hF1, fun q => by omega⟩, fun q => by omega⟩
      · rw [hPG, ← he]; exact hE1
      · rw [hPG, ← he] at y; exact absurd y hne
    | succ r ih =>
      intro g1 μ1 hE1 hF1 h31 hp1 hn1 hG1 he
      have h11 := hE1.2.2.2.2.2.1
      have done : flagC (txt b n) g1 = false → person2 (txt b n) g = g1 := fun y => by rw [← he, repA_no y]
      refine s_X10_readPerson_59 ⟨fun z => ⟨fun _ => k μ1 ⟨?_, fun y => ?_⟩ hF1, fun q => absurd q z⟩, fun z => ?_⟩
      · rw [hPG, done (flagC_no (by omega))]; exact hE1
      · rw [hPG, done (flagC_no (by omega))] at y
        have : eF (gE g1) = 0 := y
        omega
      rw [h11] at z
      have gg := hG1 z
      rw [← hp1]
      refine cb_readFlag (by omega) hE1 z (by omega) (by omega) (by rw [hp1]; exact gg.1) (fun y => ⟨fun _ => ⟨fun q => by omega, fun _ => ?_⟩, fun q => absurd rfl q⟩) (fun y r7 μ8 r8 F8 G8 B8 => ?_)
      · rw [h31]
        refine ⟨by omega, ?_⟩
        intro μ6' e6
        have g6 : ∀ b' j : Int, (b' = 187 → j ≠ 3) → μ6' b' j = μ1 b' j := fun b' j q => by rw [e6, mup_ap, if_neg (fun w => q w.1 w.2)]
        refine k μ6' ⟨?_, fun _ => ⟨?_, ?_⟩⟩ (hF1.tr (fun b' j q1 q2 => g6 b' j (fun w => by have := q2 w; omega)))
        · rw [hPG, done y]
          exact hE1.row (fun b' j q => g6 b' j (fun w => by have := q w; omega))
        · rw [hPG, done y]
          have eP : hP (gH (moreP g1)) = hP (gH g1) + 1 := rfl
          rw [eP, hp1]
          obtain ⟨q1, q2, q3, q4, q5, q6⟩ := gg.1
          exact ⟨by rw [g6 _ _ (by omega)]; exact q1, by rw [g6 _ _ (by omega)]; exact q2, fun q z1 z2 => by rw [g6 _ _ (by omega), g6 _ _ (by omega), g6 _ _ (by omega)]; exact q3 q z1 z2, fun q z1 z2 => by rw [g6 _ _ (by omega), g6 _ _ (by omega), g6 _ _ (by omega)]; exact q4 q z1 z2, q5.congr (fun i i0 i1 => g6 _ _ (by omega)) (by show pN (gP g1) ≤ 8; omega) (by omega), fun l l0 l1 => by rw [g6 _ _ (by omega), g6 _ _ (by omega), g6 _ _ (by omega)]; exact q6 l l0 l1⟩
        · rw [hPG, done y, e6, mup_at]
          show hP (gH g) + 1 = hP (gH g1) + 1
          omega
      · rw [repA_yes y] at he
        have h118 := r8.2.2.2.2.2.1
        have F8q : FRq μ μ8 := hF1.tr (fun b' j q1 q2 => F8 b' j (fun w => by have := q1 w; omega) (fun w => by have := q2 w; omega))
        have h38 : μ8 187 3 = hP (gH g) := by rw [F8 _ _ (by omega) (by omega)]; exact h31
        by_cases w : eF (gE (flagB (txt b n) g1)) = 0
        · obtain ⟨gr, rfl⟩ := G8 w
          refine ⟨fun q => absurd q (by decide), fun _ => ?_⟩
          rw [hp1]
          refine ih _ μ8 r8 F8q h38 hp1 hn1 (fun _ => ⟨by rw [← hp1]; exact gr, ?_⟩) he
          obtain ⟨a1, a2, a3, _⟩ := num_ok (T := txt b n) (lo := 0) (hi := 9) (e := stepE (gE g1)) w
          have s1 := step_y z
          have s2 := step_y a1
          have e2 : gE (flagB (txt b n) g1) = stepE (stepE (gE g1)) := by show (numE (txt b n) 0 9 (stepE (gE g1))).2 = _; rw [a3]
          rw [e2]
          have := gg.2
          omega
        · have hr := B8 w
          have e2 : person2 (txt b n) g = flagB (txt b n) g1 := by rw [← he, repA_no (flagC_no w)]
          refine ⟨fun _ => ⟨fun _ => k μ8 ⟨?_, fun y2 => ?_⟩ F8q, fun q => by omega⟩, fun q => absurd hr q⟩
          · rw [hPG, e2]; exact r8
          · rw [hPG, e2] at y2; exact absurd y2 w
  refine key 1000 (person1 (txt b n) g) μ15 r15 F15 (by rw [row _ (by omega) (by omega)]; exact h3) rfl rfl (fun y => ⟨G15 y, by omega⟩) rfl

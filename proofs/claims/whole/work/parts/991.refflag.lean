/-! THE REFERENCE READS: persons -/
theorem cb_takes {d : Nat} {sc : SC} {μ : Mem} {b : Int → Int} {n N : Nat} {f lo hi : Int} {e : ES} {R : Int → Mem → Prop} (hd : 7 ≤ d) (hE : RQ μ b n N f e) (k : ∀ v μ', RQ μ' b n N f (numE (txt b n) lo hi e).2 → FRl f μ μ' → (eF (numE (txt b n) lo hi e).2 = 0 → v = (numE (txt b n) lo hi e).1) → R v μ') : CAi mX10_takes d sc [(2, 183), (0, lo), (0, hi)] μ R := by
  refine byI (d' := 6) (by omega) (Q := R) ?_ (fun _ _ z => z)
  refine CTi_of mp_X10_takes (Nat.le_of_ble_eq_true rfl) ?_
  have bad : ∀ w : Int, (w = 2 ∨ w = 3) → (numE (txt b n) lo hi e) = (0, failE (txt b n) w e) → CAv mX10_fails 6 sc [(2, 183), (0, w)] μ (fun μ18 => ∀ v19 : Int, v19 = μ18 183 10 → (μ18 183 11 ≠ 0 → R v19 μ18) ∧ (μ18 183 11 = 0 → CAv mX10_next 6 sc [(2, 183)] μ18 (fun μ22 => R v19 μ22))) := by
    intro w hw he
    refine cb_fails (by omega) (by omega) hE (fun μ' r fr => ?_)
    have hne : eF (failE (txt b n) w e) ≠ 0 := (hE.2.2.2.2.1.fail (T := txt b n) (w := w) (by omega)).2
    intro v hv
    refine ⟨fun _ => k v μ' (by rw [he]; exact r) fr (fun z => by rw [he] at z; exact absurd z hne), fun z => ?_⟩
    rw [r.2.2.2.2.2.1] at z
    exact absurd z hne
  refine s_X10_takes_0 (cb_is (by omega) hE (K := 50) (by unfold kOk; omega) rfl (fun y => ⟨fun q => absurd rfl q, fun _ => ?_⟩) (fun y => ⟨fun _ => ?_, fun q => absurd q (by decide)⟩))
  · exact bad 2 (Or.inl rfl) (by unfold numE; rw [y, if_neg (by decide)])
  · have y2 := isE_t.mp y
    have h10 : μ 183 10 = (txt b n).2.2 (eK e) := (hE.2.2.2.2.2.2.1 y2.1).1.2.2.2 y2.2
    rw [h10]
    refine cb_within (by omega) (fun z => ⟨fun q => absurd rfl q, fun _ => ?_⟩) (fun z => ⟨fun _ => ?_, fun q => absurd q (by decide)⟩)
    · exact bad 3 (Or.inr rfl) (by unfold numE; rw [if_pos y, if_pos (by omega)])
    · have he : numE (txt b n) lo hi e = ((txt b n).2.2 (eK e), stepE e) := by unfold numE; rw [if_pos y, if_neg (by omega)]
      rw [h10]
      rintro _ rfl
      have h11 := hE.2.2.2.2.2.1
      refine ⟨fun q => by rw [h11] at q; exact absurd y2.1 q, fun _ => cb_step (by omega) hE y2.1 (by rw [y2.2]; decide) (fun μ' r fr => k _ μ' (by rw [he]; exact r) fr (fun _ => by rw [he]))⟩
/-- the row half read; np persons' entries count -/
def GR (μ : Mem) (np : Int) (g : GS) : Prop := μ 187 1 = hR (gH g) ∧ μ 187 2 = hC (gH g) ∧ (∀ q, 0 ≤ q → q < np → μ 187 (13 + q) = hLoud (gH g) q ∧ μ 187 (19 + q) = hDeaf (gH g) q ∧ μ 187 (25 + q) = hVoice (gH g) q) ∧ (∀ q, np ≤ q → q < 6 → μ 187 (13 + q) = 0 ∧ μ 187 (19 + q) = 0 ∧ μ 187 (25 + q) = 0) ∧ MP (fun i => μ 187 (31 + i)) np (gP g) ∧
  ∀ l, 0 ≤ l → l < 3 → (μ 187 (4 + l) = 1 ∧ μ 187 (7 + l) = gO g l ∧ μ 187 (10 + l) = hLen (gH g) l ∧ 0 < hLen (gH g) l) ∨ (μ 187 (4 + l) = 0 ∧ hLen (gH g) l = 0)
/-- changes of the row behind its plan, and of the reader's state -/
def FRr (μ μ' : Mem) : Prop := ∀ b j, (b = 183 → j < 6 ∨ j = 8 ∨ 12 < j) → (b = 187 → j < 472) → μ' b j = μ b j
theorem FRl.r {μ μ' : Mem} (h : FRl 0 μ μ') : FRr μ μ' := fun b j q1 q2 => h b j q1 (fun y => by have := q2 y; omega)
theorem FRr.row {μ μ' : Mem} (h : FRr μ μ') {j : Int} (hj : j < 472) : μ' 187 j = μ 187 j := h _ _ (by omega) (fun _ => hj)
theorem GR.same {μ μ' : Mem} {np : Int} {g : GS} (h : GR μ np g) (hs : ∀ j, 0 ≤ j → j < 71 → μ' 187 j = μ 187 j) (h6 : 0 ≤ np ∧ np ≤ 6) (h8 : 0 ≤ pN (gP g) ∧ pN (gP g) ≤ 8) : GR μ' np g := by
  obtain ⟨q1, q2, q3, q4, q5, q6⟩ := h
  refine ⟨by rw [hs _ (by omega) (by omega)]; exact q1, by rw [hs _ (by omega) (by omega)]; exact q2, fun q z1 z2 => by rw [hs _ (by omega) (by omega), hs _ (by omega) (by omega), hs _ (by omega) (by omega)]; exact q3 q z1 z2, fun q z1 z2 => by rw [hs _ (by omega) (by omega), hs _ (by omega) (by omega), hs _ (by omega) (by omega)]; exact q4 q z1 z2, q5.congr (fun i i0 i1 => hs _ (by omega) (by omega)) h8.2 h6.2, fun l l0 l1 => by rw [hs _ (by omega) (by omega), hs _ (by omega) (by omega), hs _ (by omega) (by omega)]; exact q6 l l0 l1⟩
theorem RQ.row {μ μ' : Mem} {b : Int → Int} {n N : Nat} {e : ES} (hE : RQ μ b n N 0 e) (hs : ∀ b' j, (b' = 187 → j = 472 ∨ 473 ≤ j) → μ' b' j = μ b' j) : RQ μ' b n N 0 e := by
  obtain ⟨a1, a2, a3, a4, a5, a6, a7, a8⟩ := hE
  refine ⟨a1.same (hs _ _ (by omega)) (fun j => hs _ _ (by omega)), a2, a3, a4, a5, by rw [hs _ _ (by omega)]; exact a6, fun z => ?_, fun z => by rw [hs _ _ (by omega)]; exact a8 z⟩
  obtain ⟨c1, c2, c3⟩ := a7 z
  exact ⟨c1.same (fun j _ => hs _ _ (by omega)), by rw [hs _ _ (by omega)]; exact c2, fun i hi => by rw [hs _ _ (by omega)]; exact c3 i hi⟩
theorem cb_readFlag {d : Nat} {sc : SC} {μ : Mem} {b : Int → Int} {n N : Nat} {g : GS} {R : Int → Mem → Prop} (hd : 8 ≤ d) (hE : RQ μ b n N 0 (gE g)) (h0 : eF (gE g) = 0) (hp : 0 ≤ hP (gH g) ∧ hP (gH g) < 6) (h8 : 0 ≤ pN (gP g) ∧ pN (gP g) ≤ 8) (hG : GR μ (hP (gH g) + 1) g)
    (k0 : flagC (txt b n) g = false → R 0 μ) (k1 : flagC (txt b n) g = true → ∀ r μ', RQ μ' b n N 0 (gE (flagB (txt b n) g)) → (∀ b' j, (b' = 183 → j < 6 ∨ j = 8 ∨ 12 < j) → (b' = 187 → j < 13 ∨ (31 ≤ j ∧ j < 472)) → μ' b' j = μ b' j) → (eF (gE (flagB (txt b n) g)) = 0 → GR μ' (hP (gH g) + 1) (flagB (txt b n) g) ∧ r = 1) → (eF (gE (flagB (txt b n) g)) ≠ 0 → r = 0) → R r μ') : CAi mX10_readFlag d sc [(2, 183), (0, hP (gH g))] μ R := by
  refine byI (d' := 7) (by omega) (Q := R) ?_ (fun _ _ z => z)
  refine CTi_of mp_X10_readFlag (Nat.le_of_ble_eq_true rfl) ?_
  generalize hnp : hP (gH g) = p at *
  have go : ∀ (K base : Int) (μ1 : Mem), ((K = 16 ∧ base = 13) ∨ (K = 17 ∧ base = 19) ∨ (K = 18 ∧ base = 25)) → isE (txt b n) (gE g) K = true → RQ μ1 b n N 0 (stepE (gE g)) → FRl 0 μ μ1 → (-2147483648 ≤ base + p ∧ base + p < 2147483648) ∧ CAi mX10_takes 7 sc [(2, 183), (0, 0), (0, 9)] μ1 (fun r23 μ24 => (0 ≤ base + p ∧ base + p < 1373) ∧ (∀ μ26, μ26 = mup μ24 187 (base + p) r23 → (μ26 183 11 ≠ 0 → R 0 μ26) ∧ (μ26 183 11 = 0 → R 1 μ26))) := by
    intro K base μ1 hKb y r1 f1
    have y2 := isE_t.mp y
    refine ⟨by omega, cb_takes (Nat.le_refl _) r1 (fun v μ24 r24 f24 hv => ⟨by omega, ?_⟩)⟩
    intro μ26 e26
    have g26 : ∀ b' j : Int, (b' = 187 → j ≠ base + p) → μ26 b' j = μ24 b' j := fun b' j q => by rw [e26, mup_ap, if_neg (fun y => q y.1 y.2)]
    have hc : flagC (txt b n) g = true := by
      unfold flagC
      rcases hKb with q | q | q
      · rw [q.1] at y; rw [y]; rfl
      · rw [q.1] at y; rw [y, Bool.true_or, Bool.or_true]
      · rw [q.1] at y; rw [y, Bool.or_true, Bool.or_true]
    have eB : gE (flagB (txt b n) g) = (numE (txt b n) 0 9 (stepE (gE g))).2 := rfl
    have r26 : RQ μ26 b n N 0 (gE (flagB (txt b n) g)) := by rw [eB]; exact r24.row (fun b' j q => g26 b' j (fun y => by have := q y; omega))
    have FF : ∀ b' j, (b' = 183 → j < 6 ∨ j = 8 ∨ 12 < j) → (b' = 187 → j < 13 ∨ (31 ≤ j ∧ j < 472)) → μ26 b' j = μ b' j := fun b' j q1 q2 => by rw [g26 b' j (fun y => by have := q2 y; omega), f24 b' j q1 (fun y => by have := q2 y; omega), f1 b' j q1 (fun y => by have := q2 y; omega)]
    have row : ∀ j : Int, j < 472 → j ≠ base + p → μ26 187 j = μ 187 j := fun j q1 q2 => by rw [g26 _ _ (fun _ => q2), f24 _ _ (by omega) (by omega), f1 _ _ (by omega) (by omega)]
    have h11 := r26.2.2.2.2.2.1
    have gr : eF (gE (flagB (txt b n) g)) = 0 → GR μ26 (p + 1) (flagB (txt b n) g) := fun z => by
      obtain ⟨q1, q2, q3, q4, q5, q6⟩ := hG
      have hv' := hv z
      have hat : μ26 187 (base + p) = (numE (txt b n) 0 9 (stepE (gE g))).1 := by rw [e26, mup_at, hv']
      have eK1 : (txt b n).1 (eK (gE g)) = K := y2.2
      have hH : gH (flagB (txt b n) g) = flagH (gH g) K p (numE (txt b n) 0 9 (stepE (gE g))).1 := by
        show flagH (gH g) ((txt b n).1 (eK (gE g))) (hP (gH g)) _ = _
        rw [eK1, hnp]
      refine ⟨by rw [row _ (by omega) (by omega)]; exact q1, by rw [row _ (by omega) (by omega)]; exact q2, fun q z1 z2 => ?_, fun q z1 z2 => by rw [row _ (by omega) (by omega), row _ (by omega) (by omega), row _ (by omega) (by omega)]; exact q4 q z1 z2, q5.congr (fun i i0 i1 => row _ (by omega) (by omega)) h8.2 (by omega), fun l l0 l1 => by rw [row _ (by omega) (by omega), row _ (by omega) (by omega), row _ (by omega) (by omega)]; exact q6 l l0 l1⟩
      have old := q3 q z1 z2
      rw [hH]
      have eL : hLoud (flagH (gH g) K p (numE (txt b n) 0 9 (stepE (gE g))).1) = if K = 16 then setA (hLoud (gH g)) p (numE (txt b n) 0 9 (stepE (gE g))).1 else hLoud (gH g) := rfl
      have eD : hDeaf (flagH (gH g) K p (numE (txt b n) 0 9 (stepE (gE g))).1) = if K = 17 then setA (hDeaf (gH g)) p (numE (txt b n) 0 9 (stepE (gE g))).1 else hDeaf (gH g) := rfl
      have eV : hVoice (flagH (gH g) K p (numE (txt b n) 0 9 (stepE (gE g))).1) = if K = 16 ∨ K = 17 then hVoice (gH g) else setA (hVoice (gH g)) p (numE (txt b n) 0 9 (stepE (gE g))).1 := rfl
      rw [eL, eD, eV]
      rcases hKb with ⟨k1, k2⟩ | ⟨k1, k2⟩ | ⟨k1, k2⟩
      · rw [if_pos k1, if_neg (by omega), if_pos (Or.inl k1), row (19 + q) (by omega) (by omega), row (25 + q) (by omega) (by omega)]
        refine ⟨?_, old.2.1, old.2.2⟩
        by_cases w : q = p
        · rw [w, setA_at, ← hat, k2]
        · rw [setA_ne _ w, row (13 + q) (by omega) (by omega)]; exact old.1
      · rw [if_neg (by omega), if_pos k1, if_pos (Or.inr k1), row (13 + q) (by omega) (by omega), row (25 + q) (by omega) (by omega)]
        refine ⟨old.1, ?_, old.2.2⟩
        by_cases w : q = p
        · rw [w, setA_at, ← hat, k2]
        · rw [setA_ne _ w, row (19 + q) (by omega) (by omega)]; exact old.2.1
      · rw [if_neg (by omega), if_neg (by omega), if_neg (by omega), row (13 + q) (by omega) (by omega), row (19 + q) (by omega) (by omega)]
        refine ⟨old.1, old.2.1, ?_⟩
        by_cases w : q = p
        · rw [w, setA_at, ← hat, k2]
        · rw [setA_ne _ w, row (25 + q) (by omega) (by omega)]; exact old.2.2
    rw [h11]
    exact ⟨fun z => k1 hc 0 μ26 r26 FF (fun z2 => absurd z2 z) (fun _ => rfl), fun z => k1 hc 1 μ26 r26 FF (fun z2 => ⟨gr z2, rfl⟩) (fun z2 => absurd z z2)⟩
  refine s_X10_readFlag_0 (cb_eats (by omega) hE (K := 16) (by unfold kOk; omega) (by decide) rfl (fun n16 => ⟨fun _ => ?_, fun q => absurd rfl q⟩) (fun y μ1 r1 f1 => ⟨fun q => absurd q (by decide), fun _ => go 16 13 μ1 (Or.inl ⟨rfl, rfl⟩) y r1 f1⟩))
  refine cb_eats (by omega) hE (K := 17) (by unfold kOk; omega) (by decide) rfl (fun n17 => ⟨fun _ => ?_, fun q => absurd rfl q⟩) (fun y μ1 r1 f1 => ⟨fun q => absurd q (by decide), fun _ => go 17 19 μ1 (Or.inr (Or.inl ⟨rfl, rfl⟩)) y r1 f1⟩)
  refine cb_eats (by omega) hE (K := 18) (by unfold kOk; omega) (by decide) rfl (fun n18 => ⟨fun _ => ?_, fun q => absurd rfl q⟩) (fun y μ1 r1 f1 => ⟨fun q => absurd q (by decide), fun _ => go 18 25 μ1 (Or.inr (Or.inr ⟨rfl, rfl⟩)) y r1 f1⟩)
  exact k0 (by unfold flagC; rw [n16, n17, n18]; rfl)

/-! THE REFERENCE READS: laws' lines, lines -/
theorem TyL.ne {b h : Int} {l : List Int} (hT : TyL b h l) (hh : h ≤ 40) : 0 < l.length := by
  by_cases z : l = []
  · subst z
    have t0 : (tyN (fun _ => 0) 0).1 = 0 := rfl
    have := (hT (fun _ => 0) 0 (fun i hi => absurd hi (Nat.not_lt_zero _)) (by rw [t0]; exact Int.le_refl 0) (by rw [t0]; omega)).2.1
    have e : (tyN (fun _ => 0) (0 + ([] : List Int).length)).1 = (tyN (fun _ => 0) 0).1 := rfl
    omega
  · exact List.length_pos_iff.mpr z
theorem cb_readLaw {d : Nat} {sc : SC} {μ : Mem} {b : Int → Int} {n N : Nat} {l : Int} {g : GS} {R : Mem → Prop} (hd : 65 ≤ d) (hl : 0 ≤ l ∧ l < 3) (hL : LR μ b n N g) (h0 : eF (gE g) = 0) (hK : (txt b n).1 (eK (gE g)) ≠ 52) (hW : WG N g)
    (k : ∀ μ', LR μ' b n N (lawG (txt b n) l g) → FRq μ μ' → R μ') : CAv mX10_readLaw d sc [(2, 183), (0, l)] μ R := by
  obtain ⟨hE, hL2⟩ := hL
  obtain ⟨hG, h3⟩ := hL2 h0
  have hT := hE.2.1
  have hN9 := hE.2.2.1
  have hp := hW.2.2.1
  have h8 := hW.2.2.2.2.1
  have Lm0 : Lm 0 0 (gE g) := fun _ => by have := hW.2.2.2.2.2.2.1; omega
  refine byV (d' := 64) (by omega) (Q := R) ?_ (fun _ z => z)
  refine CTv_of mp_X10_readLaw (Nat.le_of_ble_eq_true rfl) ?_
  have at50 : ∀ (x2 : Int) (μ1 : Mem), RQ μ1 b n N 0 (law2 (txt b n) l g) → FRq μ μ1 → (∀ j : Int, j < 472 → μ1 187 j = μ 187 j) → (eF (law2 (txt b n) l g) = 0 → x2 = (eC (law1 (txt b n) g)).length) → WQ mX10_readLaw 64 sc (ZV sc R) 50 [(2, 183), (0, l), (0, x2)] [] μ1 := by
    intro x2 μ1 r1 f1 row hx
    have h11 := r1.2.2.2.2.2.1
    have eE : gE (lawG (txt b n) l g) = law2 (txt b n) l g := rfl
    refine s_X10_readLaw_50 ⟨fun z => ?_, fun z => k μ1 ⟨by rw [eE]; exact r1, fun y => ?_⟩ f1⟩
    · have z0 : eF (law2 (txt b n) l g) = 0 := by omega
      have hx2 := hx z0
      have z1 : eF (law1 (txt b n) g) = 0 := by
        by_cases w : eF (law1 (txt b n) g) = 0
        · exact w
        · rw [law2_no hT w] at z0; exact absurd z0 w
      have ok1 : eK (law1 (txt b n) g) ≤ N := ((hE.2.2.2.2.1.step hT hK).exp hT (K := 31) (by decide)).1
      obtain ⟨_, _, pd⟩ := law2_PD (l := l) hT z1 ok1
      obtain ⟨a1, a2, l', a3, a4, a5, a6⟩ := pd z0
      have hne := a5.ne (by decide)
      have hlen : ((eC (law2 (txt b n) l g)).length : Int) = (eC (law1 (txt b n) g)).length + l'.length := by rw [a3, List.length_append]; omega
      have c2 := (r1.2.2.2.2.2.2.1 z0).2.1
      refine ⟨by omega, by omega, ?_⟩
      intro μ4 e4
      refine ⟨by omega, by omega, ?_⟩
      intro μ7 e7
      have g7 : ∀ b' j : Int, (b' = 187 → j ≠ 4 + l ∧ j ≠ 7 + l) → μ7 b' j = μ1 b' j := fun b' j q => by rw [e7, mup_ap, if_neg (fun w => (q w.1).2 w.2), e4, mup_ap, if_neg (fun w => (q w.1).1 w.2)]
      rw [g7 187 472 (by omega), c2, hx2]
      refine ⟨by omega, by omega, by omega, ?_⟩
      intro μ12 e12
      have g12 : ∀ b' j : Int, (b' = 187 → j ≠ 4 + l ∧ j ≠ 7 + l ∧ j ≠ 10 + l) → μ12 b' j = μ1 b' j := fun b' j q => by rw [e12, mup_ap, if_neg (fun w => (q w.1).2.2 w.2), g7 b' j (fun w => ⟨(q w).1, (q w).2.1⟩)]
      have rw12 : ∀ j : Int, j < 472 → (j < 4 ∨ 12 < j) → μ12 187 j = μ 187 j := fun j q1 q2 => by rw [g12 _ _ (by omega)]; exact row j q1
      refine k μ12 ⟨by rw [eE]; exact r1.row (fun b' j q => g12 b' j (fun w => by have := q w; omega)), fun _ => ?_⟩ (f1.tr (fun b' j q1 q2 => g12 b' j (fun w => by have := q2 w; omega)))
      obtain ⟨q1, q2, q3, q4, q5, q6⟩ := hG
      refine ⟨⟨by rw [rw12 _ (by omega) (by omega)]; exact q1, by rw [rw12 _ (by omega) (by omega)]; exact q2, fun q z1 z2 => by have z2' : q < hP (gH g) := z2; rw [rw12 _ (by omega) (by omega), rw12 _ (by omega) (by omega), rw12 _ (by omega) (by omega)]; exact q3 q z1 z2', fun q z1 z2 => by have z1' : hP (gH g) ≤ q := z1; rw [rw12 _ (by omega) (by omega), rw12 _ (by omega) (by omega), rw12 _ (by omega) (by omega)]; exact q4 q z1 z2, q5.congr (fun i i0 i1 => rw12 _ (by omega) (by omega)) h8.2.2.1 hp.2, fun m m0 m1 => ?_⟩, by rw [rw12 _ (by omega) (by omega)]; exact h3⟩
      show (μ12 187 (4 + m) = 1 ∧ μ12 187 (7 + m) = setA (gO g) l ((eC (law1 (txt b n) g)).length : Int) m ∧ μ12 187 (10 + m) = setA (hLen (gH g)) l (((eC (law2 (txt b n) l g)).length : Int) - ((eC (law1 (txt b n) g)).length : Int)) m ∧ 0 < setA (hLen (gH g)) l (((eC (law2 (txt b n) l g)).length : Int) - ((eC (law1 (txt b n) g)).length : Int)) m) ∨ (μ12 187 (4 + m) = 0 ∧ setA (hLen (gH g)) l (((eC (law2 (txt b n) l g)).length : Int) - ((eC (law1 (txt b n) g)).length : Int)) m = 0)
      by_cases w : m = l
      · rw [w, setA_at, setA_at]
        refine Or.inl ⟨?_, ?_, ?_, by omega⟩
        · rw [e12, mup_ap, if_neg (by omega), e7, mup_ap, if_neg (by omega), e4, mup_at]
        · rw [e12, mup_ap, if_neg (by omega), e7, mup_at]; exact hx2
        · rw [e12, mup_at]; omega
      · rw [setA_ne _ w, setA_ne _ w, g12 _ _ (by omega), g12 _ _ (by omega), g12 _ _ (by omega), row _ (by omega), row _ (by omega), row _ (by omega)]
        exact q6 m m0 m1
    · have : eF (law2 (txt b n) l g) = 0 := y
      omega
  have go : ∀ μ4 : Mem, RQ μ4 b n N 0 (law1 (txt b n) g) → FRl 0 μ μ4 → ∀ v7 : Int, v7 = μ4 187 472 → ∀ μ8, μ8 = mup μ4 183 15 l → (l ≠ 2 → CAv mX10_readSum 64 sc [(2, 183), (0, 0)] μ8 (fun μ11 => WQ mX10_readLaw 64 sc (ZV sc R) 50 [(2, 183), (0, l), (0, v7)] [] μ11)) ∧ (l = 2 → CAv mX10_readTruth 64 sc [(2, 183), (0, 0)] μ8 (fun μ13 => WQ mX10_readLaw 64 sc (ZV sc R) 50 [(2, 183), (0, l), (0, v7)] [] μ13)) := by
    intro μ4 r4 f4 v7 hv7 μ8 e8
    have g8 : ∀ b' j : Int, (b' = 183 → j ≠ 15) → μ8 b' j = μ4 b' j := fun b' j q => by rw [e8, mup_ap, if_neg (fun w => q w.1 w.2)]
    have s15 : μ8 183 15 = l := by rw [e8, mup_at]
    have r8 : RQ μ8 b n N 0 (law1 (txt b n) g) := by
      obtain ⟨a1, a2, a3, a4, a5, a6, a7, a8⟩ := r4
      refine ⟨a1.same (g8 _ _ (by omega)) (fun j => g8 _ _ (by omega)), a2, a3, a4, a5, by rw [g8 _ _ (by omega)]; exact a6, fun z => ?_, fun z => by rw [g8 _ _ (by omega)]; exact a8 z⟩
      obtain ⟨c1, c2, c3⟩ := a7 z
      exact ⟨c1.same (fun j _ => g8 _ _ (by omega)), by rw [g8 _ _ (by omega)]; exact c2, fun i hi => by rw [g8 _ _ (by omega)]; exact c3 i hi⟩
    have L1 : Lm 0 0 (law1 (txt b n) g) := fun z => by
      have := ((Lm.step (s := 0) Lm0 h0).exp (T := txt b n) (K := 31)) z
      have e : law1 (txt b n) g = expE (txt b n) 31 (stepE (gE g)) := rfl
      rw [e]
      omega
    have F8 : FRq μ μ8 := fun b' j q1 q2 => by rw [g8 b' j (fun w => by have := q1 w; omega)]; exact f4.q b' j q1 q2
    have row8 : ∀ j : Int, j < 472 → μ8 187 j = μ 187 j := fun j q => by rw [g8 _ _ (by omega)]; exact f4.r.row q
    have from1 : eF (law2 (txt b n) l g) = 0 → v7 = (eC (law1 (txt b n) g)).length := fun z => by
      have z1 : eF (law1 (txt b n) g) = 0 := by
        by_cases w : eF (law1 (txt b n) g) = 0
        · exact w
        · rw [law2_no hT w] at z; exact absurd z w
      have := (r4.2.2.2.2.2.2.1 z1).2.1
      omega
    refine ⟨fun z => ?_, fun z => ?_⟩
    · have e2 : law2 (txt b n) l g = sumE (txt b n) (lvE (txt b n) 21 6).1 (law1 (txt b n) g) := by unfold law2; rw [if_neg z]
      refine (law_CY (f := 0) hT (Or.inl rfl)).1 64 sc μ8 _ _ (Nat.le_refl _) r8 L1 (Or.inr ⟨by omega, rfl⟩) (fun μ11 r11 f11 => ?_)
      exact at50 v7 μ11 (by rw [e2]; exact r11) (F8.tr f11.q) (fun j q => by rw [f11.r.row q]; exact row8 j q) from1
    · have e2 : law2 (txt b n) l g = truthE (txt b n) (lvE (txt b n) 23 6).2 (law1 (txt b n) g) := by unfold law2; rw [if_pos z]
      refine (law_CY (f := 0) hT (Or.inr rfl)).2 64 sc μ8 _ _ (Nat.le_refl _) r8 L1 (Or.inl ⟨by omega, rfl⟩) (fun μ11 r11 f11 => ?_)
      exact at50 v7 μ11 (by rw [e2]; exact r11) (F8.tr f11.q) (fun j q => by rw [f11.r.row q]; exact row8 j q) from1
  refine s_X10_readLaw_0 (cb_step (by omega) hE h0 hK (fun μ2 r2 f2 => ?_))
  exact cb_exp (by omega) r2 (K := 31) (by unfold kOk; omega) (by decide) rfl (fun μ4 r4 f4 => go μ4 r4 (f2.tr f4)) (fun μ4 r4 f4 => go μ4 r4 (f2.tr f4))
theorem cb_readLine {d : Nat} {sc : SC} {μ : Mem} {b : Int → Int} {n N : Nat} {g : GS} {R : Mem → Prop} (hd : 66 ≤ d) (hL : LR μ b n N g) (h0 : eF (gE g) = 0) (hK : (txt b n).1 (eK (gE g)) ≠ 52) (hW : WG N g)
    (k : ∀ μ', LR μ' b n N (midG (txt b n) g) → FRq μ μ' → R μ') : CAv mX10_readLine d sc [(2, 183)] μ R := by
  have hE := hL.1
  obtain ⟨hG, h3⟩ := hL.2 h0
  have hp := hW.2.2.1
  have hws := hW.2.2.2.2.1
  have h8 : 0 ≤ pN (gP g) ∧ pN (gP g) ≤ 8 := ⟨hws.2.1.1.1, hws.2.2.1⟩
  have nK : ∀ K : Int, isE (txt b n) (gE g) K = false → (txt b n).1 (eK (gE g)) ≠ K := fun K y w => by rw [isE_t.mpr ⟨h0, w⟩] at y; exact absurd y (by decide)
  refine byV (d' := 65) (by omega) (Q := R) ?_ (fun _ z => z)
  refine CTv_of mp_X10_readLine (Nat.le_of_ble_eq_true rfl) ?_
  refine s_X10_readLine_0 ⟨fun _ => ?_, fun z => by rw [hE.2.2.2.2.2.1] at z; exact absurd h0 z⟩
  refine cb_is (by omega) hE (K := 1) (by unfold kOk; omega) rfl (fun n1 => ⟨fun _ => ?_, fun q => absurd rfl q⟩) (fun y => ⟨fun q => absurd q (by decide), fun _ => ?_⟩)
  rotate_left
  · have y2 := (isE_t.mp y).2
    refine cb_readPerson (by omega) hL h0 y2 ⟨hW.1, hW.2.1⟩ hp h8 (fun μ' r f => k μ' ?_ f)
    unfold midG; rw [if_pos y2]; exact r
  refine cb_is (by omega) hE (K := 2) (by unfold kOk; omega) rfl (fun n2 => ⟨fun _ => ?_, fun q => absurd rfl q⟩) (fun y => ⟨fun q => absurd q (by decide), fun _ => ?_⟩)
  rotate_left
  · have y2 := (isE_t.mp y).2
    refine cb_readNames (by omega) hL h0 y2 hp h8 (fun μ' r f => k μ' ?_ f)
    unfold midG; rw [if_neg (by omega), if_pos y2]; exact r
  refine cb_eats (by omega) hE (K := 15) (by unfold kOk; omega) (by decide) rfl (fun n15 => ⟨fun _ => ?_, fun q => absurd rfl q⟩) (fun y μ9 r9 f9 => ⟨fun q => absurd q (by decide), fun _ => ?_⟩)
  rotate_left
  · have y2 := (isE_t.mp y).2
    have eM : midG (txt b n) g = windG (txt b n) g := by unfold midG; rw [if_neg (by omega), if_neg (by omega), if_neg (by omega), if_neg (by omega), if_neg (by omega), if_pos y2]
    refine cb_takes (by omega) r9 (fun v μ32 r32 f32 hv => ?_)
    intro μ34 e34
    have g34 : ∀ b' j : Int, (b' = 187 → j ≠ 70) → μ34 b' j = μ32 b' j := fun b' j q => by rw [e34, mup_ap, if_neg (fun w => q w.1 w.2)]
    have row : ∀ j : Int, j < 472 → j ≠ 70 → μ34 187 j = μ 187 j := fun j q1 q2 => by rw [g34 _ _ (fun _ => q2), f32.r.row q1, f9.r.row q1]
    refine k μ34 ⟨by rw [eM]; exact r32.row (fun b' j q => g34 b' j (fun w => by have := q w; omega)), fun z => ?_⟩ ((f9.q.tr f32.q).tr (fun b' j q1 q2 => g34 b' j (fun w => by have := q2 w; omega)))
    rw [eM] at z ⊢
    have hv' := hv z
    obtain ⟨q1, q2, q3, q4, q5, q6⟩ := hG
    refine ⟨⟨by rw [row _ (by omega) (by omega)]; exact q1, by rw [row _ (by omega) (by omega)]; exact q2, fun q z1 z2 => by have z2' : q < hP (gH g) := z2; rw [row _ (by omega) (by omega), row _ (by omega) (by omega), row _ (by omega) (by omega)]; exact q3 q z1 z2', fun q z1 z2 => by rw [row _ (by omega) (by omega), row _ (by omega) (by omega), row _ (by omega) (by omega)]; exact q4 q z1 z2, ?_, fun l l0 l1 => by rw [row _ (by omega) (by omega), row _ (by omega) (by omega), row _ (by omega) (by omega)]; exact q6 l l0 l1⟩, by rw [row _ (by omega) (by omega)]; exact h3⟩
    obtain ⟨m1, m2, m3, m4⟩ := q5
    refine ⟨(row _ (by omega) (by omega)).trans m1, fun kk k0 k1 => ?_, fun q z1 z2 => ?_, ?_⟩
    · have k2 : kk < pN (gP g) := k1
      have x := m2 kk k0 k2
      exact ⟨(row _ (by omega) (by omega)).trans x.1, (row _ (by omega) (by omega)).trans x.2.1, (row _ (by omega) (by omega)).trans x.2.2.1, (row _ (by omega) (by omega)).trans x.2.2.2⟩
    · have z2' : q < hP (gH g) := z2
      exact (row _ (by omega) (by omega)).trans (m3 q z1 z2')
    · show μ34 187 (31 + 39) = (numE (txt b n) 0 9 (stepE (gE g))).1
      rw [e34]; exact (mup_at _ _ _ _).trans hv'
  have law : ∀ (l K : Int), K = 5 + l → 0 ≤ l ∧ l < 3 → isE (txt b n) (gE g) K = true → (-2147483648 ≤ (μ 183 9) - 9 ∧ (μ 183 9) - 9 < 2147483648) ∧ CAv mX10_readLaw 65 sc [(2, 183), (0, (μ 183 9) - 9)] μ (fun μ16 => R μ16) := by
    intro l K hKl hl y
    have y2 := isE_t.mp y
    have h9 : μ 183 9 = 9 + l := by
      have := (hE.kind (K := K) (by unfold kOk; omega) h0).mpr y2.2
      rw [this]
      have H : ∀ i : Nat, i < 3 → trK (5 + (i : Int)) = 9 + i := by decide +kernel
      have := H l.toNat (by omega)
      rw [show ((l.toNat : Nat) : Int) = l by omega] at this
      rw [hKl]; exact this
    rw [h9, show 9 + l - 9 = l by omega]
    refine ⟨by omega, cb_readLaw (by omega) hl hL h0 hK hW (fun μ' r f => k μ' ?_ f)⟩
    have hk := y2.2
    have : l = 0 ∨ l = 1 ∨ l = 2 := by omega
    unfold midG
    rcases this with w | w | w
    · rw [if_neg (by omega), if_neg (by omega), if_pos (by omega), ← w]; exact r
    · rw [if_neg (by omega), if_neg (by omega), if_neg (by omega), if_pos (by omega), ← w]; exact r
    · rw [if_neg (by omega), if_neg (by omega), if_neg (by omega), if_neg (by omega), if_pos (by omega), ← w]; exact r
  refine cb_is (by omega) hE (K := 5) (by unfold kOk; omega) rfl (fun n5 => ⟨fun q => absurd rfl q, fun _ => ?_⟩) (fun y => ⟨fun _ => law 0 5 rfl (by decide) y, fun q => absurd q (by decide)⟩)
  refine cb_is (by omega) hE (K := 6) (by unfold kOk; omega) rfl (fun n6 => ⟨fun q => absurd rfl q, fun _ => ?_⟩) (fun y => ⟨fun _ => law 1 6 rfl (by decide) y, fun q => absurd q (by decide)⟩)
  refine cb_is (by omega) hE (K := 7) (by unfold kOk; omega) rfl (fun n7 => ⟨fun _ => ?_, fun q => absurd rfl q⟩) (fun y => ⟨fun q => absurd q (by decide), fun _ => law 2 7 rfl (by decide) y⟩)
  have eM : midG (txt b n) g = failG (txt b n) 2 g := by unfold midG; rw [if_neg (nK _ n1), if_neg (nK _ n2), if_neg (nK _ n5), if_neg (nK _ n6), if_neg (nK _ n7), if_neg (nK _ n15)]
  refine cb_fails (by omega) (by decide) hE (fun μ' r fr => k μ' ⟨by rw [eM]; exact r, fun y => ?_⟩ fr.q)
  rw [eM] at y
  exact absurd y (hE.2.2.2.2.1.fail (T := txt b n) (w := 2) (by decide)).2
theorem cb_closes {d : Nat} {sc : SC} {μ : Mem} {b : Int → Int} {n N : Nat} {g : GS} {R : Mem → Prop} (hd : 8 ≤ d) (hL : LR μ b n N g) (h0 : μ 187 0 = hLines (gH g)) (hb : 0 ≤ hLines (gH g) ∧ hLines (gH g) ≤ 1000) (h6 : 0 ≤ hP (gH g) ∧ hP (gH g) ≤ 6 ∨ eF (gE g) ≠ 0) (h8 : 0 ≤ pN (gP g) ∧ pN (gP g) ≤ 8 ∨ eF (gE g) ≠ 0)
    (k : ∀ μ', LR μ' b n N (closeG (txt b n) g) → μ' 187 0 = hLines (gH (closeG (txt b n) g)) → (∀ b' j, (b' = 183 → j < 6 ∨ j = 8 ∨ 12 < j) → (b' = 187 → 0 < j ∧ j < 472) → μ' b' j = μ b' j) → R μ') : CAv mX10_closes d sc [(2, 183)] μ R := by
  refine byV (d' := 7) (by omega) (Q := R) ?_ (fun _ z => z)
  refine CTv_of mp_X10_closes (Nat.le_of_ble_eq_true rfl) ?_
  have go : ∀ μ2 : Mem, RQ μ2 b n N 0 (expE (txt b n) 30 (gE g)) → FRl 0 μ μ2 → (-2147483648 ≤ (μ2 187 0) + 1 ∧ (μ2 187 0) + 1 < 2147483648) ∧ (∀ μ7, μ7 = mup μ2 187 0 ((μ2 187 0) + 1) → R μ7) := by
    intro μ2 r2 f2
    rw [f2.r.row (by omega), h0]
    refine ⟨by omega, ?_⟩
    intro μ7 e7
    have g7 : ∀ b' j : Int, (b' = 187 → j ≠ 0) → μ7 b' j = μ2 b' j := fun b' j q => by rw [e7, mup_ap, if_neg (fun w => q w.1 w.2)]
    have row : ∀ j : Int, 0 < j → j < 472 → μ7 187 j = μ 187 j := fun j q1 q2 => by rw [g7 _ _ (by omega)]; exact f2.r.row q2
    refine k μ7 ⟨r2.row (fun b' j q => g7 b' j (fun w => by have := q w; omega)), fun z => ?_⟩ (by rw [e7, mup_at]; rfl) (fun b' j q1 q2 => by rw [g7 b' j (fun w => by have := q2 w; omega)]; exact f2.r b' j q1 (fun w => (q2 w).2))
    obtain ⟨z0, _⟩ := exp_ok z
    obtain ⟨⟨q1, q2, q3, q4, q5, q6⟩, q7⟩ := hL.2 z0
    have h6' : 0 ≤ hP (gH g) ∧ hP (gH g) ≤ 6 := h6.resolve_right (fun w => w z0)
    have h8' : 0 ≤ pN (gP g) ∧ pN (gP g) ≤ 8 := h8.resolve_right (fun w => w z0)
    exact ⟨⟨by rw [row _ (by omega) (by omega)]; exact q1, by rw [row _ (by omega) (by omega)]; exact q2, fun q z1 z2 => by have z2' : q < hP (gH g) := z2; rw [row _ (by omega) (by omega), row _ (by omega) (by omega), row _ (by omega) (by omega)]; exact q3 q z1 z2', fun q z1 z2 => by have z1' : hP (gH g) ≤ q := z1; rw [row _ (by omega) (by omega), row _ (by omega) (by omega), row _ (by omega) (by omega)]; exact q4 q z1 z2, q5.congr (fun i i0 i1 => row _ (by omega) (by omega)) h8'.2 h6'.2, fun l l0 l1 => by rw [row _ (by omega) (by omega), row _ (by omega) (by omega), row _ (by omega) (by omega)]; exact q6 l l0 l1⟩, by rw [row _ (by omega) (by omega)]; exact q7⟩
  exact s_X10_closes_0 (cb_exp (by omega) hL.1 (K := 30) (by unfold kOk; omega) (by decide) rfl go go)

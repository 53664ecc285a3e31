/-! THE REFERENCE READS: units, atoms, all of a law -/
theorem trC_name : ∀ i : Nat, i < 24 → 15 ≤ i → trC (1000 + (i : Int)) = 1000 + (if i = 15 then 6 else if i = 16 then 3 else if i = 17 then 4 else if i = 18 then 5 else if i = 19 then 0 else if i = 20 then 1 else if i = 21 then 2 else if i = 22 then 7 else 8) := by decide +kernel
theorem CY.unit {D : Nat} {b : Int → Int} {n N : Nat} {f mx dep ha hu : Int} {a u g : ES → ES} (hdep : 0 ≤ dep ∧ dep ≤ 6) (hS : CY mX10_readSum dep D b n N f mx (sumE (txt b n) a)) (hPS : PG (txt b n) N mx 0 ha (sumE (txt b n) a)) (hU : dep < 6 → CY mX10_readUnit (dep + 1) D b n N f mx u ∧ CY mX10_readTruth (dep + 1) D b n N f mx (truthE (txt b n) u) ∧ PG (txt b n) N mx 1 hu u)
    (hg : ∀ e, g e = if isE (txt b n) e 14 = true then (if dep < 6 then emitE 1014 (u (stepE e)) else failE (txt b n) 4 e) else if isE (txt b n) e 37 = true then (if dep < 6 then expE (txt b n) 38 (truthE (txt b n) u (stepE e)) else failE (txt b n) 4 e) else unitB (txt b n) a e) (hD : 7 ≤ D) : CY mX10_readUnit dep (D + 1) b n N f mx g := by
  intro d sc μ e R hd hE hL hmx k
  have hT := hE.2.1
  have hN9 := hE.2.2.1
  refine byV (d' := D) (by omega) (Q := R) ?_ (fun _ z => z)
  refine CTv_of mp_X10_readUnit (Nat.le_of_ble_eq_true rfl) ?_
  have at111 : ∀ (μ8 : Mem) (y0 : Int), isE (txt b n) e 14 = false → isE (txt b n) e 37 = false → RQ μ8 b n N f (sumE (txt b n) a e) → FRl f μ μ8 → Lm f 0 (sumE (txt b n) a e) → ((isE (txt b n) (sumE (txt b n) a e) 39 = true → y0 = 3003) ∧ (isE (txt b n) (sumE (txt b n) a e) 40 = true → y0 = 3004) ∧ (isE (txt b n) (sumE (txt b n) a e) 41 = true → y0 = 3005)) → WQ mX10_readUnit D sc (ZV sc R) 111 [(2, 183), (0, dep), (9, 0)] [(0, y0)] μ8 := by
    intro μ8 y0 n14 n37 r8 f8 L8 hy
    have he : g e = unitB (txt b n) a e := by rw [hg, n14, n37, if_neg (by decide), if_neg (by decide)]
    have stepc : ∀ K : Int, (K = 39 ∨ K = 40 ∨ K = 41) → isE (txt b n) (sumE (txt b n) a e) K = true → y0 = trC (1000 + K) → CAv mX10_next D sc [(2, 183)] μ8 (fun μ5 => CAv mX10_readSum D sc [(2, 183), (0, dep)] μ5 (fun μ7 => CAv mX10_codes D sc [(2, 183), (0, y0)] μ7 (fun μ9 => R μ9))) := by
      intro K hK y hy0
      have y2 := isE_t.mp y
      have e3 : cmpE (txt b n) (sumE (txt b n) a e) = stepE (sumE (txt b n) a e) := by
        unfold cmpE
        rw [if_pos]
        rcases hK with q | q | q
        · rw [q] at y; rw [y]; rfl
        · rw [q] at y; rw [y, Bool.or_true]; rfl
        · rw [q] at y; rw [y, Bool.or_true]
      have st := step_y y2.1
      have e2 : unitB (txt b n) a e = emitE (1000 + (txt b n).1 (eK (sumE (txt b n) a e))) (sumE (txt b n) a (stepE (sumE (txt b n) a e))) := by unfold unitB; rw [e3, if_pos st.2.1]
      have L2 : Lm f 1 (stepE (sumE (txt b n) a e)) := Lm.step (s := 0) L8 y2.1
      refine cb_step (by omega) r8 y2.1 (by rw [y2.2]; omega) ?_
      intro μ5 r5 f5
      refine hS D sc μ5 _ _ (Nat.le_refl _) r5 (fun q => by have := L2 q; omega) ((hmx.same f8).same f5) ?_
      intro μ7 r7 f7
      have L3 : Lm f 1 (sumE (txt b n) a (stepE (sumE (txt b n) a e))) := Lm.PG L2 hPS r5.2.2.2.2.1.1
      refine cb_codes (op := 1000 + (txt b n).1 (eK (sumE (txt b n) a e))) (by omega) r7 (fun _ => by rw [y2.2]; exact hy0) (L3.lt hN9 r7.2.2.2.2.1.1) ?_
      intro μ9 r9 f9
      exact k μ9 (by rw [he, e2]; exact r9) (((f8.tr f5).tr f7).tr f9)
    refine s_X10_readUnit_111 (cb_is (by omega) r8 (K := 39) (by unfold kOk; omega) rfl (fun n39 => ⟨fun q => absurd rfl q, fun _ => ?_⟩) (fun y39 => ⟨fun _ => stepc 39 (Or.inl rfl) y39 (by rw [hy.1 y39]; decide), fun q => absurd q (by decide)⟩))
    refine cb_is (by omega) r8 (K := 40) (by unfold kOk; omega) rfl (fun n40 => ⟨fun q => absurd rfl q, fun _ => ?_⟩) (fun y40 => ⟨fun _ => stepc 40 (Or.inr (Or.inl rfl)) y40 (by rw [hy.2.1 y40]; decide), fun q => absurd q (by decide)⟩)
    refine cb_is (by omega) r8 (K := 41) (by unfold kOk; omega) rfl (fun n41 => ⟨fun _ => ?_, fun q => absurd rfl q⟩) (fun y41 => ⟨fun q => absurd q (by decide), fun _ => stepc 41 (Or.inr (Or.inr rfl)) y41 (by rw [hy.2.2 y41]; decide)⟩)
    have e3 : cmpE (txt b n) (sumE (txt b n) a e) = failE (txt b n) 2 (sumE (txt b n) a e) := by unfold cmpE; rw [n39, n40, n41]; rfl
    have hne : eF (failE (txt b n) 2 (sumE (txt b n) a e)) ≠ 0 := (r8.2.2.2.2.1.fail (T := txt b n) (w := 2) (by decide)).2
    have e2 : unitB (txt b n) a e = failE (txt b n) 2 (sumE (txt b n) a e) := by unfold unitB; rw [e3, if_neg hne]
    refine cb_fails (by omega) (by decide) r8 ?_
    intro μ23 r23 f23
    refine hS D sc μ23 _ _ (Nat.le_refl _) r23 (fun q => absurd q hne) ((hmx.same f8).same f23) ?_
    intro μ25 r25 f25
    rw [(hPS _).1 hne] at r25
    refine cb_codes (op := 0) (by omega) r25 (fun q => absurd q hne) (fun q => absurd q hne) ?_
    intro μ27 r27 f27
    rw [emit_no hne] at r27
    exact k μ27 (by rw [he, e2]; exact r27) (((f8.tr f23).tr f25).tr f27)
  refine s_X10_readUnit_0 (cb_is (by omega) hE (K := 14) (by unfold kOk; omega) rfl (fun n14 => ⟨fun _ => ?_, fun q => absurd rfl q⟩) (fun y14 => ⟨fun q => absurd q (by decide), fun _ => ?_⟩))
  · refine cb_is (by omega) hE (K := 37) (by unfold kOk; omega) rfl (fun n37 => ⟨fun _ => ?_, fun q => absurd rfl q⟩) (fun y37 => ⟨fun q => absurd q (by decide), fun _ => ?_⟩)
    · refine hS D sc μ e _ (Nat.le_refl _) hE hL hmx ?_
      intro μ8 r8 f8
      have L8 : Lm f 0 (sumE (txt b n) a e) := Lm.PG hL hPS hE.2.2.2.2.1.1
      refine cb_is (by omega) r8 (K := 39) (by unfold kOk; omega) rfl (fun n39 => ⟨fun _ => ?_, fun q => absurd rfl q⟩) (fun y39 => ⟨fun q => absurd q (by decide), fun _ => at111 μ8 3003 n14 n37 r8 f8 L8 ⟨fun _ => rfl, fun q => ?_, fun q => ?_⟩⟩)
      · refine cb_is (by omega) r8 (K := 40) (by unfold kOk; omega) rfl (fun n40 => ⟨fun _ => at111 μ8 3005 n14 n37 r8 f8 L8 ⟨fun q => by rw [n39] at q; exact absurd q (by decide), fun q => by rw [n40] at q; exact absurd q (by decide), fun _ => rfl⟩, fun q => absurd rfl q⟩) (fun y40 => ⟨fun q => absurd q (by decide), fun _ => at111 μ8 3004 n14 n37 r8 f8 L8 ⟨fun q => by rw [n39] at q; exact absurd q (by decide), fun _ => rfl, fun q => ?_⟩⟩)
        have := (isE_t.mp y40).2
        have := (isE_t.mp q).2
        omega
      · have := (isE_t.mp y39).2
        have := (isE_t.mp q).2
        omega
      · have := (isE_t.mp y39).2
        have := (isE_t.mp q).2
        omega
    · refine cb_goesIn (by omega) hE y37 (by decide) hdep.2 (fun hlt μ' r fr => ⟨fun _ => ⟨by omega, ?_⟩, fun q => absurd q (by decide)⟩) (fun hge μ' r fr => ⟨fun q => absurd rfl q, fun _ => k μ' ?_ fr⟩)
      · have L2 : Lm f 1 (stepE e) := Lm.step (s := 0) hL (isE_t.mp y37).1
        refine (hU hlt).2.1 D sc μ' _ _ (Nat.le_refl _) r (fun q => by have := L2 q; omega) (hmx.same fr) ?_
        intro μ3 r3 f3
        have fin : ∀ μ5, RQ μ5 b n N f (expE (txt b n) 38 (truthE (txt b n) u (stepE e))) → FRl f μ3 μ5 → R μ5 := fun μ5 r5 f5 => k μ5 (by rw [hg, n14, if_neg (by decide), if_pos y37, if_pos hlt]; exact r5) ((fr.tr f3).tr f5)
        exact cb_exp (by omega) r3 (K := 38) (by unfold kOk; omega) (by decide) rfl fin fin
      · rw [hg, n14, if_neg (by decide), if_pos y37, if_neg (by omega)]; exact r
  · refine cb_goesIn (by omega) hE y14 (by decide) hdep.2 (fun hlt μ' r fr => ⟨fun _ => ⟨by omega, ?_⟩, fun q => absurd q (by decide)⟩) (fun hge μ' r fr => ⟨fun q => absurd rfl q, fun _ => k μ' ?_ fr⟩)
    · have L2 : Lm f 1 (stepE e) := Lm.step (s := 0) hL (isE_t.mp y14).1
      refine (hU hlt).1 D sc μ' _ _ (Nat.le_refl _) r (fun q => by have := L2 q; omega) (hmx.same fr) ?_
      intro μ3 r3 f3
      have L3 : Lm f 1 (u (stepE e)) := Lm.PG L2 (hU hlt).2.2 r.2.2.2.2.1.1
      refine cb_codes (op := 1014) (by omega) r3 (fun _ => by decide) (L3.lt hN9 r3.2.2.2.2.1.1) ?_
      intro μ5 r5 f5
      refine k μ5 ?_ ((fr.tr f3).tr f5)
      rw [hg, if_pos y14, if_pos hlt]; exact r5
    · rw [hg, if_pos y14, if_neg (by omega)]; exact r
theorem sumIf_eq {T : TxT} {N : Nat} {mx ha : Int} {a : ES → ES} (hPS : PG T N mx 0 ha (sumE T a)) (e : ES) : sumIf T a e = sumE T a e := by
  unfold sumIf
  by_cases z : eF e = 0
  · rw [if_pos z]
  · rw [if_neg z, (hPS e).1 z]
theorem CY.choice {D : Nat} {b : Int → Int} {n N : Nat} {f mx dep ha hu : Int} {a u : ES → ES} (hdep : 0 ≤ dep ∧ dep < 6) (hS : CY mX10_readSum (dep + 1) D b n N f mx (sumE (txt b n) a)) (hPS : PG (txt b n) N mx 0 ha (sumE (txt b n) a)) (hU : CY mX10_readTruth (dep + 1) D b n N f mx (truthE (txt b n) u)) (hPU : PG (txt b n) N mx 1 hu (truthE (txt b n) u)) (hD : 7 ≤ D) :
    ∀ (d : Nat) (sc : SC) (μ : Mem) (e : ES) (R : Mem → Prop), D + 1 ≤ d → RQ μ b n N f e → Lm f 0 e → isE (txt b n) e 8 = true → MX μ mx → (∀ μ', RQ μ' b n N f (ifE (txt b n) a u (stepE e)) → FRl f μ μ' → R μ') → CAv mX10_readIf d sc [(2, 183), (0, dep)] μ R := by
  intro d sc μ e R hd hE hL0 hy8 hmx k
  have hN9 := hE.2.2.1
  have hL : Lm f 1 (stepE e) := Lm.step (s := 0) hL0 (isE_t.mp hy8).1
  have w0 : ∀ e : ES, Lm f 1 e → Lm f 0 e := fun e hl q => by have := hl q; omega
  refine byV (d' := D) (by omega) (Q := R) ?_ (fun _ z => z)
  refine CTv_of mp_X10_readIf (Nat.le_of_ble_eq_true rfl) ?_
  have at51 : ∀ (μ9 : Mem) (e9 : ES), RQ μ9 b n N f e9 → FRl f μ μ9 → Lm f 1 e9 → e9 = expE (txt b n) 10 (sumIf (txt b n) a (expE (txt b n) 9 (truthE (txt b n) u (stepE e)))) → WQ mX10_readIf D sc (ZV sc R) 51 [(2, 183), (0, dep)] [] μ9 := by
    intro μ9 e9 r9 f9 L9 he
    refine s_X10_readIf_51 ⟨by omega, hS D sc μ9 _ _ (Nat.le_refl _) r9 (w0 _ L9) (hmx.same f9) ?_⟩
    intro μ3 r3 f3
    have L3 : Lm f 1 (sumE (txt b n) a e9) := Lm.PG L9 hPS r9.2.2.2.2.1.1
    have fin : ∀ μ5, RQ μ5 b n N f (expE (txt b n) 11 (sumE (txt b n) a e9)) → FRl f μ3 μ5 → CAv mX10_codes D sc [(2, 183), (0, 3009)] μ5 (fun μ8 => R μ8) := fun μ5 r5 f5 => by
      refine cb_codes (op := 1008) (by omega) r5 (fun _ => by decide) (L3.exp.lt hN9 r5.2.2.2.2.1.1) ?_
      intro μ8 r8 f8
      refine k μ8 ?_ (((f9.tr f3).tr f5).tr f8)
      unfold ifE
      rw [← he, sumIf_eq hPS]; exact r8
    exact cb_exp (by omega) r3 (K := 11) (by unfold kOk; omega) (by decide) rfl fin fin
  have mid : ∀ (μ9 : Mem) (e9 : ES), RQ μ9 b n N f e9 → FRl f μ μ9 → Lm f 1 e9 → e9 = expE (txt b n) 9 (truthE (txt b n) u (stepE e)) → (-2147483648 ≤ dep + 1 ∧ dep + 1 < 2147483648) ∧ CAv mX10_readSum D sc [(2, 183), (0, dep + 1)] μ9 (fun μ12 => CAi mX10_eats D sc [(2, 183), (0, 14)] μ12 (fun r13 μ14 => (r13 ≠ 0 → WQ mX10_readIf D sc (ZV sc R) 51 [(2, 183), (0, dep)] [] μ14) ∧ (r13 = 0 → CAv mX10_fails D sc [(2, 183), (0, 2)] μ14 (fun μ17 => WQ mX10_readIf D sc (ZV sc R) 51 [(2, 183), (0, dep)] [] μ17)))) := by
    intro μ9 e9 r9 f9 L9 he
    refine ⟨by omega, hS D sc μ9 _ _ (Nat.le_refl _) r9 (w0 _ L9) (hmx.same f9) ?_⟩
    intro μ3 r3 f3
    have L3 : Lm f 1 (sumE (txt b n) a e9) := Lm.PG L9 hPS r9.2.2.2.2.1.1
    have fin : ∀ μ5, RQ μ5 b n N f (expE (txt b n) 10 (sumE (txt b n) a e9)) → FRl f μ3 μ5 → WQ mX10_readIf D sc (ZV sc R) 51 [(2, 183), (0, dep)] [] μ5 := fun μ5 r5 f5 => at51 μ5 _ r5 ((f9.tr f3).tr f5) L3.exp (by rw [← he, sumIf_eq hPS])
    exact cb_exp (by omega) r3 (K := 10) (by unfold kOk; omega) (by decide) rfl fin fin
  refine s_X10_readIf_0 (cb_goesIn (by omega) hE hy8 (by decide) (by omega) (fun _ μ2 r2 f2 => ⟨fun _ => ⟨by omega, ?_⟩, fun q => absurd q (by decide)⟩) (fun hge => by omega))
  refine hU D sc μ2 _ _ (Nat.le_refl _) r2 (w0 _ hL) (hmx.same f2) ?_
  intro μ6 r6 f6
  have L6 : Lm f 1 (truthE (txt b n) u (stepE e)) := Lm.PG hL hPU r2.2.2.2.2.1.1
  exact cb_exp (by omega) r6 (K := 9) (by unfold kOk; omega) (by decide) rfl (fun μ5 r5 f5 => mid μ5 _ r5 ((f2.tr f6).tr f5) L6.exp rfl) (fun μ5 r5 f5 => mid μ5 _ r5 ((f2.tr f6).tr f5) L6.exp rfl)
theorem cb_wordOf {d : Nat} {sc : SC} {μ : Mem} {K mx : Int} {R : Int → Mem → Prop} (hd : 1 ≤ d) (hmx : MX μ mx) (hK : kOk K) (k1 : 15 ≤ K ∧ K ≤ mx → ∀ x, x ≠ -1 → 0 ≤ x ∧ x < 9 → 1000 + x = trC (1000 + K) → R x μ) (k0 : ¬ (15 ≤ K ∧ K ≤ mx) → R (-1) μ) : CAi mX10_wordOf d sc [(2, 183), (0, trK K)] μ R := by
  refine byI (d' := 0) (by omega) (Q := R) ?_ (fun _ _ z => z)
  refine CTi_of mp_X10_wordOf (Nat.le_of_ble_eq_true rfl) ?_
  have hm2 : mx = 21 ∨ mx = 23 := by rcases hmx with q | q <;> omega
  have inj : ∀ K' : Int, kOk K' → ∀ v, trK K' = v → trK K = v → K = K' := fun K' h v e1 e2 => trK_inj hK h (e2.trans e1.symm)
  have yes : ∀ (K' x : Int), K = K' → 15 ≤ K' → K' ≤ mx → 0 ≤ x → x < 9 → 1000 + x = trC (1000 + K') → R x μ := fun K' x e h1 h2 h3 h4 h5 => k1 ⟨by omega, by omega⟩ x (by omega) ⟨h3, h4⟩ (by rw [e]; exact h5)
  refine s_X10_wordOf_0 ⟨fun q => yes 16 3 (inj 16 (by unfold kOk; omega) 2 rfl q) (by decide) (by omega) (by decide) (by decide) (by decide), fun q => yes 17 4 (inj 17 (by unfold kOk; omega) 3 rfl q) (by decide) (by omega) (by decide) (by decide) (by decide), fun q => yes 18 5 (inj 18 (by unfold kOk; omega) 4 rfl q) (by decide) (by omega) (by decide) (by decide) (by decide), fun q => yes 15 6 (inj 15 (by unfold kOk; omega) 8 rfl q) (by decide) (by omega) (by decide) (by decide) (by decide), fun q => yes 19 0 (inj 19 (by unfold kOk; omega) 16 rfl q) (by decide) (by omega) (by decide) (by decide) (by decide), fun q => yes 20 1 (inj 20 (by unfold kOk; omega) 17 rfl q) (by decide) (by omega) (by decide) (by decide) (by decide), fun q => yes 21 2 (inj 21 (by unfold kOk; omega) 18 rfl q) (by decide) (by omega) (by decide) (by decide) (by decide), fun q => ⟨fun q2 => ?_, fun q2 => ?_⟩, fun q => ⟨fun q2 => ?_, fun q2 => ?_⟩, fun q => k0 (fun y => ?_)⟩
  · have e := inj 22 (by unfold kOk; omega) 19 rfl q
    exact k0 (by rcases hmx with w | w <;> omega)
  · exact yes 22 7 (inj 22 (by unfold kOk; omega) 19 rfl q) (by decide) (by rcases hmx with w | w <;> omega) (by decide) (by decide) (by decide)
  · have e := inj 23 (by unfold kOk; omega) 20 rfl q
    exact k0 (by rcases hmx with w | w <;> omega)
  · exact yes 23 8 (inj 23 (by unfold kOk; omega) 20 rfl q) (by decide) (by rcases hmx with w | w <;> omega) (by decide) (by decide) (by decide)
  · have H : ∀ i : Nat, i < 24 → 15 ≤ i → (trK (i : Int) = 2 ∨ trK (i : Int) = 3 ∨ trK (i : Int) = 4 ∨ trK (i : Int) = 8 ∨ trK (i : Int) = 16 ∨ trK (i : Int) = 17 ∨ trK (i : Int) = 18 ∨ trK (i : Int) = 19 ∨ trK (i : Int) = 20) := by decide +kernel
    have := H K.toNat (by omega) (by omega)
    rw [show ((K.toNat : Nat) : Int) = K by omega] at this
    omega
theorem CY.atom {D : Nat} {b : Int → Int} {n N : Nat} {f mx dep ha hu : Int} {a u g : ES → ES} (hdep : 0 ≤ dep ∧ dep ≤ 6) (hU : dep < 6 → CY mX10_readSum (dep + 1) D b n N f mx (sumE (txt b n) a) ∧ PG (txt b n) N mx 0 ha (sumE (txt b n) a) ∧ CY mX10_readTruth (dep + 1) D b n N f mx (truthE (txt b n) u) ∧ PG (txt b n) N mx 1 hu (truthE (txt b n) u))
    (hg : ∀ e, g e = if isE (txt b n) e 35 = true then (if dep < 6 then expE (txt b n) 36 (sumE (txt b n) a (stepE e)) else failE (txt b n) 4 e) else if isE (txt b n) e 8 = true then (if dep < 6 then ifE (txt b n) a u (stepE e) else failE (txt b n) 4 e) else leafE (txt b n) mx e) (hD : 7 ≤ D) (hgn : ∀ e, eF e ≠ 0 → g e = e) : CY mX10_readAtom dep (D + 2) b n N f mx g := by
  intro d sc μ e R hd hE hL hmx k
  have hT := hE.2.1
  have hN9 := hE.2.2.1
  refine byV (d' := D + 1) (by omega) (Q := R) ?_ (fun _ z => z)
  refine CTv_of mp_X10_readAtom (Nat.le_of_ble_eq_true rfl) ?_
  have hm2 : mx = 21 ∨ mx = 23 := by rcases hmx with q | q <;> omega
  have hlt : eF e = 0 → (txt b n).1 (eK e) ≠ 52 → f + (eC e).length < 900 := fun z y => by
    have := hT.lt hE.2.2.2.2.1.1 y
    have := hL z
    omega
  have one : ∀ (op x : Int), eF e = 0 → isE (txt b n) e 35 = false → isE (txt b n) e 8 = false → leafE (txt b n) mx e = stepE (emitE op e) → x = trC op → (txt b n).1 (eK e) ≠ 52 → CAv mX10_codes (D + 1) sc [(2, 183), (0, x)] μ (fun μ19 => CAv mX10_next (D + 1) sc [(2, 183)] μ19 (fun μ21 => R μ21)) := by
    intro op x z n35 n8 ho hx hk
    refine cb_codes (op := op) (by omega) hE (fun _ => hx) (fun z => hlt z hk) ?_
    intro μ19 r19 f19
    have em := emit_y (op := op) z
    refine cb_step (by omega) r19 em.2.1 (by rw [em.1]; exact hk) ?_
    intro μ21 r21 f21
    exact k μ21 (by rw [hg, n35, n8, if_neg (by decide), if_neg (by decide), ho]; exact r21) (f19.tr f21)
  have rest : (eF e = 0 → leafE (txt b n) mx e = failE (txt b n) 2 e) → CAi mX10_is (D + 1) sc [(2, 183), (0, 35)] μ (fun r5 μ6 => (r5 = 0 → CAi mX10_is (D + 1) sc [(2, 183), (0, 12)] μ6 (fun r8 μ9 => (r8 = 0 → CAv mX10_fails (D + 1) sc [(2, 183), (0, 2)] μ9 (fun μ12 => R μ12)) ∧ (r8 ≠ 0 → CAv mX10_readIf (D + 1) sc [(2, 183), (0, dep)] μ9 (fun μ14 => R μ14)))) ∧ (r5 ≠ 0 → CAi mX10_goesIn (D + 1) sc [(2, 183), (0, dep)] μ6 (fun r15 μ16 => (r15 ≠ 0 → (-2147483648 ≤ dep + 1 ∧ dep + 1 < 2147483648) ∧ CAv mX10_readSum (D + 1) sc [(2, 183), (0, dep + 1)] μ16 (fun μ20 => CAi mX10_eats (D + 1) sc [(2, 183), (0, 36)] μ20 (fun r21 μ22 => (r21 ≠ 0 → R μ22) ∧ (r21 = 0 → CAv mX10_fails (D + 1) sc [(2, 183), (0, 2)] μ22 (fun μ25 => R μ25))))) ∧ (r15 = 0 → R μ16)))) := by
    intro hl
    refine cb_is (by omega) hE (K := 35) (by unfold kOk; omega) rfl (fun n35 => ⟨fun _ => ?_, fun q => absurd rfl q⟩) (fun y35 => ⟨fun q => absurd q (by decide), fun _ => ?_⟩)
    · refine cb_is (by omega) hE (K := 8) (by unfold kOk; omega) rfl (fun n8 => ⟨fun _ => ?_, fun q => absurd rfl q⟩) (fun y8 => ⟨fun q => absurd q (by decide), fun _ => ?_⟩)
      · refine cb_fails (by omega) (by decide) hE (fun μ' r fr => k μ' ?_ fr)
        by_cases z : eF e = 0
        · rw [hg, n35, n8, if_neg (by decide), if_neg (by decide), hl z]; exact r
        · rw [fail_no z] at r; rw [hgn e z]; exact r
      · by_cases hlt6 : dep < 6
        · obtain ⟨q1, q2, q3, q4⟩ := hU hlt6
          refine CY.choice ⟨hdep.1, hlt6⟩ q1 q2 q3 q4 hD (D + 1) sc μ _ _ (Nat.le_refl _) hE hL y8 hmx ?_
          intro μ3 r3 f3
          refine k μ3 ?_ f3
          rw [hg, n35, if_neg (by decide), if_pos y8, if_pos hlt6]; exact r3
        · refine byV (d' := D) (by omega) (Q := R) ?_ (fun _ z => z)
          refine CTv_of mp_X10_readIf (Nat.le_of_ble_eq_true rfl) ?_
          refine s_X10_readIf_0 (cb_goesIn hD hE y8 (by decide) hdep.2 (fun q => absurd q hlt6) (fun _ μ' r fr => ⟨fun q => absurd rfl q, fun _ => k μ' ?_ fr⟩))
          rw [hg, n35, if_neg (by decide), if_pos y8, if_neg hlt6]; exact r
    · refine cb_goesIn (by omega) hE y35 (by decide) hdep.2 (fun hlt6 μ' r fr => ⟨fun _ => ⟨by omega, ?_⟩, fun q => absurd q (by decide)⟩) (fun hge μ' r fr => ⟨fun q => absurd rfl q, fun _ => k μ' ?_ fr⟩)
      · have L2 : Lm f 1 (stepE e) := Lm.step (s := 0) hL (isE_t.mp y35).1
        refine (hU hlt6).1 (D + 1) sc μ' _ _ (by omega) r (fun q => by have := L2 q; omega) (hmx.same fr) ?_
        intro μ3 r3 f3
        have fin : ∀ μ5, RQ μ5 b n N f (expE (txt b n) 36 (sumE (txt b n) a (stepE e))) → FRl f μ3 μ5 → R μ5 := fun μ5 r5 f5 => k μ5 (by rw [hg, if_pos y35, if_pos hlt6]; exact r5) ((fr.tr f3).tr f5)
        exact cb_exp (by omega) r3 (K := 36) (by unfold kOk; omega) (by decide) rfl fin fin
      · rw [hg, if_pos y35, if_neg (by omega)]; exact r
  have nE : ∀ K : Int, (txt b n).1 (eK e) ≠ K → isE (txt b n) e K = false := fun K q => decide_eq_false (fun y => q y.2)
  refine s_X10_readAtom_0 (cb_is (by omega) hE (K := 50) (by unfold kOk; omega) rfl (fun n50 => ⟨fun _ => ⟨fun z => ?_, fun z => ?_⟩, fun q => absurd rfl q⟩) (fun y50 => ⟨fun q => absurd q (by decide), fun _ => ?_⟩))
  · rw [hE.2.2.2.2.2.1] at z
    exact rest (fun y => absurd y z)
  · rw [hE.2.2.2.2.2.1] at z
    have hk50 : (txt b n).1 (eK e) ≠ 50 := fun y => by rw [isE_t.mpr ⟨z, y⟩] at n50; exact absurd n50 (by decide)
    have h9 : μ 183 9 = trK ((txt b n).1 (eK e)) := (hE.2.2.2.2.2.2.1 z).1.1
    have hok : kOk ((txt b n).1 (eK e)) := tkK_ok b n _
    rw [h9]
    refine cb_wordOf (by omega) hmx hok (fun y x x1 x2 x3 => ⟨fun q => absurd q x1, fun _ => ?_⟩) (fun y => ⟨fun _ => ?_, fun q => absurd rfl q⟩)
    · rw [h9]
      refine cb_wordOf (by omega) hmx hok (fun _ x' _ x2' x3' => ⟨by omega, ?_⟩) (fun q => absurd y q)
      exact one (1000 + (txt b n).1 (eK e)) (1000 + x') z (nE 35 (by omega)) (nE 8 (by omega)) (by unfold leafE; rw [if_neg hk50, if_pos y]) x3' (by omega)
    · exact rest (fun _ => by unfold leafE; rw [if_neg hk50, if_neg y])
  · have y2 := isE_t.mp y50
    have h10 : μ 183 10 = (txt b n).2.2 (eK e) := (hE.2.2.2.2.2.2.1 y2.1).1.2.2.2 y2.2
    rw [h10]
    have hvb := hT.2 (eK e)
    refine one ((txt b n).2.2 (eK e)) _ y2.1 (nE 35 (by omega)) (nE 8 (by omega)) (by unfold leafE; rw [if_pos y2.2]) ?_ (by omega)
    unfold trC
    rw [if_pos (by omega)]
/-- all levels -/
theorem lv_CY {b : Int → Int} {n N : Nat} {f mx : Int} (hT : TH (txt b n) N) (hmx : mx = 21 ∨ mx = 23) : ∀ m : Nat, m ≤ 6 → CY mX10_readAtom (6 - m) (9 + 8 * m) b n N f mx (lvE (txt b n) mx m).1 ∧ CY mX10_readUnit (6 - m) (12 + 8 * m) b n N f mx (lvE (txt b n) mx m).2 := by
  intro m
  induction m with
  | zero =>
    intro _
    have pg := lv_PG hT hmx 0
    have ha : CY mX10_readAtom (6 - (0 : Nat)) 9 b n N f mx (lvE (txt b n) mx 0).1 := CY.atom (D := 7) (a := id) (u := id) (ha := 0) (hu := 0) (by decide) (fun q => absurd q (by decide)) (fun e => by
      show atom0 (txt b n) mx e = _
      unfold atom0
      rfl) (Nat.le_refl _) (fun e z => (pg.1 e).1 z)
    refine ⟨ha, ?_⟩
    have ht := ha.term pg.1 (by decide)
    have hs := ht.sum (pg.1.term hT (by decide)) (by decide)
    exact CY.unit (D := 11) (u := id) (hu := 0) (by decide) hs (pg.1.sum hT (by decide)) (fun q => absurd q (by decide)) (fun e => by
      show unit0 (txt b n) (atom0 (txt b n) mx) e = _
      unfold unit0
      rfl) (by decide)
  | succ m ih =>
    intro hm
    obtain ⟨i1, i2⟩ := ih (by omega)
    have pg := lv_PG hT hmx m
    have pg2 := lv_PG hT hmx (m + 1)
    have hdep : (6 : Int) - ((m + 1 : Nat) : Int) + 1 = 6 - (m : Int) := by omega
    have hlt6 : (6 : Int) - ((m + 1 : Nat) : Int) < 6 := by omega
    have ht := i1.term pg.1 (by omega)
    have hs := ht.sum (pg.1.term hT (by omega)) (by omega)
    have hb := i2.both pg.2 (by omega)
    have htr := hb.truth (pg.2.both hT (by omega)) (by omega)
    have ha : CY mX10_readAtom (6 - ((m + 1 : Nat) : Int)) (9 + 8 * (m + 1)) b n N f mx (lvE (txt b n) mx (m + 1)).1 := by
      refine (CY.atom (D := 14 + 8 * m) (a := (lvE (txt b n) mx m).1) (u := (lvE (txt b n) mx m).2) (by omega) (fun _ => ⟨?_, pg.1.sum hT (by omega), ?_, pg.2.truth hT (by omega)⟩) (fun e => ?_) (by omega) (fun e z => (pg2.1 e).1 z)).mono (by omega)
      · rw [hdep]; exact hs.mono (by omega)
      · rw [hdep]; exact htr.mono (by omega)
      · show atomS (txt b n) mx (lvE (txt b n) mx m).1 (lvE (txt b n) mx m).2 e = _
        unfold atomS
        simp only [if_pos hlt6]
    refine ⟨ha, ?_⟩
    have ht2 := ha.term pg2.1 (by omega)
    have hs2 := ht2.sum (pg2.1.term hT (by omega)) (by omega)
    refine (CY.unit (D := 9 + 8 * (m + 1) + 2) (u := (lvE (txt b n) mx m).2) (by omega) hs2 (pg2.1.sum hT (by omega)) (fun _ => ⟨?_, ?_, pg.2⟩) (fun e => ?_) (by omega)).mono (by omega)
    · rw [hdep]; exact i2.mono (by omega)
    · rw [hdep]; exact htr.mono (by omega)
    · show unitS (txt b n) (atomS (txt b n) mx (lvE (txt b n) mx m).1 (lvE (txt b n) mx m).2) (lvE (txt b n) mx m).2 e = _
      unfold unitS
      simp only [if_pos hlt6]
      rfl
theorem law_CY {b : Int → Int} {n N : Nat} {f mx : Int} (hT : TH (txt b n) N) (hmx : mx = 21 ∨ mx = 23) : CY mX10_readSum 0 64 b n N f mx (sumE (txt b n) (lvE (txt b n) mx 6).1) ∧ CY mX10_readTruth 0 64 b n N f mx (truthE (txt b n) (lvE (txt b n) mx 6).2) := by
  have pg := lv_PG hT hmx 6
  obtain ⟨i1, i2⟩ := lv_CY (f := f) hT hmx 6 (Nat.le_refl _)
  have e : (6 : Int) - ((6 : Nat) : Int) = 0 := by decide
  rw [e] at i1 i2
  exact ⟨((i1.term pg.1 (by decide)).sum (pg.1.term hT (by decide)) (by decide)).mono (by decide), ((i2.both pg.2 (by decide)).truth (pg.2.both hT (by decide)) (by decide)).mono (by decide)⟩

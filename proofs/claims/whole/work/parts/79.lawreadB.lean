/-! THE CLASS READS: units, atoms, all of a law -/
theorem CX.mono {md : MD} {dep : Int} {D D' : Nat} {T : TxT} {N : Nat} {h mx : Int} {g : ES → ES} (hC : CX md dep D T N h mx g) (hD : D ≤ D') : CX md dep D' T N h mx g := fun d sc μ e R hd => hC d sc μ e R (by omega)
theorem mx_same {μ μ' : Mem} {h mx : Int} (hh : isK 1 h) (f : FRe μ μ' h) (hmx : (μ 28 10 = 0 ∧ mx = 21) ∨ (μ 28 10 ≠ 0 ∧ mx = 23)) : (μ' 28 10 = 0 ∧ mx = 21) ∨ (μ' 28 10 ≠ 0 ∧ mx = 23) := by
  have := ik_1 hh
  rw [f _ _ (by omega) (by omega)]; exact hmx
theorem CX.unit {T : TxT} {N D : Nat} {h mx dep ha hu : Int} {a u g : ES → ES} (hT : TH T N) (hdep : 0 ≤ dep ∧ dep ≤ 6) (hS : CX mX7_readSum dep D T N h mx (sumE T a)) (hPS : PG T N mx 0 ha (sumE T a)) (hU : dep < 6 → CX mX7_readUnit (dep + 1) D T N h mx u ∧ CX mX7_readTruth (dep + 1) D T N h mx (truthE T u) ∧ PG T N mx 1 hu u)
    (hg : ∀ e, g e = if isE T e 14 = true then (if dep < 6 then emitE 1014 (u (stepE e)) else failE T 4 e) else if isE T e 37 = true then (if dep < 6 then expE T 38 (truthE T u (stepE e)) else failE T 4 e) else unitB T a e) (hD : 3 ≤ D) : CX mX7_readUnit dep (D + 1) T N h mx g := by
  intro d sc μ e R hd hE hL hmx k
  refine byV (d' := D) (by omega) (Q := R) ?_ (fun _ z => z)
  refine CTv_of mp_X7_readUnit (Nat.le_of_ble_eq_true rfl) ?_
  -- after the sign
  have at121 : ∀ μ9 : Mem, isE T e 14 = false → isE T e 37 = false → RE μ9 T N h (cmpE T (sumE T a e)) → FRe μ μ9 h → Ln 0 (sumE T a e) → WQ mX7_readUnit D sc (ZV sc R) 121 [(2, 28), (0, dep), (0, T.1 (eK (sumE T a e)))] [] μ9 := by
    intro μ9 n14 n37 r9 f9 L1
    have he : g e = unitB T a e := by rw [hg, n14, n37, if_neg (by decide), if_neg (by decide)]
    have hf9 := r9.2.2.2.2.2.2.1
    refine s_X7_readUnit_121 ⟨fun z => ?_, fun z => ?_⟩
    · rw [hf9] at z
      have e2 : unitB T a e = cmpE T (sumE T a e) := by unfold unitB; rw [if_neg z]
      exact k μ9 (by rw [he, e2]; exact r9) f9
    · rw [hf9] at z
      have e2 : unitB T a e = emitE (1000 + T.1 (eK (sumE T a e))) (sumE T a (cmpE T (sumE T a e))) := by unfold unitB; rw [if_pos z]
      have hc : (isE T (sumE T a e) 39 || isE T (sumE T a e) 40 || isE T (sumE T a e) 41) = true := by
        by_cases q : (isE T (sumE T a e) 39 || isE T (sumE T a e) 40 || isE T (sumE T a e) 41) = true
        · exact q
        · have e3 : cmpE T (sumE T a e) = failE T 2 (sumE T a e) := by unfold cmpE; rw [if_neg q]
          rw [e3] at z
          by_cases y : eF (sumE T a e) = 0
          · have := (fail_f (T := T) (w := 2) (by decide) y).2.1
            omega
          · rw [fail_no y] at z; exact absurd z y
      have e3 : cmpE T (sumE T a e) = stepE (sumE T a e) := by unfold cmpE; rw [if_pos hc]
      rw [Bool.or_eq_true, Bool.or_eq_true, isE_t, isE_t, isE_t] at hc
      have y0 : eF (sumE T a e) = 0 := by rcases hc with (q | q) | q <;> exact q.1
      have hk : T.1 (eK (sumE T a e)) = 39 ∨ T.1 (eK (sumE T a e)) = 40 ∨ T.1 (eK (sumE T a e)) = 41 := by omega
      rw [e3] at r9 e2
      have L2 : Ln 1 (stepE (sumE T a e)) := Ln.step (s := 0) L1 y0
      refine hS D sc μ9 _ _ (Nat.le_refl _) r9 (fun q => by have := L2 q; omega) (mx_same hE.1 f9 hmx) ?_
      intro μ3 r3 f3
      have L3 : Ln 1 (sumE T a (stepE (sumE T a e))) := Ln.PG L2 hPS r9.2.2.2.2.2.1.1
      refine ⟨by omega, ca_emit (by omega) r3 (L3.lt hE.2.1 r3.2.2.2.2.2.1.1) ?_⟩
      intro μ6 r6 f6
      exact k μ6 (by rw [he, e2]; exact r6) ((f9.tr f3).tr f6)
  refine s_X7_readUnit_0 (ca_isAt (by omega) hE (fun n14 => ⟨fun _ => ?_, fun q => absurd rfl q⟩) (fun y14 => ⟨fun q => absurd q (by decide), fun _ => ?_⟩))
  · refine ca_isAt (by omega) hE (fun n37 => ⟨fun _ => ?_, fun q => absurd rfl q⟩) (fun y37 => ⟨fun q => absurd q (by decide), fun _ => ?_⟩)
    · refine hS D sc μ e _ (Nat.le_refl _) hE hL hmx ?_
      intro μ8 r8 f8
      have L8 : Ln 0 (sumE T a e) := Ln.PG hL hPS hE.2.2.2.2.2.1.1
      have t8 := r8.tok
      have stepc : ∀ K : Int, (K = 39 ∨ K = 40 ∨ K = 41) → isE T (sumE T a e) K = true → CAv mX7_step D sc [(2, 28)] μ8 (fun μ15 => WQ mX7_readUnit D sc (ZV sc R) 121 [(2, 28), (0, dep), (0, T.1 (eK (sumE T a e)))] [] μ15) := by
        intro K hK y
        refine ca_step (by omega) r8 (fun _ => by rw [(isE_t.mp y).2]; omega) ?_
        intro μ15 r15 f15
        refine at121 μ15 n14 n37 ?_ (f8.tr f15) L8
        have e3 : cmpE T (sumE T a e) = stepE (sumE T a e) := by
          unfold cmpE
          rw [if_pos]
          rcases hK with q | q | q
          · rw [q] at y; rw [y]; rfl
          · rw [q] at y; rw [y, Bool.or_true]; rfl
          · rw [q] at y; rw [y, Bool.or_true]
        rw [e3]; exact r15
      refine ⟨t8.1, ?_⟩
      intro v10 h10
      rw [t8.2.1] at h10
      rw [h10]
      refine ca_isAt (by omega) r8 (fun n39 => ⟨fun q => absurd rfl q, fun _ => ?_⟩) (fun y39 => ⟨fun _ => stepc 39 (Or.inl rfl) y39, fun q => absurd q (by decide)⟩)
      refine ca_isAt (by omega) r8 (fun n40 => ⟨fun q => absurd rfl q, fun _ => ?_⟩) (fun y40 => ⟨fun _ => stepc 40 (Or.inr (Or.inl rfl)) y40, fun q => absurd q (by decide)⟩)
      refine ca_isAt (by omega) r8 (fun n41 => ⟨fun _ => ?_, fun q => absurd rfl q⟩) (fun y41 => ⟨fun q => absurd q (by decide), fun _ => stepc 41 (Or.inr (Or.inr rfl)) y41⟩)
      refine ca_fail (by omega) (by decide) r8 ?_
      intro μ25 r25 f25
      refine at121 μ25 n14 n37 ?_ (f8.tr f25) L8
      have e3 : cmpE T (sumE T a e) = failE T 2 (sumE T a e) := by unfold cmpE; rw [n39, n40, n41]; rfl
      rw [e3]; exact r25
    · refine ca_enter (by omega) hE y37 (by decide) (fun hlt μ' r f => ⟨fun q => absurd q (by decide), fun _ => ⟨by omega, ?_⟩⟩) (fun hge μ' r f => ⟨fun _ => k μ' ?_ f, fun q => absurd rfl q⟩)
      · have st := step_y (isE_t.mp y37).1
        have L2 : Ln 1 (stepE e) := Ln.step (s := 0) hL (isE_t.mp y37).1
        refine (hU hlt).2.1 D sc μ' _ _ (Nat.le_refl _) r (fun q => by have := L2 q; omega) (mx_same hE.1 f hmx) ?_
        intro μ3 r3 f3
        refine ca_expect (by omega) (by decide) r3 ?_
        intro μ5 r5 f5
        refine k μ5 ?_ ((f.tr f3).tr f5)
        rw [hg, n14, if_neg (by decide), if_pos y37, if_pos hlt]; exact r5
      · rw [hg, n14, if_neg (by decide), if_pos y37, if_neg (by omega)]; exact r
  · refine ca_enter (by omega) hE y14 (by decide) (fun hlt μ' r f => ⟨fun q => absurd q (by decide), fun _ => ⟨by omega, ?_⟩⟩) (fun hge μ' r f => ⟨fun _ => k μ' ?_ f, fun q => absurd rfl q⟩)
    · have st := step_y (isE_t.mp y14).1
      have L2 : Ln 1 (stepE e) := Ln.step (s := 0) hL (isE_t.mp y14).1
      refine (hU hlt).1 D sc μ' _ _ (Nat.le_refl _) r (fun q => by have := L2 q; omega) (mx_same hE.1 f hmx) ?_
      intro μ3 r3 f3
      have L3 : Ln 1 (u (stepE e)) := Ln.PG L2 (hU hlt).2.2 r.2.2.2.2.2.1.1
      refine ca_emit (by omega) r3 (L3.lt hE.2.1 r3.2.2.2.2.2.1.1) ?_
      intro μ5 r5 f5
      refine k μ5 ?_ ((f.tr f3).tr f5)
      rw [hg, if_pos y14, if_pos hlt]; exact r5
    · rw [hg, if_pos y14, if_neg (by omega)]; exact r
theorem CX.choice {T : TxT} {N D : Nat} {h mx dep ha hu : Int} {a u : ES → ES} (hT : TH T N) (hS : CX mX7_readSum dep D T N h mx (sumE T a)) (hPS : PG T N mx 0 ha (sumE T a)) (hU : CX mX7_readTruth dep D T N h mx (truthE T u)) (hPU : PG T N mx 1 hu (truthE T u)) (hD : 3 ≤ D) :
    ∀ (d : Nat) (sc : SC) (μ : Mem) (e : ES) (R : Mem → Prop), D + 1 ≤ d → RE μ T N h e → Ln 1 e → ((μ 28 10 = 0 ∧ mx = 21) ∨ (μ 28 10 ≠ 0 ∧ mx = 23)) → (∀ μ', RE μ' T N h (ifE T a u e) → FRe μ μ' h → R μ') → CAv mX7_readChoice d sc [(2, 28), (0, dep)] μ R := by
  intro d sc μ e R hd hE hL hmx k
  refine byV (d' := D) (by omega) (Q := R) ?_ (fun _ z => z)
  refine CTv_of mp_X7_readChoice (Nat.le_of_ble_eq_true rfl) ?_
  have w0 : ∀ e : ES, Ln 1 e → Ln 0 e := fun e hl q => by have := hl q; omega
  refine s_X7_readChoice_0 (hU D sc μ e _ (Nat.le_refl _) hE (w0 e hL) hmx ?_)
  intro μ2 r2 f2
  have L2 : Ln 1 (truthE T u e) := Ln.PG hL hPU hE.2.2.2.2.2.1.1
  refine ca_expect (by omega) (by decide) r2 ?_
  intro μ4 r4 f4
  have L4 : Ln 1 (expE T 9 (truthE T u e)) := L2.exp
  have F4 := f2.tr f4
  -- the end
  have last : ∀ (μ9 : Mem) (e9 : ES), RE μ9 T N h e9 → FRe μ μ9 h → Ln 1 e9 → e9 = sumIf T a (expE T 10 (sumIf T a (expE T 9 (truthE T u e)))) → CAv mX7_expect D sc [(2, 28), (0, 11)] μ9 (fun μ10 => CAv mX7_emit D sc [(2, 28), (0, 1008)] μ10 (fun μ12 => R μ12)) := by
    intro μ9 e9 r9 f9 L9 he
    refine ca_expect (by omega) (by decide) r9 ?_
    intro μ10 r10 f10
    refine ca_emit (by omega) r10 (L9.exp.lt hE.2.1 r10.2.2.2.2.2.1.1) ?_
    intro μ12 r12 f12
    refine k μ12 ?_ ((f9.tr f10).tr f12)
    unfold ifE
    rw [← he]; exact r12
  have mid : ∀ (μ9 : Mem) (e9 : ES), RE μ9 T N h e9 → FRe μ μ9 h → Ln 1 e9 → e9 = sumIf T a (expE T 9 (truthE T u e)) → CAv mX7_expect D sc [(2, 28), (0, 10)] μ9 (fun μ7 => (μ7 28 0 ≠ 0 → CAv mX7_expect D sc [(2, 28), (0, 11)] μ7 (fun μ10 => CAv mX7_emit D sc [(2, 28), (0, 1008)] μ10 (fun μ12 => R μ12))) ∧ (μ7 28 0 = 0 → CAv mX7_readSum D sc [(2, 28), (0, dep)] μ7 (fun μ14 => CAv mX7_expect D sc [(2, 28), (0, 11)] μ14 (fun μ16 => CAv mX7_emit D sc [(2, 28), (0, 1008)] μ16 (fun μ18 => R μ18))))) := by
    intro μ9 e9 r9 f9 L9 he
    refine ca_expect (by omega) (by decide) r9 ?_
    intro μ7 r7 f7
    have h7 := r7.2.2.2.2.2.2.1
    refine ⟨fun z => ?_, fun z => ?_⟩
    · rw [h7] at z
      exact last μ7 _ r7 (f9.tr f7) L9.exp (by rw [← he]; unfold sumIf; rw [if_neg z])
    · rw [h7] at z
      refine hS D sc μ7 _ _ (Nat.le_refl _) r7 (w0 _ L9.exp) (mx_same hE.1 (f9.tr f7) hmx) ?_
      intro μ14 r14 f14
      exact last μ14 _ r14 ((f9.tr f7).tr f14) (Ln.PG L9.exp hPS r7.2.2.2.2.2.1.1) (by rw [← he]; unfold sumIf; rw [if_pos z])
  have h4 := r4.2.2.2.2.2.2.1
  refine ⟨fun z => ?_, fun z => ?_⟩
  · rw [h4] at z
    exact mid μ4 _ r4 F4 L4 (by unfold sumIf; rw [if_neg z])
  · rw [h4] at z
    refine hS D sc μ4 _ _ (Nat.le_refl _) r4 (w0 _ L4) (mx_same hE.1 F4 hmx) ?_
    intro μ14 r14 f14
    exact mid μ14 _ r14 (F4.tr f14) (Ln.PG L4 hPS r4.2.2.2.2.2.1.1) (by unfold sumIf; rw [if_pos z])
theorem CX.atom {T : TxT} {N D : Nat} {h mx dep ha hu : Int} {a u g : ES → ES} (hT : TH T N) (hmx2 : mx = 21 ∨ mx = 23) (hdep : 0 ≤ dep ∧ dep ≤ 6) (hU : dep < 6 → CX mX7_readSum (dep + 1) D T N h mx (sumE T a) ∧ PG T N mx 0 ha (sumE T a) ∧ CX mX7_readTruth (dep + 1) D T N h mx (truthE T u) ∧ PG T N mx 1 hu (truthE T u))
    (hg : ∀ e, g e = if isE T e 35 = true then (if dep < 6 then expE T 36 (sumE T a (stepE e)) else failE T 4 e) else if isE T e 8 = true then (if dep < 6 then ifE T a u (stepE e) else failE T 4 e) else leafE T mx e) (hD : 3 ≤ D) : CX mX7_readAtom dep (D + 2) T N h mx g := by
  intro d sc μ e R hd hE hL hmx k
  refine byV (d' := D + 1) (by omega) (Q := R) ?_ (fun _ z => z)
  refine CTv_of mp_X7_readAtom (Nat.le_of_ble_eq_true rfl) ?_
  have t := hE.tok
  refine s_X7_readAtom_0 ⟨t.1, ?_⟩
  intro v2 h2
  rw [t.2.1] at h2
  rw [h2]
  refine ca_isAt (by omega) hE (fun n35 => ⟨fun _ => ?_, fun q => absurd rfl q⟩) (fun y35 => ⟨fun q => absurd q (by decide), fun _ => ?_⟩)
  · refine ca_isAt (by omega) hE (fun n8 => ⟨fun _ => ?_, fun q => absurd rfl q⟩) (fun y8 => ⟨fun q => absurd q (by decide), fun _ => ?_⟩)
    · have he : g e = leafE T mx e := by rw [hg, n35, n8, if_neg (by decide), if_neg (by decide)]
      have hlt : eF e = 0 → T.1 (eK e) ≠ 52 → (eC e).length < 900 := fun z y => by
        have := hT.lt hE.2.2.2.2.2.1.1 y
        have := hL z
        have := hE.2.1
        omega
      have one : ∀ op : Int, leafE T mx e = stepE (emitE op e) → T.1 (eK e) ≠ 52 → CAv mX7_emit (D + 1) sc [(2, 28), (0, op)] μ (fun μ19 => CAv mX7_step (D + 1) sc [(2, 28)] μ19 (fun μ21 => R μ21)) := by
        intro op ho hk
        refine ca_emit (by omega) hE (fun z => hlt z hk) ?_
        intro μ19 r19 f19
        have ek : eK (emitE op e) = eK e := by
          by_cases z : eF e = 0
          · exact (emit_y z).1
          · rw [emit_no z]
        refine ca_step (by omega) r19 (fun _ => by rw [ek]; exact hk) ?_
        intro μ21 r21 f21
        exact k μ21 (by rw [he, ho]; exact r21) (f19.tr f21)
      have bad : leafE T mx e = failE T 2 e → CAv mX7_fail (D + 1) sc [(2, 28), (0, 2)] μ (fun μ12 => R μ12) := fun ho => ca_fail (by omega) (by decide) hE (fun μ' r f => k μ' (by rw [he, ho]; exact r) f)
      have name : T.1 (eK e) ≠ 50 → 15 ≤ T.1 (eK e) ∧ T.1 (eK e) ≤ mx → leafE T mx e = stepE (emitE (1000 + T.1 (eK e)) e) := fun z1 z2 => by unfold leafE; rw [if_neg z1, if_pos z2]
      have none : T.1 (eK e) ≠ 50 → ¬ (15 ≤ T.1 (eK e) ∧ T.1 (eK e) ≤ mx) → leafE T mx e = failE T 2 e := fun z1 z2 => by unfold leafE; rw [if_neg z1, if_neg z2]
      refine ⟨fun z => ⟨fun z2 => bad (none z (by omega)), fun z2 => ⟨fun z3 => ?_, fun z3 => ?_⟩⟩, fun z => ⟨t.1, ?_⟩⟩
      · have hm : mx = 21 := by rcases hmx with q | q <;> omega
        exact ⟨fun z4 => bad (none z (by omega)), fun z4 => ⟨by omega, one _ (name z ⟨z2, by omega⟩) (by omega)⟩⟩
      · have hm : mx = 23 := by rcases hmx with q | q <;> omega
        exact ⟨fun z4 => bad (none z (by omega)), fun z4 => ⟨by omega, one _ (name z ⟨z2, by omega⟩) (by omega)⟩⟩
      · rw [t.2.2.2]
        exact one _ (by unfold leafE; rw [if_pos z]) (by omega)
    · refine ca_enter (by omega) hE y8 (by decide) (fun hlt μ' r f => ⟨fun q => absurd q (by decide), fun _ => ⟨by omega, ?_⟩⟩) (fun hge μ' r f => ⟨fun _ => k μ' ?_ f, fun q => absurd rfl q⟩)
      · have L2 : Ln 1 (stepE e) := Ln.step (s := 0) hL (isE_t.mp y8).1
        obtain ⟨q1, q2, q3, q4⟩ := hU hlt
        refine CX.choice hT q1 q2 q3 q4 hD (D + 1) sc μ' _ _ (Nat.le_refl _) r L2 (mx_same hE.1 f hmx) ?_
        intro μ3 r3 f3
        refine k μ3 ?_ (f.tr f3)
        rw [hg, n35, if_neg (by decide), if_pos y8, if_pos hlt]; exact r3
      · rw [hg, n35, if_neg (by decide), if_pos y8, if_neg (by omega)]; exact r
  · refine ca_enter (by omega) hE y35 (by decide) (fun hlt μ' r f => ⟨fun q => absurd q (by decide), fun _ => ⟨by omega, ?_⟩⟩) (fun hge μ' r f => ⟨fun _ => k μ' ?_ f, fun q => absurd rfl q⟩)
    · have L2 : Ln 1 (stepE e) := Ln.step (s := 0) hL (isE_t.mp y35).1
      refine (hU hlt).1 (D + 1) sc μ' _ _ (by omega) r (fun q => by have := L2 q; omega) (mx_same hE.1 f hmx) ?_
      intro μ3 r3 f3
      refine ca_expect (by omega) (by decide) r3 ?_
      intro μ5 r5 f5
      refine k μ5 ?_ ((f.tr f3).tr f5)
      rw [hg, if_pos y35, if_pos hlt]; exact r5
    · rw [hg, if_pos y35, if_neg (by omega)]; exact r
/-- all levels -/
theorem lv_CX {T : TxT} {N : Nat} {h mx : Int} (hT : TH T N) (hmx : mx = 21 ∨ mx = 23) : ∀ m : Nat, m ≤ 6 → CX mX7_readAtom (6 - m) (5 + 8 * m) T N h mx (lvE T mx m).1 ∧ CX mX7_readUnit (6 - m) (8 + 8 * m) T N h mx (lvE T mx m).2 := by
  intro m
  induction m with
  | zero =>
    intro _
    have pg := lv_PG hT hmx 0
    have ha : CX mX7_readAtom (6 - (0 : Nat)) 5 T N h mx (lvE T mx 0).1 := CX.atom (D := 3) (a := id) (u := id) (ha := 0) (hu := 0) hT hmx (by decide) (fun q => absurd q (by decide)) (fun e => by
      show atom0 T mx e = _
      unfold atom0
      rfl) (Nat.le_refl _)
    refine ⟨ha, ?_⟩
    have ht := ha.term hT pg.1 (by decide)
    have hs := ht.sum hT (pg.1.term hT (by decide)) (by decide)
    exact CX.unit (D := 7) (u := id) (hu := 0) hT (by decide) hs (pg.1.sum hT (by decide)) (fun q => absurd q (by decide)) (fun e => by
      show unit0 T (atom0 T mx) e = _
      unfold unit0
      rfl) (by decide)
  | succ m ih =>
    intro hm
    obtain ⟨i1, i2⟩ := ih (by omega)
    have pg := lv_PG hT hmx m
    have pg2 := lv_PG hT hmx (m + 1)
    have hdep : (6 : Int) - ((m + 1 : Nat) : Int) + 1 = 6 - (m : Int) := by omega
    have hlt6 : (6 : Int) - ((m + 1 : Nat) : Int) < 6 := by omega
    have ht := i1.term hT pg.1 (by omega)
    have hs := ht.sum hT (pg.1.term hT (by omega)) (by omega)
    have hb := i2.both hT pg.2 (by omega)
    have htr := hb.truth hT (pg.2.both hT (by omega)) (by omega)
    have ha : CX mX7_readAtom (6 - ((m + 1 : Nat) : Int)) (5 + 8 * (m + 1)) T N h mx (lvE T mx (m + 1)).1 := by
      refine (CX.atom (D := 10 + 8 * m) (a := (lvE T mx m).1) (u := (lvE T mx m).2) hT hmx (by omega) (fun _ => ⟨?_, pg.1.sum hT (by omega), ?_, pg.2.truth hT (by omega)⟩) (fun e => ?_) (by omega)).mono (by omega)
      · rw [hdep]; exact hs.mono (by omega)
      · rw [hdep]; exact htr.mono (by omega)
      · show atomS T mx (lvE T mx m).1 (lvE T mx m).2 e = _
        unfold atomS
        simp only [if_pos hlt6]
    refine ⟨ha, ?_⟩
    have ht2 := ha.term hT pg2.1 (by omega)
    have hs2 := ht2.sum hT (pg2.1.term hT (by omega)) (by omega)
    refine (CX.unit (D := 5 + 8 * (m + 1) + 2) (u := (lvE T mx m).2) hT (by omega) hs2 (pg2.1.sum hT (by omega)) (fun _ => ⟨?_, ?_, pg.2⟩) (fun e => ?_) (by omega)).mono (by omega)
    · rw [hdep]; exact i2.mono (by omega)
    · rw [hdep]; exact htr.mono (by omega)
    · show unitS T (atomS T mx (lvE T mx m).1 (lvE T mx m).2) (lvE T mx m).2 e = _
      unfold unitS
      simp only [if_pos hlt6]
      rfl
theorem law_CX {T : TxT} {N : Nat} {h mx : Int} (hT : TH T N) (hmx : mx = 21 ∨ mx = 23) : CX mX7_readSum 0 60 T N h mx (sumE T (lvE T mx 6).1) ∧ CX mX7_readTruth 0 60 T N h mx (truthE T (lvE T mx 6).2) := by
  have pg := lv_PG hT hmx 6
  obtain ⟨i1, i2⟩ := lv_CX (h := h) hT hmx 6 (Nat.le_refl _)
  have e : (6 : Int) - ((6 : Nat) : Int) = 0 := by decide
  rw [e] at i1 i2
  exact ⟨((i1.term hT pg.1 (by decide)).sum hT (pg.1.term hT (by decide)) (by decide)).mono (by decide), ((i2.both hT pg.2 (by decide)).truth hT (pg.2.both hT (by decide)) (by decide)).mono (by decide)⟩

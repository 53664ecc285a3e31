/-! THE REFERENCE: a day, all of it -/
def DMd (μ : Mem) (H : HillT) (P PN : PlanT) (n : Nat) : Prop := HM μ (hicL (daySt (gapQ H P) (ansQ H P) PN n) n) ∧ (∀ p, 0 ≤ p → p < 6 → μ 203 p = cntA (ansL (gapQ H P) (ansQ H P) PN n) p) ∧ ∀ k, 0 ≤ k → k < pN PN → μ 204 k = if saidF (gapQ H P) (ansQ H P) PN n k = true then 1 else 0
def FGd (μ μ' : Mem) : Prop := ∀ b j, (b = 183 → j ≠ 35 ∧ j ≠ 36) → (b < 188 ∨ 204 < b ∨ (191 ≤ b ∧ b ≤ 194)) → μ' b j = μ b j
theorem FGd.w {μ μ' : Mem} (h : FGd μ μ') : FW μ μ' := fun b j q1 q2 => h b j (fun y => by have := q1 y; omega) (by omega)
theorem cb_goesDay {d : Nat} {sc : SC} {μ : Mem} {H : HillT} {P PN : PlanT} {R : Mem → Prop} (hd : 5 ≤ d) (hY : MY μ H P) (hC : CM μ H (pWind P)) (hG : GG μ H P) (hT : TL μ PN) (hw : wfNp (hP H) PN)
    (k : ∀ μ', FGd μ μ' → CM μ' H (pWind P) → DMd μ' H P PN 100 → R μ') : CAv mX10_goesDay d sc [(2, 183)] μ R := by
  have h6 := hY.2.2.1.2.2.1
  have hg := gapQ_ok H P
  have hn10 := hw.1
  refine byV (d' := 4) (by omega) (Q := R) ?_ (fun _ z => z)
  refine CTv_of mp_X10_goesDay (Nat.le_of_ble_eq_true rfl) ?_
  refine s_X10_goesDay_0 ?_
  intro μ1 e1 μ2 e2
  have g2 : ∀ b j : Int, (b = 183 → j ≠ 35 ∧ j ≠ 36) → μ2 b j = μ b j := fun b j y => by rw [e2, mup_ap, if_neg (fun z => (y z.1).2 z.2), e1, mup_ap, if_neg (fun z => (y z.1).1 z.2)]
  have s35 : μ2 183 35 = 0 := by rw [e2, mup_ap, if_neg (fun z => by omega), e1, mup_at]
  have s36 : μ2 183 36 = 0 := by rw [e2, mup_at]
  -- minutes
  have key : ∀ (r t : Nat) (μ1 : Mem), t + r = 100 → FGd μ μ1 → CM μ1 H (pWind P) → DRm μ1 (daySt (gapQ H P) (ansQ H P) PN t) t → DMd μ1 H P PN t →
      WQ mX10_goesDay 4 sc (ZV sc R) 79 [(2, 183), (0, ((hicL (daySt (gapQ H P) (ansQ H P) PN t) (t - 1)).length : Int)), (0, (t : Int)), (9, 0), (9, 0), (9, 0), (9, 0)] [] μ1 := by
    intro r
    induction r with
    | zero =>
      intro t μ1 ht hF hC1 hD hM
      rw [show t = 100 by omega] at hM ⊢
      exact s_X10_goesDay_79 ⟨fun _ => k μ1 hF hC1 hM, fun z => by omega⟩
    | succ r ih =>
      intro t μ1 ht hF hC1 hD hM
      obtain ⟨hHR, hAB, hSD⟩ := hM
      generalize hS : daySt (gapQ H P) (ansQ H P) PN t = S at *
      have hS1 : daySt (gapQ H P) (ansQ H P) PN (t + 1) = S ++ newS (gapQ H P) (ansQ H P) PN t S := by rw [daySt, hS]
      have hSl : S.length ≤ 500 := by rw [← hS]; exact daySt_len hg hn10.2 (by omega)
      have hSl1 : (S ++ newS (gapQ H P) (ansQ H P) PN t S).length ≤ 500 := by rw [← hS1]; exact daySt_len hg hn10.2 (by omega)
      have hgood : ∀ x ∈ S, goodQ (hP H) x.2 := by rw [← hS]; exact daySt_good h6.2 hw t
      have hdue : ∀ x ∈ S, 1 ≤ x.1 ∧ x.1 < 100 := by rw [← hS]; exact daySt_due hg t
      have hhb : hicL S t = hicL S (t - 1) ++ (hicAt S ((t : Int) - 1)).map (fun q => ((t : Int) - 1, q)) := by
        cases t with
        | zero =>
          have e : hicAt S (((0 : Nat) : Int) - 1) = [] := hicAt_none (fun x hx => by have := hdue x hx; omega)
          rw [e]; rfl
        | succ t =>
          rw [hicL, show (((t + 1 : Nat) : Int) - 1) = (t : Int) by omega]; rfl
      have hfrom : ((hicL S t).length : Int) = ((hicL S (t - 1)).length : Int) + (hicAt S ((t : Int) - 1)).length := by
        rw [hhb, List.length_append, List.length_map]; omega
      have hlater : hicL (daySt (gapQ H P) (ansQ H P) PN (t + 1)) (t + 1) = hicL S t ++ (hicAt S t).map (fun q => ((t : Int), q)) := by rw [hicL_later hg, hS]; rfl
      have hlat0 : hicL (daySt (gapQ H P) (ansQ H P) PN (t + 1)) (t + 1 - 1) = hicL S t := by
        rw [Nat.add_sub_cancel, ← hS]
        exact hicL_same _ (fun u hu => hicAt_later hg (by omega))
      have hlens : (hicL S t).length + (hicAt S t).length ≤ 500 := by
        have := hicL_le S (t + 1)
        rw [hicL, List.length_append, List.length_map] at this
        omega
      have hans : ansL (gapQ H P) (ansQ H P) PN (t + 1) = ansL (gapQ H P) (ansQ H P) PN t ++ anss (ansQ H P) t (hicAt S t) (hicAt S ((t : Int) - 1)) := by rw [ansL, hS]
      have hnew : newS (gapQ H P) (ansQ H P) PN t S = dueL (gapQ H P) t (nams PN t (hicAt S t)) ++ dueL (gapQ H P) t (anss (ansQ H P) t (hicAt S t) (hicAt S ((t : Int) - 1))) := by unfold newS; rw [dueL_app]
      have hal : (ansL (gapQ H P) (ansQ H P) PN t).length ≤ 50000 := by
        have := ansL_len (ans := ansQ H P) (P := PN) hg hn10.2 t (by omega)
        omega
      refine s_X10_goesDay_79 ⟨fun z => by omega, fun _ => ?_⟩
      intro v2 h2
      rw [hHR.1] at h2
      rw [h2]
      refine ⟨by omega, ?_⟩
      intro v4 h4
      rw [h4]
      refine gd_come (t := (t : Int)) ⟨by omega, by omega⟩ hD hHR (fun x hx => by have := hgood x hx; unfold goodQ at this; omega) (by omega) (by omega) ?_
      intro bz μ7 hbz hbits H7 f7
      have F7 : FGd μ μ7 := fun b j y1 y2 => by rw [f7 b j (fun z => (y1 z).2) (by omega)]; exact hF b j y1 y2
      have G7 : GG μ7 H P := fun a b a0 a1 b0 b1 hab => by rw [F7 _ _ (by omega) (by omega)]; exact hG a b a0 a1 b0 b1 hab
      have T7 : TL μ7 PN := hT.same (F7 _ _ (by omega) (by omega)) (fun b j _ _ => F7 b j (by omega) (by omega))
      have D7 : DRm μ7 S t := hD.same (by omega) (f7 _ _ (by omega) (by omega)) (fun b j _ _ => f7 b j (by omega) (by omega))
      refine gd_told (by omega) G7 h6.2 T7 hw ⟨by omega, by omega⟩ D7 (by omega) hbz hbits ?_
      intro μ9 D9 sd9 f9
      have F9 : FGd μ μ9 := fun b j y1 y2 => by rw [f9 b j (fun z => (y1 z).1) (by omega) (by omega)]; exact F7 b j y1 y2
      have Y9 : MY μ9 H P := hY.same (fun j => F9 _ _ (by omega) (by omega))
      have C9 : CM μ9 H (pWind P) := hC1.same (fun j => by rw [f9 _ _ (by omega) (by omega) (by omega), f7 _ _ (by omega) (by omega)])
      have G9 : GG μ9 H P := fun a b a0 a1 b0 b1 hab => by rw [F9 _ _ (by omega) (by omega)]; exact hG a b a0 a1 b0 b1 hab
      have H9 : HM μ9 (hicL S t ++ (hicAt S t).map (fun q => ((t : Int), q))) := H7.same (f9 _ _ (by omega) (by omega) (by omega)) (fun b j _ _ => f9 b j (by omega) (by omega) (by omega))
      have AB9 : ∀ p, 0 ≤ p → p < 6 → μ9 203 p = cntA (ansL (gapQ H P) (ansQ H P) PN t) p := fun p p0 p1 => by rw [f9 _ _ (by omega) (by omega) (by omega), f7 _ _ (by omega) (by omega)]; exact hAB p p0 p1
      have hhl := hicAt_len S ((t : Int) - 1)
      have hcount : ((hicL S t ++ (hicAt S t).map (fun q => ((t : Int), q))).length) = (hicL S t).length + (hicAt S t).length := by rw [List.length_append, List.length_map]
      rw [hnew, ← List.append_assoc, List.length_append] at hSl1
      rw [hfrom]
      refine gd_ans (P := P) (Nat.le_refl _) Y9 C9 G9 ⟨by omega, by omega⟩ ?_ D9 (by omega) hbz hbits ⟨by omega, ?_⟩ (fun i hi => ?_) (fun q hq => ?_) (fun p p0 p1 => ?_) ?_
      · intro hne
        cases t with
        | zero => exact absurd (hicAt_none (fun x hx => by have := hdue x hx; omega)) hne
        | succ t => omega
      · have := hicL_le S t
        omega
      · have hi2 : (hicL S (t - 1)).length + i < (hicL S t ++ (hicAt S t).map (fun q => ((t : Int), q))).length := by
          rw [hcount]
          omega
        have := H9.2 ((hicL S (t - 1)).length + i) hi2
        have e : (hicL S t ++ (hicAt S t).map (fun q => ((t : Int), q)))[(hicL S (t - 1)).length + i] = ((t : Int) - 1, (hicAt S ((t : Int) - 1))[i]) := by
          have h3 : (hicL S t ++ (hicAt S t).map (fun q => ((t : Int), q)))[(hicL S (t - 1)).length + i]? = some ((t : Int) - 1, (hicAt S ((t : Int) - 1))[i]) := by
            rw [hhb, List.append_assoc, List.getElem?_append_right (by omega), show (hicL S (t - 1)).length + i - (hicL S (t - 1)).length = i by omega, List.getElem?_append_left (by rw [List.length_map]; exact hi), List.getElem?_map, List.getElem?_eq_getElem hi]
            rfl
          rw [List.getElem?_eq_getElem hi2] at h3
          exact Option.some.inj h3
        rw [e] at this
        rw [show (((hicL S (t - 1)).length + i : Nat) : Int) = ((hicL S (t - 1)).length : Int) + i by omega] at this
        exact ⟨this.1, this.2.1⟩
      · obtain ⟨x, hx, _, rfl⟩ := hicAt_mem hq
        exact hgood x hx
      · rw [AB9 p p0 p1]
        have := List.countP_le_length (p := fun z => z / 6 == p) (l := ansL (gapQ H P) (ansQ H P) PN t)
        unfold cntA
        omega
      · intro μ12 D12 C12 ab12 f12
        refine ⟨by omega, ?_⟩
        rintro _ rfl
        have F12 : FGd μ μ12 := fun b j y1 y2 => by rw [f12 b j (fun z => (y1 z).1) (by omega) (by omega) (by omega) (by omega) (by omega)]; exact F9 b j y1 y2
        have eS : daySt (gapQ H P) (ansQ H P) PN (t + 1) = S ++ dueL (gapQ H P) t (nams PN t (hicAt S t)) ++ dueL (gapQ H P) t (anss (ansQ H P) t (hicAt S t) (hicAt S ((t : Int) - 1))) := by rw [hS1, hnew, List.append_assoc]
        have := ih (t + 1) μ12 (by omega) F12 C12 ?_ ⟨?_, ?_, ?_⟩
        · rw [hlat0, hfrom] at this
          exact this
        · rw [eS]
          obtain ⟨d1, d2, d3⟩ := D12
          exact ⟨d1.later (by omega), d2, d3⟩
        · rw [hlater]
          exact H9.same (f12 _ _ (by omega) (by omega) (by omega) (by omega) (by omega) (by omega)) (fun b j _ _ => f12 b j (by omega) (by omega) (by omega) (by omega) (by omega) (by omega))
        · intro p p0 p1
          rw [ab12 p p0 p1, AB9 p p0 p1, hans, cntA_app]
        · intro j j0 j1
          rw [f12 _ _ (by omega) (by omega) (by omega) (by omega) (by omega) (by omega), sd9 j j0 j1, f7 _ _ (by omega) (by omega), hSD j j0 j1, saidF_next hg, hS]
          by_cases y : pAt PN j = (t : Int)
          · rw [if_pos (⟨j0, j1, y⟩ : 0 ≤ j ∧ j < pN PN ∧ pAt PN j = (t : Int))]
            have hold : saidF (gapQ H P) (ansQ H P) PN t j = false := by
              unfold saidF
              rw [decide_eq_false (fun z => by omega), Bool.false_and]
            rw [hold]
            cases hm : muteB (hicAt S t) (pWho PN j)
            · rw [if_pos ⟨y, rfl⟩]; rfl
            · rw [if_neg (fun z => absurd z.2 (by decide))]; rfl
          · rw [if_neg (fun z => y z.1), if_neg (fun z : 0 ≤ j ∧ j < pN PN ∧ pAt PN j = (t : Int) => y z.2.2)]
  -- said is cleared
  have clr : ∀ (r i : Nat) (μ3 : Mem), (i : Int) + r = pN PN → FGd μ μ3 → (∀ j, μ3 183 j = μ2 183 j) → (∀ j, μ3 190 j = μ 190 j) → (∀ u : Int, 0 ≤ u → u < 100 → μ3 195 u = -1) → (∀ p : Int, 0 ≤ p → p < 6 → μ3 203 p = 0) → (∀ j : Int, 0 ≤ j → j < i → μ3 204 j = 0) →
      WQ mX10_goesDay 4 sc (ZV sc R) 56 [(2, 183), (0, 0), (0, (i : Int)), (9, 0), (9, 0), (9, 0), (9, 0)] [] μ3 := by
    intro r
    induction r with
    | zero =>
      intro i μ3 hi hF h183 h190 h195 h203 h204
      refine s_X10_goesDay_56 ⟨fun _ => ?_, fun z => by rw [h183, g2 _ _ (by omega), hT.1] at z; omega⟩
      refine key 100 0 μ3 rfl hF (hC.same h190) ⟨⟨fun i hi => absurd hi (by show ¬ i < 0; omega), fun u u0 u1 => ⟨h195 u u0 u1, fun z hz => absurd hz (by show ¬ ([] : List Int).getLast? = some z; simp)⟩⟩, by rw [h183]; exact s35, fun i hi => absurd hi (by show ¬ i < 0; omega)⟩ ⟨⟨by rw [h183]; exact s36, fun i hi => absurd hi (by show ¬ i < 0; omega)⟩, fun p p0 p1 => by rw [h203 p p0 p1]; rfl, fun j j0 j1 => ?_⟩
      rw [h204 j j0 (by omega)]
      have : saidF (gapQ H P) (ansQ H P) PN 0 j = false := by
        unfold saidF
        have := hw.2 j j0 j1
        rw [decide_eq_false (fun z => by omega), Bool.false_and]
      rw [this]; rfl
    | succ r ih =>
      intro i μ3 hi hF h183 h190 h195 h203 h204
      refine s_X10_goesDay_56 ⟨fun z => by rw [h183, g2 _ _ (by omega), hT.1] at z; omega, fun _ => ⟨by omega, ?_⟩⟩
      intro μ4 e4
      have g4 : ∀ b j : Int, b ≠ 204 → μ4 b j = μ3 b j := fun b j y => by rw [e4, mup_ap, if_neg (fun z => y z.1)]
      refine ⟨by omega, ?_⟩
      rintro _ rfl
      refine ih (i + 1) μ4 (by omega) (fun b j y1 y2 => by rw [g4 b j (by omega)]; exact hF b j y1 y2) (fun j => by rw [g4 _ _ (by omega)]; exact h183 j) (fun j => by rw [g4 _ _ (by omega)]; exact h190 j) (fun u u0 u1 => by rw [g4 _ _ (by omega)]; exact h195 u u0 u1) (fun p p0 p1 => by rw [g4 _ _ (by omega)]; exact h203 p p0 p1) (fun j j0 j1 => ?_)
      rw [e4, mup_ap]
      by_cases y : j = i
      · rw [if_pos ⟨rfl, y⟩]
      · rw [if_neg (fun z => y z.2)]; exact h204 j j0 (by omega)
  have clr2 : ∀ (r i : Nat) (μ3 : Mem), i + r = 6 → FGd μ μ3 → (∀ j, μ3 183 j = μ2 183 j) → (∀ j, μ3 190 j = μ 190 j) → (∀ u : Int, 0 ≤ u → u < 100 → μ3 195 u = -1) → (∀ p : Int, 0 ≤ p → p < i → μ3 203 p = 0) →
      WQ mX10_goesDay 4 sc (ZV sc R) 35 [(2, 183), (0, 0), (0, (i : Int)), (9, 0), (9, 0), (9, 0), (9, 0)] [] μ3 := by
    intro r
    induction r with
    | zero =>
      intro i μ3 hi hF h183 h190 h195 h203
      exact s_X10_goesDay_35 ⟨fun _ => clr (pN PN).toNat 0 μ3 (by omega) hF h183 h190 h195 (fun p p0 p1 => h203 p p0 (by omega)) (fun j j0 j1 => by omega), fun z => by omega⟩
    | succ r ih =>
      intro i μ3 hi hF h183 h190 h195 h203
      refine s_X10_goesDay_35 ⟨fun z => by omega, fun _ => ⟨by omega, ?_⟩⟩
      intro μ4 e4
      have g4 : ∀ b j : Int, b ≠ 203 → μ4 b j = μ3 b j := fun b j y => by rw [e4, mup_ap, if_neg (fun z => y z.1)]
      refine ⟨by omega, ?_⟩
      rintro _ rfl
      refine ih (i + 1) μ4 (by omega) (fun b j y1 y2 => by rw [g4 b j (by omega)]; exact hF b j y1 y2) (fun j => by rw [g4 _ _ (by omega)]; exact h183 j) (fun j => by rw [g4 _ _ (by omega)]; exact h190 j) (fun u u0 u1 => by rw [g4 _ _ (by omega)]; exact h195 u u0 u1) (fun p p0 p1 => ?_)
      rw [e4, mup_ap]
      by_cases y : p = i
      · rw [if_pos ⟨rfl, y⟩]
      · rw [if_neg (fun z => y z.2)]; exact h203 p p0 (by omega)
  have clr3 : ∀ (r i : Nat) (μ3 : Mem), i + r = 100 → FGd μ μ3 → (∀ j, μ3 183 j = μ2 183 j) → (∀ j, μ3 190 j = μ 190 j) → (∀ u : Int, 0 ≤ u → u < i → μ3 195 u = -1) →
      WQ mX10_goesDay 4 sc (ZV sc R) 14 [(2, 183), (0, 0), (0, (i : Int)), (9, 0), (9, 0), (9, 0), (9, 0)] [] μ3 := by
    intro r
    induction r with
    | zero =>
      intro i μ3 hi hF h183 h190 h195
      exact s_X10_goesDay_14 ⟨fun _ => clr2 6 0 μ3 (by omega) hF h183 h190 (fun u u0 u1 => h195 u u0 (by omega)) (fun j j0 j1 => by omega), fun z => by omega⟩
    | succ r ih =>
      intro i μ3 hi hF h183 h190 h195
      refine s_X10_goesDay_14 ⟨fun z => by omega, fun _ => ⟨by omega, ?_⟩⟩
      intro μ4 e4
      have g4 : ∀ b j : Int, b ≠ 195 → μ4 b j = μ3 b j := fun b j y => by rw [e4, mup_ap, if_neg (fun z => y z.1)]
      refine ⟨by omega, ?_⟩
      rintro _ rfl
      refine ih (i + 1) μ4 (by omega) (fun b j y1 y2 => by rw [g4 b j (by omega)]; exact hF b j y1 y2) (fun j => by rw [g4 _ _ (by omega)]; exact h183 j) (fun j => by rw [g4 _ _ (by omega)]; exact h190 j) (fun p p0 p1 => ?_)
      rw [e4, mup_ap]
      by_cases y : p = i
      · rw [if_pos ⟨rfl, y⟩]
      · rw [if_neg (fun z => y z.2)]; exact h195 p p0 (by omega)
  exact clr3 100 0 μ2 (by omega) (fun b j y1 y2 => g2 b j y1) (fun _ => rfl) (fun j => g2 _ _ (by omega)) (fun u u0 u1 => by omega)
/-- the whole day of the plan that stands -/
theorem cb_laysDay {d : Nat} {sc : SC} {μ : Mem} {H : HillT} {P : PlanT} {R : Mem → Prop} (hd : 6 ≤ d) (hY : MY μ H P) (hc : μ 183 19 = 0 ∨ CM μ H (pWind P))
    (k : ∀ μ', FW μ μ' → CM μ' H (pWind P) → GG μ' H P → DMd μ' H P P 100 → R μ') : CAv mX10_laysDay d sc [(2, 183)] μ R := by
  refine byV (d' := 5) (by omega) (Q := R) ?_ (fun _ z => z)
  refine CTv_of mp_X10_laysDay (Nat.le_of_ble_eq_true rfl) ?_
  refine s_X10_laysDay_0 (cb_laysGaps (Nat.le_refl _) hY hc ?_)
  intro μ2 f2 C2 G2
  have Y2 : MY μ2 H P := hY.same (fun j => f2 _ _ (by omega) (by omega) (by omega) (by omega))
  refine cb_allTold (by omega) Y2 ?_
  intro μ6 f6 T6
  have Y6 : MY μ6 H P := Y2.same (fun j => f6 _ _ (by omega) (by omega) (by omega) (by omega))
  have C6 : CM μ6 H (pWind P) := C2.same (fun j => f6 _ _ (by omega) (by omega) (by omega) (by omega))
  have G6 : GG μ6 H P := fun a b a0 a1 b0 b1 hab => by rw [f6 _ _ (by omega) (by omega) (by omega) (by omega)]; exact G2 a b a0 a1 b0 b1 hab
  refine cb_goesDay (Nat.le_refl _) Y6 C6 G6 T6 hY.2.2.2.2.1 ?_
  intro μ8 f8 C8 M8
  exact k μ8 (fun b j y1 y2 => by rw [f8.w b j y1 y2, f6 b j (fun z => by have := y1 z; omega) (by omega) (by omega) (by omega)]; exact f2 b j (by omega) (by omega) (by omega) (by omega)) C8 (fun a b a0 a1 b0 b1 hab => by rw [f8 _ _ (by omega) (by omega)]; exact G6 a b a0 a1 b0 b1 hab) M8

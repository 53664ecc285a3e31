/-! THE REFERENCE: weeks -/
theorem cb_draw {d : Nat} {sc : SC} {μ : Mem} {n : Int} {R : Int → Mem → Prop} (hd : 1 ≤ d) (hn : 0 < n) (k : R (drawS (μ 183 39) n) (mup μ 183 39 (lcg (μ 183 39)))) : CAi mX10_draw d sc [(2, 183), (0, n)] μ R := by
  refine byI (d' := 0) (by omega) (Q := R) ?_ (fun _ _ z => z)
  refine CTi_of mp_X10_draw (Nat.le_of_ble_eq_true rfl) ?_
  refine s_X10_draw_0 ?_
  intro μ1 e1
  have e : μ1 183 39 = lcg (μ 183 39) := by rw [e1, mup_ap, if_pos ⟨rfl, rfl⟩]; rfl
  rw [e]
  refine ⟨⟨(ushr16 _).1, hn⟩, ?_⟩
  rw [e1]
  exact k
theorem cb_drawn {d : Nat} {sc : SC} {μ : Mem} {R : Int → Mem → Prop} (hd : 2 ≤ d) (k : R (drawnS (μ 183 39)).2 (mup μ 183 39 (drawnS (μ 183 39)).1)) : CAi mX10_drawn d sc [(2, 183)] μ R := by
  refine byI (d' := 1) (by omega) (Q := R) ?_ (fun _ _ z => z)
  refine CTi_of mp_X10_drawn (Nat.le_of_ble_eq_true rfl) ?_
  refine s_X10_drawn_0 (cb_draw (Nat.le_refl _) (by decide) ?_)
  generalize μ 183 39 = x at *
  have b5 := drawS_b x (n := 5) (by decide)
  refine ⟨fun z4 => ⟨fun z2 => cb_draw (Nat.le_refl _) (by decide) ⟨fun z3 => ?_, fun z3 => ?_⟩, fun z2 => cb_draw (Nat.le_refl _) (by decide) ?_⟩, fun z4 => cb_draw (Nat.le_refl _) (by decide) ?_⟩
  · rw [mup_at, mup2]
    have e : drawnS x = (lcg (lcg (lcg (lcg x))), 1000 * drawS (lcg x) 6 + 100 * drawS (lcg (lcg x)) 6 + drawS (lcg (lcg (lcg x))) 100) := by unfold drawnS; rw [if_neg z2, if_neg z3, if_neg z4]
    rw [e] at k
    have b1 := drawS_b (lcg x) (n := 6) (by decide)
    have b2 := drawS_b (lcg (lcg x)) (n := 6) (by decide)
    have b3 := drawS_b (lcg (lcg (lcg x))) (n := 100) (by decide)
    refine cb_draw (Nat.le_refl _) (by decide) ?_
    rw [mup_at, mup2]
    refine ⟨by omega, by omega, by omega, cb_draw (Nat.le_refl _) (by decide) ?_⟩
    rw [mup_at, mup2]
    dsimp only at k
    exact ⟨by omega, k⟩
  · rw [mup_at, mup2]
    have e : drawnS x = (lcg (lcg (lcg x)), 8100 + 100 * drawS (lcg x) 6 + drawS (lcg (lcg x)) 64) := by unfold drawnS; rw [if_neg (by omega), if_pos z3]
    rw [e] at k
    have b1 := drawS_b (lcg x) (n := 6) (by decide)
    have b2 := drawS_b (lcg (lcg x)) (n := 64) (by decide)
    refine ⟨by omega, by omega, cb_draw (Nat.le_refl _) (by decide) ?_⟩
    rw [mup_at, mup2]
    exact ⟨by omega, k⟩
  · rw [mup_at, mup2]
    have e : drawnS x = (lcg (lcg x), 8000 + drawS (lcg x) 8) := by unfold drawnS; rw [if_pos z2]
    rw [e] at k
    have := drawS_b (lcg x) (n := 8) (by decide)
    exact ⟨by omega, k⟩
  · rw [mup_at, mup2]
    have e : drawnS x = (lcg (lcg x), 9000 + drawS (lcg x) 10) := by unfold drawnS; rw [if_neg (by omega), if_neg (by omega), if_pos z4]
    rw [e] at k
    have := drawS_b (lcg x) (n := 10) (by decide)
    exact ⟨by omega, k⟩
theorem weekN_b {H : HillT} : ∀ (r : Nat) (x : Int) (P : PlanT) (n : Int), n ≤ (weekN H r x P n).1 ∧ ((weekN H r x P n).1 = n → (weekN H r x P n).2 = P) := by
  intro r
  induction r with
  | zero => intro x P n; exact ⟨Int.le_refl _, fun _ => rfl⟩
  | succ r ih =>
    intro x P n
    rw [weekN]
    by_cases q : deedW H P (drawnS x).2 = 0
    · rw [if_pos q]
      have := ih (drawnS x).1 (deedP P (drawnS x).2) (n + 1)
      exact ⟨by omega, fun z => by omega⟩
    · rw [if_neg q]
      exact ih _ _ _
theorem cm_week {d : Nat} {sc : SC} {μ : Mem} {A : StT} {s n : Int} (hd : 6 ≤ d) (h : RY μ A) : CTi mX10_week d sc [(2, 183), (0, s), (0, n)] μ (AM μ (weekA A s n) (fun x => x = weekS A s n)) := by
  refine CTi_of mp_X10_week (Nat.le_of_ble_eq_true rfl) ?_
  refine s_X10_week_0 ?_
  intro μ1 e1
  have f1 := fw0 e1
  have r1 := h.same f1
  refine cb_within (by omega) (fun z => ⟨fun q => absurd rfl q, fun _ => AM.fm ?_ f1.m ?_⟩) (fun hin => ⟨fun _ => ?_, fun q => absurd q (by decide)⟩)
  · unfold weekA; rw [if_neg (fun y => z y.1)]; exact r1
  · show _ = _
    unfold weekS; rw [if_neg z]
  refine cb_store (by omega) r1 f1.m (fun μ6 t6 r6 _ => ?_)
  intro μ7 e7
  have g7 : ∀ b j, (b = 183 → j ≠ 39) → μ7 b j = μ6 b j := fun b j q => by rw [e7, mup_ap, if_neg (fun y => q y.1 y.2)]
  have t7 : TRm μ μ7 A (aP A) := t6.fw (fun b j q _ => g7 b j (fun y => by have := q y; omega)) (fun j => g7 _ _ (by omega))
  generalize hG : weekN (aH A) n.toNat s (aP A) 0 = G at *
  have hGb := weekN_b (H := aH A) n.toNat s (aP A) 0
  rw [hG] at hGb
  have key : ∀ (r : Nat) (i c : Int) (P : PlanT) (μ1 : Mem), i + r = n → 0 ≤ i → 0 ≤ c → c ≤ i → TRm μ μ1 A P → weekN (aH A) r (μ1 183 39) P c = G →
      WQ mX10_week d sc (ZI sc (AM μ (weekA A s n) (fun x => x = weekS A s n))) 34 [(2, 183), (9, 0), (0, n), (0, c), (0, i), (9, 0)] [] μ1 := by
    intro r
    induction r with
    | zero =>
      intro i c P μ1 hi hi0 hc hci hT he
      rw [weekN] at he
      refine s_X10_week_34 ⟨fun _ => ⟨fun z3 => AM.fm ?_ hT.2.2.1 ?_, fun z3 => cb_note (by omega) hT (fun μ' r' f' _ => AM.fm ?_ f' ?_)⟩, fun z3 => by omega⟩
      · unfold weekA; rw [if_neg (fun y => by have := y.2; rw [hG, ← he] at this; have : 0 < c := this; omega)]
        have e2 := hGb.2 (by rw [← he]; show c = 0; omega)
        rw [← he] at e2
        have e3 : P = aP A := e2
        have r := hT.1
        rw [e3] at r
        exact r
      · show _ = _
        unfold weekS; rw [if_pos hin, hG, ← he]
      · unfold weekA; rw [if_pos ⟨hin, by rw [hG, ← he]; exact z3⟩, hG, ← he]; exact r'
      · show _ = _
        unfold weekS; rw [if_pos hin, hG, ← he]
    | succ r ih =>
      intro i c P μ1 hi hi0 hc hci hT he
      refine s_X10_week_34 ⟨fun z3 => by omega, fun _ => cb_drawn (by omega) ?_⟩
      have g6 : ∀ b j, (b = 183 → j ≠ 39) → mup μ1 183 39 (drawnS (μ1 183 39)).1 b j = μ1 b j := fun b j q => by rw [mup_ap, if_neg (fun y => q y.1 y.2)]
      have a6 := mup_at μ1 183 39 (drawnS (μ1 183 39)).1
      generalize mup μ1 183 39 (drawnS (μ1 183 39)).1 = μ5 at *
      have t5 : TRm μ μ5 A P := hT.fw (fun b j q _ => g6 b j (fun y => by have := q y; omega)) (fun j => g6 _ _ (by omega))
      rw [weekN] at he
      refine cb_whyNot (by omega) t5.1 ⟨fun z3 => ?_, fun z3 => ⟨by omega, ?_⟩⟩
      · have z4 : deedW (aH A) P (drawnS (μ1 183 39)).2 = 0 := z3
        rw [if_pos z4] at he
        refine cb_does (by omega) t5.1 z3 (fun μ11 f11 r11 => ⟨by omega, ?_⟩)
        rintro _ rfl
        refine ⟨by omega, ?_⟩
        rintro _ rfl
        exact ih (i + 1) (c + 1) _ μ11 (by omega) (by omega) (by omega) (by omega) (t5.step f11 r11) (by rw [f11 _ _ (by omega), a6]; exact he)
      · have z4 : ¬ deedW (aH A) P (drawnS (μ1 183 39)).2 = 0 := z3
        rw [if_neg z4] at he
        rintro _ rfl
        exact ih (i + 1) c P μ5 (by omega) (by omega) hc (by omega) t5 (by rw [a6]; exact he)
  exact key n.toNat 0 0 (aP A) μ7 (by omega) (Int.le_refl _) (Int.le_refl _) (Int.le_refl _) t7 (by rw [e7, mup_at]; exact hG)

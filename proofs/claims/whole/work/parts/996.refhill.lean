/-! THE REFERENCE: hill -/
theorem cm_hill {d : Nat} {sc : SC} {μ : Mem} {A : StT} {a : Int} (hd : 68 ≤ d) (h : RY μ A) : CTi mX10_hill d sc [(2, 183), (0, a)] μ (AM μ (hillA A a) (fun x => x = hillS A a)) := by
  refine CTi_of mp_X10_hill (Nat.le_of_ble_eq_true rfl) ?_
  refine s_X10_hill_0 ?_
  intro μ1 e1
  have f1 := fw0 e1
  have r1 := h.same f1
  have hwA := h.wf
  have hwt := hwA.1
  rw [r1.1]
  refine cb_within (by omega) (fun z => ⟨fun q => absurd rfl q, fun _ => AM.fm (by unfold hillA; rw [if_pos (by omega)]; exact r1) f1.m (by show _ = _; unfold hillS; rw [if_pos (by omega)])⟩) (fun z => ⟨fun _ => ?_, fun q => absurd q (by decide)⟩)
  have hin : ¬ (a < 0 ∨ aTaped A < a) := by omega
  intro μ5 e5 μ6 e6 μ7 e7 μ8 e8
  have g8 : ∀ b j : Int, (b = 183 → j ≠ 5 ∧ j ≠ 7 ∧ j ≠ 8 ∧ j ≠ 11) → μ8 b j = μ1 b j := fun b j q => by rw [e8, mup_ap, if_neg (fun y => (q y.1).2.2.2 y.2), e7, mup_ap, if_neg (fun y => (q y.1).2.1 y.2), e6, mup_ap, if_neg (fun y => (q y.1).1 y.2), e5, mup_ap, if_neg (fun y => (q y.1).2.2.1 y.2)]
  have s8 : μ8 183 8 = a ∧ μ8 183 5 = 0 ∧ μ8 183 7 = 0 ∧ μ8 183 11 = 0 := by
    refine ⟨?_, ?_, ?_, by rw [e8, mup_at]⟩
    · rw [e8, mup_ap, if_neg (by omega), e7, mup_ap, if_neg (by omega), e6, mup_ap, if_neg (by omega), e5, mup_at]
    · rw [e8, mup_ap, if_neg (by omega), e7, mup_ap, if_neg (by omega), e6, mup_at]
    · rw [e8, mup_ap, if_neg (by omega), e7, mup_at]
  refine cb_plain (by omega) (fun μ10 f10 z10 => ?_)
  generalize hb : aTape A = b at *
  obtain ⟨n, rfl⟩ : ∃ n : Nat, a = n := ⟨a.toNat, by omega⟩
  have T10 : TM μ10 b n := by
    refine ⟨by rw [f10 _ _ (by omega)]; exact s8.1, by omega, fun i i0 i1 => ?_⟩
    rw [f10 _ _ (by omega), g8 _ _ (by omega)]
    have e := r1.2.1 i i0 (by omega)
    have w := hwA.2.1 i i0 (by omega)
    rw [hb] at e w
    exact ⟨e, w.1, w.2⟩
  refine cb_next (c := 0) (by omega) T10 (by rw [f10 _ _ (by omega)]; exact s8.2.2.1.trans (by rfl)) (fun μ12 f12 p12 => ?_)
  obtain ⟨N, hN1, hN2, hN3⟩ := txt_end b n
  have hT : TH (txt b n) N := ⟨hN2, fun k => tkV_b b n _⟩
  have hN9 : N ≤ 900 := by omega
  have s11 : μ12 183 11 = 0 := by rw [f12 _ _ (by omega), f10 _ _ (by omega)]; exact s8.2.2.2
  have row12 : ∀ j : Int, 0 ≤ j → j < 1373 → μ12 187 j = if j = 1 ∨ j = 2 then 1 else 0 := fun j j0 j1 => by rw [f12 _ _ (by omega)]; exact z10 j j0 j1
  have R12 : RQ μ12 b n N 0 (gE g0S) := ⟨f12.tm T10, hT, hN9, Int.le_refl 0, ⟨Nat.zero_le _, Or.inl rfl⟩, s11, fun _ => ⟨p12, by rw [row12 _ (by omega) (by omega)]; rfl, fun k hk => absurd hk (Nat.not_lt_zero _)⟩, fun y => absurd rfl y⟩
  have base : ∀ {μ' : Mem}, FRw μ12 μ' → ∀ b' j, b' ≠ 187 → (b' = 183 → j < 5 ∨ 15 < j) → μ' b' j = μ1 b' j := fun fw b' j q1 q2 => by
    rw [fw b' j (fun y => by have := q2 y; omega) (fun y => absurd y q1), f12 b' j (fun y => by have := q2 y; omega), f10 b' j q1]
    exact g8 b' j (fun y => by have := q2 y; omega)
  have five : ∀ {μ' : Mem}, FRw μ12 μ' → μ' 183 5 = 0 := fun fw => by rw [fw _ _ (by omega) (by omega), f12 _ _ (by omega), f10 _ _ (by omega)]; exact s8.2.1
  have hTxt : textG (txt b n) = textS A n := by unfold textS; rw [hb]; rfl
  have hok : OE N (gE (textS A n)) ∧ (eF (gE (textS A n)) = 0 → WG N (textS A n)) := by rw [← hTxt]; exact text_ok hT
  have finF : ∀ (g : GS) (μ1' : Mem), textG (txt b n) = g → RQ μ1' b n N 0 (gE g) → eF (gE g) ≠ 0 → FRw μ12 μ1' → ∀ μ4 : Mem, (∃ μ2, μ2 = mup μ1' 183 13 (μ1' 183 11) ∧ μ4 = mup μ2 183 14 (μ2 183 12)) → (-2147483648 ≤ (-30) - (μ4 183 11) ∧ (-30) - (μ4 183 11) < 2147483648) ∧ AM μ (hillA A n) (fun x => x = hillS A n) ((-30) - (μ4 183 11)) μ4 := by
    intro g μ1' hg hE hf fw μ4 h4
    obtain ⟨μ2, e2, e4⟩ := h4
    have h11 := hE.2.2.2.2.2.1
    have h12 := hE.2.2.2.2.2.2.2 hf
    have hfb : 1 ≤ eF (gE g) ∧ eF (gE g) ≤ 4 := by rcases hE.2.2.2.2.1.2 with q | q <;> omega
    have g4 : ∀ b' j : Int, (b' = 183 → j ≠ 13 ∧ j ≠ 14) → μ4 b' j = μ1' b' j := fun b' j q => by rw [e4, mup_ap, if_neg (fun w => (q w.1).2 w.2), e2, mup_ap, if_neg (fun w => (q w.1).1 w.2)]
    have t13 : μ4 183 13 = eF (gE g) := by rw [e4, mup_ap, if_neg (by omega), e2, mup_at, h11]
    have t14 : μ4 183 14 = eP (gE g) := by rw [e4, mup_at, e2, mup_ap, if_neg (by omega)]; exact h12
    have gS : g = textS A n := by rw [← hg, hTxt]
    rw [g4 183 11 (by omega), h11]
    refine ⟨by omega, ?_⟩
    have all : ∀ b' j, b' ≠ 187 → (b' = 183 → j < 5 ∨ 15 < j) → μ4 b' j = μ1 b' j := fun b' j q1 q2 => by rw [g4 b' j (fun y => by have := q2 y; omega)]; exact base fw b' j q1 q2
    refine AM.fm ?_ (f1.m.tr (fun b' j q => all b' j (by omega) (by omega))) ?_
    · have eA : hillA A n = ((0, aTape A), (eF (gE (textS A n)), eP (gE (textS A n))), A.2.2) := by unfold hillA; rw [if_neg hin, if_neg (by rw [← gS]; exact hf)]
      rw [eA, ← gS]
      obtain ⟨k1, k2, k3, k4, k5, k6, k7, k8, k9, k10, k11⟩ := r1
      have e184 : μ4 184 = μ1 184 := funext (fun j => all _ _ (by omega) (by omega))
      refine ⟨by rw [g4 _ _ (by omega)]; exact five fw, fun i i0 i1 => by have : i < 0 := i1; omega, t13, t14, by rw [all _ _ (by omega) (by omega)]; exact k5, by rw [e184]; exact k6, by rw [e184]; exact k7, by rw [e184]; exact k8, fun i i0 i1 => by rw [e184, all 185 _ (by omega) (by omega)]; exact k9 i i0 i1, fun t t0 t1 => (k10 t t0 t1).congr (fun b' j _ _ => all b' j (by omega) (by omega)), ?_⟩
      obtain ⟨w1, w2, w3, w4, w5, w6, w7⟩ := k11
      exact ⟨(by decide : (0 : Int) ≤ 0 ∧ (0 : Int) ≤ 900), fun i i0 i1 => by have : i < 0 := i1; omega, by show 0 ≤ eF (gE g) ∧ eF (gE g) ≤ 4; omega, w4, w5, w6, w7⟩
    · show _ = _
      unfold hillS
      rw [if_neg hin, if_neg (by rw [← gS]; exact hf), ← gS]
  have finO : ∀ (g : GS) (μ1' : Mem), textG (txt b n) = g → LR μ1' b n N g → eF (gE g) = 0 → μ1' 187 0 = hLines (gH g) → FRw μ12 μ1' → ∀ μ4 : Mem, (∃ μ2, μ2 = mup μ1' 183 13 (μ1' 183 11) ∧ μ4 = mup μ2 183 14 (-1)) → WQ mX10_hill d sc (ZI sc (AM μ (hillA A n) (fun x => x = hillS A n))) 167 [(2, 183), (9, 0), (0, 0)] [] μ4 := by
    intro g μ1' hg hL hf hl0 fw μ4 h4
    obtain ⟨μ2, e2, e4⟩ := h4
    have hE := hL.1
    obtain ⟨hG, h3⟩ := hL.2 hf
    have h11 := hE.2.2.2.2.2.1
    have g4 : ∀ b' j : Int, (b' = 183 → j ≠ 13 ∧ j ≠ 14) → μ4 b' j = μ1' b' j := fun b' j q => by rw [e4, mup_ap, if_neg (fun w => (q w.1).2 w.2), e2, mup_ap, if_neg (fun w => (q w.1).1 w.2)]
    have t13 : μ4 183 13 = 0 := by rw [e4, mup_ap, if_neg (by omega), e2, mup_at, h11, hf]
    have t14 : μ4 183 14 = -1 := by rw [e4, mup_at]
    have gS : g = textS A n := by rw [← hg, hTxt]
    have hW : WG N g := by rw [gS]; exact hok.2 (by rw [← gS]; exact hf)
    have hwf := hW.wf hN9 hE.2.2.2.2.1.1
    have hMH := MH_of hE hf hG h3 hl0 hW
    have copy : ∀ (r i : Nat) (μ' : Mem), i + r = 1373 → (∀ b' j, (b' = 184 → 1373 ≤ j) → μ' b' j = μ4 b' j) → (∀ j : Int, 0 ≤ j → j < i → μ' 184 j = μ1' 187 j) → WQ mX10_hill d sc (ZI sc (AM μ (hillA A n) (fun x => x = hillS A n))) 167 [(2, 183), (9, 0), (0, (i : Int))] [] μ' := by
      intro r
      induction r with
      | zero =>
        intro i μ' hi hff hz
        have all : ∀ b' j, b' ≠ 187 → (b' = 183 → j < 5 ∨ 15 < j) → (b' = 184 → 1373 ≤ j) → μ' b' j = μ1 b' j := fun b' j q1 q2 q3 => by rw [hff b' j q3, g4 b' j (fun y => by have := q2 y; omega)]; exact base fw b' j q1 q2
        have z184 : ∀ j : Int, 0 ≤ j → j < 1373 → μ' 184 j = μ1' 187 j := fun j j0 j1 => hz j j0 (by omega)
        have e0 : μ' 184 0 = hLines (gH g) := by rw [z184 _ (by omega) (by omega)]; exact hl0
        refine s_X10_hill_167 ⟨fun _ => AM.fm ?_ (f1.m.tr (fun b' j q => all b' j (by omega) (by omega) (by omega))) ?_, fun y => by omega⟩
        · have eA : hillA A n = ((0, aTape A), (0, -1), (hillOf (textS A n), gP (textS A n)), [], A.2.2.2.2) := by unfold hillA; rw [if_neg hin, if_pos (by rw [← gS]; exact hf)]
          rw [eA, ← gS]
          obtain ⟨k1, k2, k3, k4, k5, k6, k7, k8, k9, k10, k11⟩ := r1
          refine ⟨by rw [hff _ _ (by omega), g4 _ _ (by omega)]; exact five fw, fun i i0 i1 => by have : i < 0 := i1; omega, by rw [hff _ _ (by omega)]; exact t13, by rw [hff _ _ (by omega)]; exact t14, by rw [all _ _ (by omega) (by omega) (by omega)]; exact k5, hMH.congr (fun j q => z184 j (by omega) (by omega)) hW.2.2.1.2, hG.2.2.2.2.1.congr (fun j j0 j1 => z184 _ (by omega) (by omega)) hwf.2.2.2.1 hW.2.2.1.2, ⟨?_, (by decide : (0 : Nat) ≤ 10), fun j hj => absurd hj (Nat.not_lt_zero _)⟩, fun u u0 u1 => ?_, fun t t0 t1 => (k10 t t0 t1).congr (fun b' j _ _ => all b' j (by omega) (by omega) (by omega)), ?_⟩
          · rw [z184 _ (by omega) (by omega), fw _ _ (by omega) (by omega), row12 _ (by omega) (by omega)]; rfl
          · obtain ⟨p1, p2⟩ := k9 u u0 u1
            have hwu := k11.2.2.2.2.2.2 u u0 u1
            refine ⟨by rw [all _ _ (by omega) (by omega) (by omega)]; exact p1, fun y => ⟨(p2 y).1.congr (fun j w => all _ _ (by omega) (by omega) (by omega)) (hwu.2 y).1.2.2.1.2, (p2 y).2.congr (fun j j0 j1 => all _ _ (by omega) (by omega) (by omega)) (hwu.2 y).2.2.2.1 (hwu.2 y).1.2.2.1.2⟩⟩
          · obtain ⟨w1, w2, w3, w4, w5, w6, w7⟩ := k11
            exact ⟨(by decide : (0 : Int) ≤ 0 ∧ (0 : Int) ≤ 900), fun i i0 i1 => by have : i < 0 := i1; omega, (by decide : (0 : Int) ≤ 0 ∧ (0 : Int) ≤ 4), hwf.1, hwf.2, fun P hP => absurd hP (List.not_mem_nil), w7⟩
        · show _ = _
          unfold hillS
          rw [if_neg hin, if_pos (by rw [← gS]; exact hf), ← gS]; exact e0
      | succ r ih =>
        intro i μ' hi hff hz
        refine s_X10_hill_167 ⟨fun y => by omega, fun _ => ⟨by omega, by omega, ?_⟩⟩
        intro μ5' e5'
        refine ⟨by omega, ?_⟩
        rintro _ rfl
        refine ih (i + 1) μ5' (by omega) (fun b' j q => by rw [e5', mup_ap, if_neg (fun w => by have := q w.1; omega)]; exact hff b' j q) (fun j j0 j1 => ?_)
        rw [e5', mup_ap]
        by_cases q : j = i
        · rw [if_pos ⟨rfl, q⟩, q, hff _ _ (by omega)]; exact g4 _ _ (by omega)
        · rw [if_neg (fun w => q w.2)]; exact hz j j0 (by omega)
    exact copy 1373 0 μ4 rfl (fun _ _ _ => rfl) (fun j j0 j1 => by omega)
  have lines : ∀ (r : Nat) (g : GS) (μ1' : Mem), LR μ1' b n N g → (eF (gE g) = 0 → WG N g ∧ N + 1 ≤ r + eK (gE g)) → μ1' 187 0 = hLines (gH g) → FRw μ12 μ1' → repA (lineC (txt b n)) (lineG (txt b n)) r g = textG (txt b n) → WQ mX10_hill d sc (ZI sc (AM μ (hillA A n) (fun x => x = hillS A n))) 96 [(2, 183), (9, 0), (9, 0)] [] μ1' := by
    intro r
    induction r with
    | zero =>
      intro g μ1' hL hW hl0 fw he
      have hne : eF (gE g) ≠ 0 := fun y => by have := (hW y).2; have := hL.1.2.2.2.2.1.1; omega
      have h11 := hL.1.2.2.2.2.2.1
      rw [repA] at he
      refine s_X10_hill_96 ⟨fun _ => ?_, fun y => by omega⟩
      intro μ2 e2
      have h2 : μ2 183 11 = eF (gE g) := by rw [e2, mup_ap, if_neg (by omega)]; exact h11
      refine ⟨fun _ => ?_, fun y => by omega⟩
      intro μ4 e4
      have h4 : μ4 183 11 = eF (gE g) := by rw [e4, mup_ap, if_neg (by omega)]; exact h2
      exact ⟨fun y => by omega, fun _ => finF g μ1' he.symm hL.1 hne fw μ4 ⟨μ2, e2, e4⟩⟩
    | succ r ih =>
      intro g μ1' hL hW hl0 fw he
      have h11 := hL.1.2.2.2.2.2.1
      refine s_X10_hill_96 ⟨fun y => ?_, fun y => ⟨fun y9 => ?_, fun y9 => ?_⟩⟩
      · have hne : eF (gE g) ≠ 0 := by omega
        rw [repA_no (by unfold lineC; exact decide_eq_false (fun w => hne w.1))] at he
        intro μ2 e2
        have h2 : μ2 183 11 = eF (gE g) := by rw [e2, mup_ap, if_neg (by omega)]; exact h11
        refine ⟨fun _ => ?_, fun y => by omega⟩
        intro μ4 e4
        have h4 : μ4 183 11 = eF (gE g) := by rw [e4, mup_ap, if_neg (by omega)]; exact h2
        exact ⟨fun y => by omega, fun _ => finF g μ1' he.symm hL.1 hne fw μ4 ⟨μ2, e2, e4⟩⟩
      · have z0 : eF (gE g) = 0 := by omega
        have k52 := (hL.1.kind (K := 52) (by unfold kOk; omega) z0).mp y9
        rw [repA_no (by unfold lineC; exact decide_eq_false (fun w => w.2 k52))] at he
        intro μ2 e2
        have h2 : μ2 183 11 = 0 := by rw [e2, mup_ap, if_neg (by omega)]; exact y
        refine ⟨fun q => absurd h2 q, fun _ => ?_⟩
        intro μ4 e4
        have h4 : μ4 183 11 = 0 := by rw [e4, mup_ap, if_neg (by omega)]; exact h2
        exact ⟨fun _ => finO g μ1' he.symm hL z0 hl0 fw μ4 ⟨μ2, e2, e4⟩, fun q => absurd h4 q⟩
      · have z0 : eF (gE g) = 0 := by omega
        have k52 : (txt b n).1 (eK (gE g)) ≠ 52 := fun w => y9 ((hL.1.kind (K := 52) (by unfold kOk; omega) z0).mpr w)
        obtain ⟨w0, wr⟩ := hW z0
        have hk := hL.1.2.2.2.2.1.1
        have hLN := LN.line hT z0 hk k52 w0
        have hMid := LN.mid hT z0 hk k52 w0
        rw [repA_yes (by unfold lineC; exact decide_eq_true ⟨z0, k52⟩)] at he
        refine cb_readLine (by omega) hL z0 k52 w0 (fun μ20 L20 f20 => ?_)
        have hlm : hLines (gH (midG (txt b n) g)) = hLines (gH g) := by
          have hrep : ∀ (r : Nat) (x : GS), hLines (gH x) = hLines (gH g) → hLines (gH (repA (flagC (txt b n)) (flagB (txt b n)) r x)) = hLines (gH g) := fun r x hx => repA_inv (c := flagC (txt b n)) (g := flagB (txt b n)) (I := fun x : GS => hLines (gH x) = hLines (gH g)) (fun y hy _ => hy) r x hx
          unfold midG
          split
          · unfold personG
            split
            · rfl
            · exact hrep 1000 _ rfl
          · split
            · unfold namesG; split <;> rfl
            · split
              · rfl
              · split
                · rfl
                · split
                  · rfl
                  · split <;> rfl
        have hlb := w0.2.2.2.2.2.2.2.1
        have l20 : μ20 187 0 = hLines (gH (midG (txt b n) g)) := by rw [f20 _ _ (by omega) (by omega), hlm]; exact hl0
        refine cb_closes (by omega) L20 l20 (by rw [hlm]; omega) ?_ ?_ (fun μ22 L22 l22 f22 => ?_)
        · by_cases w : eF (gE (midG (txt b n) g)) = 0
          · exact Or.inl (hMid.2 w).2.2.2.2.1
          · exact Or.inr w
        · by_cases w : eF (gE (midG (txt b n) g)) = 0
          · have := (hMid.2 w).2.2.2.2.2.2.1
            exact Or.inl ⟨this.2.1.1.1, this.2.2.1⟩
          · exact Or.inr w
        · refine ih _ μ22 L22 (fun w => ?_) l22 ((fw.tr f20.w).tr (fun b' j q1 q2 => f22 b' j (fun w => by have := q1 w; omega) (fun w => by have := q2 w; omega))) he
          have := hLN.2 w
          have e : lineG (txt b n) g = closeG (txt b n) (midG (txt b n) g) := rfl
          rw [← e]
          exact ⟨this.2.2, by omega⟩
  have go : ∀ μ14 : Mem, RQ μ14 b n N 0 (first1 (txt b n)) → FRl 0 μ12 μ14 → CAi mX10_takes d sc [(2, 183), (0, 1), (0, 8)] μ14 (fun r16 μ17 => ∀ μ19, μ19 = mup μ17 187 1 r16 → CAi mX10_takes d sc [(2, 183), (0, 1), (0, 8)] μ19 (fun r20 μ21 => ∀ μ23, μ23 = mup μ21 187 2 r20 → CAv mX10_closes d sc [(2, 183)] μ23 (fun μ25 => WQ mX10_hill d sc (ZI sc (AM μ (hillA A n) (fun x => x = hillS A n))) 96 [(2, 183), (9, 0), (9, 0)] [] μ25))) := by
    intro μ14 r14 f14
    refine cb_takes (by omega) r14 (fun v1 μ17 r17 f17 hv1 => ?_)
    intro μ19 e19
    have g19 : ∀ b' j : Int, (b' = 187 → j ≠ 1) → μ19 b' j = μ17 b' j := fun b' j q => by rw [e19, mup_ap, if_neg (fun w => q w.1 w.2)]
    have r19 : RQ μ19 b n N 0 (first2 (txt b n)).2 := r17.row (fun b' j q => g19 b' j (fun w => by have := q w; omega))
    refine cb_takes (by omega) r19 (fun v2 μ21 r21 f21 hv2 => ?_)
    intro μ23 e23
    have g23 : ∀ b' j : Int, (b' = 187 → j ≠ 2) → μ23 b' j = μ21 b' j := fun b' j q => by rw [e23, mup_ap, if_neg (fun w => q w.1 w.2)]
    have r23 : RQ μ23 b n N 0 (first3 (txt b n)).2 := r21.row (fun b' j q => g23 b' j (fun w => by have := q w; omega))
    have row : ∀ j : Int, 0 ≤ j → j < 472 → j ≠ 1 → j ≠ 2 → μ23 187 j = 0 := fun j q0 q1 q2 q3 => by rw [g23 _ _ (fun _ => q3), f21.r.row q1, g19 _ _ (fun _ => q2), f17.r.row q1, f14.r.row q1, row12 _ q0 (by omega), if_neg (by omega)]
    have fw23 : FRw μ12 μ23 := fun b' j q1 q2 => by
      rw [g23 b' j (fun w => by have := q2 w; omega), f21.q b' j q1 (fun w => Or.inr (q2 w)), g19 b' j (fun w => by have := q2 w; omega), f17.q b' j q1 (fun w => Or.inr (q2 w))]
      exact f14.q b' j q1 (fun w => Or.inr (q2 w))
    have hf := first_ok hT
    refine cb_closes (g := ((first3 (txt b n)).2, sizeH hill0 (first2 (txt b n)).1 (first3 (txt b n)).1, planDef, fun _ => 0)) (by omega) ⟨r23, fun w => ?_⟩ (row 0 (by omega) (by omega) (by omega) (by omega)) (show (0 : Int) ≤ 0 ∧ (0 : Int) ≤ 1000 by decide) (Or.inl (show (0 : Int) ≤ 0 ∧ (0 : Int) ≤ 6 by decide)) (Or.inl (show (0 : Int) ≤ 0 ∧ (0 : Int) ≤ 8 by decide)) (fun μ25 L25 l25 f25 => ?_)
    · have w3 : eF (first3 (txt b n)).2 = 0 := w
      have w2 := (SG.num (T := txt b n) (lo := 1) (hi := 8) (e := (first2 (txt b n)).2) w3).1
      have c1 : μ23 187 1 = (first2 (txt b n)).1 := by rw [g23 _ _ (by omega), f21.r.row (by omega), e19, mup_at]; exact hv1 w2
      have c2 : μ23 187 2 = (first3 (txt b n)).1 := by rw [e23, mup_at]; exact hv2 w3
      refine ⟨⟨c1, c2, fun q z1 z2 => ?_, fun q z1 z2 => ?_, ⟨row _ (by omega) (by omega) (by omega) (by omega), fun k k0 k1 => ?_, fun q z1 z2 => ?_, row _ (by omega) (by omega) (by omega) (by omega)⟩, fun l l0 l1 => Or.inr ⟨row _ (by omega) (by omega) (by omega) (by omega), rfl⟩⟩, row _ (by omega) (by omega) (by omega) (by omega)⟩
      · have z2' : q < 0 := z2
        omega
      · have z1' : 0 ≤ q := z1
        exact ⟨row _ (by omega) (by omega) (by omega) (by omega), row _ (by omega) (by omega) (by omega) (by omega), row _ (by omega) (by omega) (by omega) (by omega)⟩
      · have k1' : k < 0 := k1
        omega
      · have z2' : q < 0 := z2
        omega
    · refine lines 1000 (firstG (txt b n)) μ25 L25 (fun w => ⟨hf.2 w, by omega⟩) l25 (fw23.tr (fun b' j q1 q2 => f25 b' j (fun w => by have := q1 w; omega) (fun w => by have := q2 w; omega))) rfl
  exact cb_exp (by omega) R12 (K := 0) (by unfold kOk; omega) (by decide) rfl go go

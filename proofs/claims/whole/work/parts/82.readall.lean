/-! THE CLASS READS: the whole text -/
theorem ct_clearH {d : Nat} {sc : SC} {μ : Mem} {h : Int} (hd : 2 ≤ d) (hh : isK 1 h) : CTv mX1_clear d sc [(2, h)] μ (fun μ' => (∀ b j, (b < h ∨ h + 12 < b) → μ' b j = μ b j) ∧ GQ μ' h 0 g0S) := by
  refine CTv_of mp_X1_clear (Nat.le_of_ble_eq_true rfl) ?_
  refine s_X1_clear_0 hh ?_
  intro μ1 e1 μ2 e2 μ3 e3 μ4 e4
  have g4 : ∀ b j : Int, b ≠ h → μ4 b j = μ b j := fun b j y => by
    rw [e4, mup_ap, if_neg (fun z => y z.1), e3, mup_ap, if_neg (fun z => y z.1), e2, mup_ap, if_neg (fun z => y z.1), e1, mup_ap, if_neg (fun z => y z.1)]
  have v0 : μ4 h 0 = 1 := by rw [e4, mup_ap, if_neg (fun z => by omega), e3, mup_ap, if_neg (fun z => by omega), e2, mup_ap, if_neg (fun z => by omega), e1, mup_at]
  have v1 : μ4 h 1 = 1 := by rw [e4, mup_ap, if_neg (fun z => by omega), e3, mup_ap, if_neg (fun z => by omega), e2, mup_at]
  have v2 : μ4 h 2 = 0 := by rw [e4, mup_ap, if_neg (fun z => by omega), e3, mup_at]
  have v3 : μ4 h 3 = 0 := by rw [e4, mup_at]
  refine byV (d' := 1) (by omega) (ct_fillI (kf_1_8 hh) (by decide)) ?_
  intro μ6 h6
  refine byV (d' := 1) (by omega) (ct_fillI (kf_1_9 hh) (by decide)) ?_
  intro μ8 h8
  intro μ9 e9 μ10 e10
  have g10 : ∀ b j : Int, (b = h + 7 → j ≠ 0 ∧ j ≠ 6) → μ10 b j = μ8 b j := fun b j y => by
    rw [e10, mup_ap, if_neg (fun z => (y z.1).2 z.2), e9, mup_ap, if_neg (fun z => (y z.1).1 z.2)]
  have g8 : ∀ b j : Int, b ≠ h + 5 → b ≠ h + 6 → μ8 b j = μ4 b j := fun b j y1 y2 => by rw [h8, if_neg (fun z => y2 z.1), h6, if_neg (fun z => y1 z.1)]
  refine ⟨fun b j y => by rw [g10 b j (by omega), g8 b j (by omega) (by omega), g4 b j (by omega)], ?_, ?_, ?_, ?_, fun q q0 q1 => by omega, ⟨?_, fun k k0 k1 => ?_, fun q q0 q1 => by omega, ?_⟩, fun l l0 l1 => ?_⟩
  · rw [g10 _ _ (by omega), g8 _ _ (by omega) (by omega)]; exact v0
  · rw [g10 _ _ (by omega), g8 _ _ (by omega) (by omega)]; exact v1
  · rw [g10 _ _ (by omega), g8 _ _ (by omega) (by omega)]; exact v2
  · rw [g10 _ _ (by omega), g8 _ _ (by omega) (by omega)]; exact v3
  · rw [e10, mup_ap, if_neg (fun z => by omega), e9, mup_at]; rfl
  · have : k < 0 := k1
    omega
  · rw [e10, mup_at]; rfl
  · rw [g10 _ _ (by omega), g10 _ _ (by omega)]
    show μ8 (h + 5) l = 0 ∧ μ8 (h + 6) l = 0 + 0
    refine ⟨?_, ?_⟩
    · rw [h8, if_neg (fun z => by omega), h6, if_pos ⟨rfl, l0, by omega⟩]
    · rw [h8, if_pos ⟨rfl, l0, by omega⟩]; rfl
theorem ca_readFirst {d : Nat} {sc : SC} {μ : Mem} {T : TxT} {N : Nat} {h : Int} {R : Mem → Prop} (hd : 4 ≤ d) (hE : RE μ T N h (gE g0S)) (hQ : GQ μ h 0 g0S)
    (k : ∀ μ', RE μ' T N h (gE (firstG T)) → GQ μ' h 0 (firstG T) → FRg μ μ' h → R μ') : CAv mX7_readFirstLine d sc [(2, 28)] μ R := by
  have hh := hE.1
  have hhv := ik_1 hh
  refine byV (d' := 3) (by omega) (Q := R) ?_ (fun _ z => z)
  refine CTv_of mp_X7_readFirstLine (Nat.le_of_ble_eq_true rfl) ?_
  refine s_X7_readFirstLine_0 (ca_expect (by omega) (by decide) hE ?_)
  intro μ2 r2 f2
  have r2' : RE μ2 T N h (first1 T) := r2
  refine ca_readNumber (by omega) r2' ?_
  intro μ4 r4 f4
  have r4' : RE μ4 T N h (first2 T).2 := r4
  rw [r2'.2.2.2.2.1]
  refine ⟨hh, ?_⟩
  intro μ6 e6
  have g6 : ∀ b j : Int, (b = h → j ≠ 0) → μ6 b j = μ4 b j := fun b j y => by rw [e6, mup_ap, if_neg (fun z => y z.1 z.2)]
  have r6 : RE μ6 T N h (first2 T).2 := r4'.same (fun b j _ q => g6 b j (by omega))
  refine ca_readNumber (by omega) r6 ?_
  intro μ8 r8 f8
  have r8' : RE μ8 T N h (first3 T).2 := r8
  rw [r6.2.2.2.2.1]
  refine ⟨hh, ?_⟩
  intro μ10 e10
  have g10 : ∀ b j : Int, (b = h → j ≠ 1) → μ10 b j = μ8 b j := fun b j y => by rw [e10, mup_ap, if_neg (fun z => y z.1 z.2)]
  have r10 : RE μ10 T N h (first3 T).2 := r8'.same (fun b j _ q => g10 b j (by omega))
  refine ca_expect (by omega) (by decide) r10 ?_
  intro μ12 r12 f12
  rw [r12.2.2.2.2.1]
  refine ⟨hh, ?_⟩
  intro μ14 e14
  have g14 : ∀ b j : Int, (b = h → j ≠ 2) → μ14 b j = μ12 b j := fun b j y => by rw [e14, mup_ap, if_neg (fun z => y z.1 z.2)]
  have F : FRg μ μ14 h := by
    intro b j q1 q2
    rw [g14 b j (by omega), f12.g b j q1 q2, g10 b j (by omega), f8.g b j q1 q2, g6 b j (by omega), f4.g b j q1 q2, f2.g b j q1 q2]
  have G : ∀ b j : Int, h ≤ b → b ≤ h + 12 → b ≠ h + 4 → b ≠ h → μ14 b j = μ b j := fun b j y1 y2 y3 y4 => by
    rw [g14 b j (by omega), f12 b j (by omega) y3, g10 b j (by omega), f8 b j (by omega) y3, g6 b j (by omega), f4 b j (by omega) y3, f2 b j (by omega) y3]
  refine k μ14 (r12.same (fun b j _ q => g14 b j (by omega))) ?_ F
  obtain ⟨q1, q2, q3, q4, q5, q6, q7⟩ := hQ
  refine ⟨?_, ?_, ?_, ?_, fun q z1 z2 => by omega, q6.same (fun b j z1 z2 => G b j (by omega) (by omega) (by omega) (by omega)), fun l z1 z2 => by rw [G _ _ (by omega) (by omega) (by omega) (by omega), G _ _ (by omega) (by omega) (by omega) (by omega)]; exact q7 l z1 z2⟩
  · rw [g14 _ _ (by omega), f12 _ _ (by omega) (by omega), g10 _ _ (by omega), f8 _ _ (by omega) (by omega), e6, mup_at]; rfl
  · rw [g14 _ _ (by omega), f12 _ _ (by omega) (by omega), e10, mup_at]; rfl
  · rw [e14, mup_at]; rfl
  · rw [g14 _ _ (by omega), f12 _ _ (by omega) (by omega), g10 _ _ (by omega), f8 _ _ (by omega) (by omega), g6 _ _ (by omega), f4 _ _ (by omega) (by omega), f2 _ _ (by omega) (by omega)]; exact q4
theorem ca_read {d : Nat} {sc : SC} {μ : Mem} {b : Int → Int} {n : Nat} {h : Int} {R : Int → Mem → Prop} (hd : 64 ≤ d) (hh : isK 1 h) (hn : n ≤ 900) (hb : ∀ i : Int, 0 ≤ i → i < n → BY (μ 1 i) (b i) ∧ 0 ≤ b i ∧ b i ≤ 255)
    (k : ∀ (x : Int) (μ' : Mem) (N : Nat), (x = if eF (gE (textG (txt b n))) = 0 then 1 else 0) → RE μ' (txt b n) N h (gE (textG (txt b n))) → GQ μ' h (hP (gH (textG (txt b n)))) (textG (txt b n)) → (∀ c j, (c < 28 ∨ 31 < c) → (c < h ∨ h + 12 < c) → μ' c j = μ c j) → R x μ') : CAi mX7_read d sc [(2, 28), (2, 1), (0, (n : Int)), (2, h)] μ R := by
  have hhv := ik_1 hh
  generalize hTx : txt b n = T at *
  refine byI (d' := 63) (by omega) (Q := R) ?_ (fun _ _ z => z)
  refine CTi_of mp_X7_read (Nat.le_of_ble_eq_true rfl) ?_
  refine s_X7_read_0 (kf_9_0 k_0) hh ?_
  intro μ1 e1 μ2 e2
  have g2 : ∀ c j : Int, (c = 28 → j ≠ 2 ∧ j ≠ 3) → μ2 c j = μ c j := fun c j y => by rw [e2, mup_ap, if_neg (fun z => (y z.1).2 z.2), e1, mup_ap, if_neg (fun z => (y z.1).1 z.2)]
  have hTB : TB μ2 b n := ⟨by rw [e2, mup_ap, if_neg (fun z => by omega), e1, mup_at], hn, fun i i0 i1 => by rw [g2 _ _ (by omega)]; exact hb i i0 i1⟩
  refine byV (d' := 5) (by omega) (ct_split (Nat.le_refl _) hTB) ?_
  rintro μ4 ⟨N, hN, hTK, h52, hlt, f4⟩
  rw [hTx] at hTK h52 hlt
  have hTH : TH T N := ⟨h52, fun j => by rw [← hTx]; exact tkV_b b n _⟩
  have a4 : μ4 28 3 = h := by rw [f4 _ _ (by omega) (by omega) (by omega) (by omega), e2, mup_at]
  rw [a4]
  refine ⟨hh, byV (d' := 2) (by omega) (ct_clearH (Nat.le_refl _) hh) ?_⟩
  rintro μ7 ⟨f7, Q7⟩
  intro μ8 e8 μ9 e9 μ10 e10 μ11 e11
  have g11 : ∀ c j : Int, (c = 28 → j ≠ 8 ∧ j ≠ 9 ∧ j ≠ 0 ∧ j ≠ 1) → μ11 c j = μ7 c j := fun c j y => by
    rw [e11, mup_ap, if_neg (fun z => (y z.1).2.2.2 z.2), e10, mup_ap, if_neg (fun z => (y z.1).2.2.1 z.2), e9, mup_ap, if_neg (fun z => (y z.1).2.1 z.2), e8, mup_ap, if_neg (fun z => (y z.1).1 z.2)]
  have r11 : RE μ11 T N h (gE g0S) := by
    refine ⟨hh, by omega, hTH, ?_, ?_, ⟨Nat.zero_le _, Or.inl rfl⟩, ?_, ?_, ?_, ?_, fun i hi => absurd hi (by show ¬ i < 0; omega)⟩
    · exact (hTK.same (f7 _ _ (by omega)) (fun c j _ _ => f7 c j (by omega))).same (g11 _ _ (by omega)) (fun c j _ _ => g11 c j (by omega))
    · rw [g11 _ _ (by omega), f7 _ _ (by omega)]; exact a4
    · rw [e11, mup_ap, if_neg (fun z => by omega), e10, mup_at]; rfl
    · rw [e11, mup_at]; rfl
    · rw [e11, mup_ap, if_neg (fun z => by omega), e10, mup_ap, if_neg (fun z => by omega), e9, mup_ap, if_neg (fun z => by omega), e8, mup_at]; rfl
    · rw [e11, mup_ap, if_neg (fun z => by omega), e10, mup_ap, if_neg (fun z => by omega), e9, mup_at]; rfl
  have Q11 : GQ μ11 h 0 g0S := Q7.same (fun c j _ _ _ => g11 c j (by omega))
  have F11 : ∀ c j : Int, (c < 28 ∨ 31 < c) → (c < h ∨ h + 12 < c) → μ11 c j = μ c j := fun c j y1 y2 => by
    rw [g11 c j (by omega), f7 c j y2, f4 c j (by omega) (by omega) (by omega) (by omega), g2 c j (by omega)]
  refine ca_readFirst (by omega) r11 Q11 ?_
  intro μ13 r13 Q13 f13
  have F13 : ∀ c j : Int, (c < 28 ∨ 31 < c) → (c < h ∨ h + 12 < c) → μ13 c j = μ c j := fun c j y1 y2 => by rw [f13 c j (by omega) y2]; exact F11 c j y1 y2
  have hfo := first_ok hTH
  have key : ∀ (r : Nat) (i : Int) (g : GS) (μ1 : Mem), RE μ1 T N h (gE g) → GQ μ1 h (hP (gH g)) g → (eF (gE g) = 0 → WG N g) → (∀ c j : Int, (c < 28 ∨ 31 < c) → (c < h ∨ h + 12 < c) → μ1 c j = μ c j) → (eF (gE g) = 0 → N + 1 ≤ r + eK (gE g) ∧ i ≤ eK (gE g)) → 0 ≤ i → i ≤ 1000 → repA (lineC T) (lineG T) r g = textG T →
      WQ mX7_read 63 sc (ZI sc R) 49 [(2, 28), (9, 0), (9, 0), (9, 0), (0, i)] [] μ1 := by
    intro r
    induction r with
    | zero =>
      intro i g μ1 hE1 hQ1 hW1 hF1 hr i0 i1 he
      have hf := hE1.2.2.2.2.2.2.1
      have hne : eF (gE g) ≠ 0 := fun z => by have := hr z; have := hE1.2.2.2.2.2.1.1; omega
      rw [repA] at he
      have F0 : R 0 μ1 := k 0 μ1 N (by rw [← he, if_neg hne]) (by rw [← he]; exact hE1) (by rw [← he]; exact hQ1) hF1
      refine s_X7_read_49 ⟨fun _ => ⟨fun _ => F0, fun z => by rw [hf] at z; exact absurd z hne⟩, fun _ => ⟨fun _ => ⟨fun _ => F0, fun z => by rw [hf] at z; exact absurd z hne⟩, fun z => by rw [hf] at z; exact absurd z hne⟩⟩
    | succ r ih =>
      intro i g μ1 hE1 hQ1 hW1 hF1 hr i0 i1 he
      have hf := hE1.2.2.2.2.2.2.1
      have t := hE1.tok
      have stop : lineC T g = false → ∀ x : Int, (x = if eF (gE g) = 0 then 1 else 0) → R x μ1 := fun y x hx => by
        rw [repA, y, if_neg (by decide)] at he
        exact k x μ1 N (by rw [← he]; exact hx) (by rw [← he]; exact hE1) (by rw [← he]; exact hQ1) hF1
      have noF : eF (gE g) ≠ 0 → lineC T g = false := fun y => decide_eq_false (fun q => y q.1)
      refine s_X7_read_49 ⟨fun z => ⟨fun y => ?_, fun y => ?_⟩, fun z => ⟨fun y => ⟨fun _ => ?_, fun y2 => absurd y2 y⟩, fun y => ⟨t.1, fun y2 => ⟨fun y3 => absurd y y3, fun _ => ?_⟩, fun y2 => ?_⟩⟩⟩
      · rw [hf] at y
        exact stop (noF y) 0 (by rw [if_neg y])
      · rw [hf] at y
        have := hr y
        have h4 := hE1.2.2.2.1.1
        have := hE1.2.2.2.2.2.1.1
        omega
      · rw [hf] at y
        exact stop (noF y) 0 (by rw [if_neg y])
      · rw [hf] at y
        rw [t.2.1] at y2
        exact stop (decide_eq_false (fun q => q.2 y2)) 1 (by rw [if_pos y])
      · rw [hf] at y
        rw [t.2.1] at y2
        have hc : lineC T g = true := decide_eq_true ⟨y, y2⟩
        rw [repA, if_pos hc] at he
        have hk := hE1.2.2.2.2.2.1.1
        have hln := LN.line hTH y hk y2 (hW1 y)
        refine ca_readLine (by omega) hE1 hQ1 y y2 (hW1 y) ?_
        intro μ9 r9 Q9 f9
        refine ⟨by omega, ?_⟩
        rintro _ rfl
        refine ih (i + 1) (lineG T g) μ9 r9 Q9 (fun z => (hln.2 z).2.2) (fun c j y1 y2 => by rw [f9 c j (by omega) y2]; exact hF1 c j y1 y2) (fun z => ?_) (by omega) ?_ he
        · have := hr y
          have := (hln.2 z).2.1
          omega
        · have := hr y
          omega
  refine key 1000 0 (firstG T) μ13 r13 Q13 hfo.2 F13 (fun _ => ⟨by omega, by omega⟩) (Int.le_refl _) (by decide) rfl

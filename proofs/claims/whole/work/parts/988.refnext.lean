/-! THE REFERENCE READS: the next token -/
def PT (μ : Mem) (b : Int → Int) (n k : Nat) : Prop := μ 183 9 = trK ((txt b n).1 k) ∧ μ 183 6 = (txt b n).2.1 k ∧ μ 183 7 = posk b n (k + 1) ∧ ((txt b n).1 k = 50 → μ 183 10 = (txt b n).2.2 k)
def FRn (μ μ' : Mem) : Prop := ∀ b j, (b = 183 → j ≠ 6 ∧ j ≠ 7 ∧ j ≠ 9 ∧ j ≠ 10) → μ' b j = μ b j
theorem FRn.refl (μ : Mem) : FRn μ μ := fun _ _ _ => rfl
theorem FRn.tr {μ1 μ2 μ3 : Mem} (h : FRn μ1 μ2) (h' : FRn μ2 μ3) : FRn μ1 μ3 := fun b j q => by rw [h' b j q]; exact h b j q
theorem FRn.up {μ μ1 μ2 : Mem} {j v : Int} (h : FRn μ μ1) (e : μ2 = mup μ1 183 j v) (hj : j = 6 ∨ j = 7 ∨ j = 9 ∨ j = 10) : FRn μ μ2 := fun b i q => by rw [e, mup_ap, if_neg (fun y => by have := q y.1; omega)]; exact h b i q
theorem FRn.tm {μ μ' : Mem} {b : Int → Int} {n : Nat} (h : FRn μ μ') (hT : TM μ b n) : TM μ' b n := hT.same (h _ _ (by omega)) (fun j => h _ _ (by omega))
theorem cb_see {d : Nat} {sc : SC} {μ : Mem} {b : Int → Int} {n i : Nat} {R : Int → Mem → Prop} (hd : 1 ≤ d) (hT : TM μ b n) (k0 : n ≤ i → R (-1) μ) (k1 : i < n → R (b i) μ) : CAi mX10_see d sc [(2, 183), (0, (i : Int))] μ R := by
  have h9 := hT.2.1
  refine byI (d' := 0) (by omega) (Q := R) ?_ (fun _ _ z => z)
  refine CTi_of mp_X10_see (Nat.le_of_ble_eq_true rfl) ?_
  refine s_X10_see_0 ?_
  rw [hT.1]
  refine ⟨fun z => k0 (by omega), fun z => ⟨by omega, ?_⟩⟩
  rw [(hT.2.2 i (by omega) z).1]
  exact k1 (by omega)
theorem cb_isSmall {d : Nat} {sc : SC} {μ : Mem} {c : Int} {R : Int → Mem → Prop} (hd : 1 ≤ d) (k0 : isLetB c = false → R 0 μ) (k1 : isLetB c = true → R 1 μ) : CAi mX10_isSmall d sc [(0, c)] μ R := by
  refine byI (d' := 0) (by omega) (Q := R) ?_ (fun _ _ z => z)
  refine CTi_of mp_X10_isSmall (Nat.le_of_ble_eq_true rfl) ?_
  exact s_X10_isSmall_0 ⟨fun z => k0 (decide_eq_false (by omega)), fun z => ⟨fun z2 => k0 (decide_eq_false (by omega)), fun z2 => k1 (decide_eq_true ⟨z, z2⟩)⟩⟩
theorem cb_isDigit {d : Nat} {sc : SC} {μ : Mem} {c : Int} {R : Int → Mem → Prop} (hd : 1 ≤ d) (k0 : isDigB c = false → R 0 μ) (k1 : isDigB c = true → R 1 μ) : CAi mX10_isDigit d sc [(0, c)] μ R := by
  refine byI (d' := 0) (by omega) (Q := R) ?_ (fun _ _ z => z)
  refine CTi_of mp_X10_isDigit (Nat.le_of_ble_eq_true rfl) ?_
  exact s_X10_isDigit_0 ⟨fun z => k0 (decide_eq_false (by omega)), fun z => ⟨fun z2 => k0 (decide_eq_false (by omega)), fun z2 => k1 (decide_eq_true ⟨z, z2⟩)⟩⟩
theorem sign3 : ∀ r : Nat, r < 12 → txAt 3 r = txAt 1 r := by decide +kernel
theorem trK_sign {K : Int} (h : 30 ≤ K ∧ K ≤ 41) : trK K = K := by unfold trK; rw [if_neg (by omega), if_neg (by omega), if_neg (by omega), if_neg (by omega), if_neg (by omega)]
theorem cb_next {d : Nat} {sc : SC} {μ : Mem} {b : Int → Int} {n c : Nat} {R : Mem → Prop} (hd : 6 ≤ d) (hT : TM μ b n) (h7 : μ 183 7 = posk b n c) (k : ∀ μ', FRn μ μ' → PT μ' b n c → R μ') : CAv mX10_next d sc [(2, 183)] μ R := by
  have h9 := hT.2.1
  have hpb := posk_b b n c
  have hpos : ((posk b n (c + 1) : Nat) : Int) = (tkE b n (posk b n c) : Nat) := rfl
  have tk1 : (txt b n).1 c = tkK b n (posk b n c) := rfl
  have tk2 : (txt b n).2.1 c = (tkP b n (posk b n c) : Nat) := rfl
  have tk3 : (txt b n).2.2 c = tkV b n (posk b n c) := rfl
  have hkk : ∀ μ', FRn μ μ' → μ' 183 9 = trK (tkK b n (posk b n c)) → μ' 183 6 = (tkP b n (posk b n c) : Nat) → μ' 183 7 = (tkE b n (posk b n c) : Nat) → (tkK b n (posk b n c) = 50 → μ' 183 10 = tkV b n (posk b n c)) → R μ' := fun μ' f a1 a2 a3 a4 => k μ' f ⟨a1, a2, a3, a4⟩
  clear k
  generalize posk b n c = pos at *
  refine byV (d' := 5) (by omega) (Q := R) ?_ (fun _ z => z)
  refine CTv_of mp_X10_next (Nat.le_of_ble_eq_true rfl) ?_
  refine s_X10_next_0 ?_
  intro μ1 e1
  have hws := runE_b (p := isWsB) (b := b) (n := n) (i := pos)
  have htp : tkP b n pos = runE isWsB b n pos := rfl
  have key : ∀ (r i : Nat) (μ2 : Mem), i + r = n → runE isWsB b n i = tkP b n pos → FRn μ μ2 → μ2 183 6 = i → WQ mX10_next 5 sc (ZV sc R) 8 [(2, 183), (9, 0)] [] μ2 := by
    intro r
    have stop : ∀ (i : Nat) (μ2 : Mem), i ≤ n → ¬ (i < n ∧ isWsB (b i) = true) → runE isWsB b n i = tkP b n pos → FRn μ μ2 → μ2 183 6 = i → ∀ μ9 : Mem, μ9 = mup μ2 183 7 (μ2 183 6) →
        (μ9 183 6 < μ9 183 8 → CAi mX10_see 5 sc [(2, 183), (0, μ9 183 6)] μ9 (fun r11 μ12 => CAi mX10_isSmall 5 sc [(0, r11)] μ12 (fun r13 μ14 => (r13 = 0 → CAi mX10_see 5 sc [(2, 183), (0, μ14 183 6)] μ14 (fun r16 μ17 => CAi mX10_isDigit 5 sc [(0, r16)] μ17 (fun r18 μ19 => (r18 = 0 → (-2147483648 ≤ (μ19 183 7) + 1 ∧ (μ19 183 7) + 1 < 2147483648) ∧ (∀ μ22, μ22 = mup μ19 183 7 ((μ19 183 7) + 1) → ∀ μ23, μ23 = mup μ22 183 9 27 → WQ mX10_next 5 sc (ZV sc R) 254 [(2, 183), (0, 0)] [] μ23)) ∧ (r18 ≠ 0 → ∀ μ24, μ24 = mup μ19 183 10 0 → WQ mX10_next 5 sc (ZV sc R) 146 [(2, 183), (9, 0)] [] μ24)))) ∧ (r13 ≠ 0 → WQ mX10_next 5 sc (ZV sc R) 89 [(2, 183), (9, 0)] [] μ14)))) ∧ (μ9 183 8 ≤ μ9 183 6 → ∀ μ25, μ25 = mup μ9 183 9 26 → R μ25) := by
      intro i μ2 hi hno hrun hf h6 μ9 e9
      rw [runE_stop hno] at hrun
      rw [h6] at e9
      have f9 := hf.up e9 (by omega)
      have s7 : μ9 183 7 = i := by rw [e9, mup_at]
      have s6 : μ9 183 6 = i := by rw [e9, mup_ap, if_neg (fun y => by omega)]; exact h6
      have T9 := f9.tm hT
      have s8 := T9.1
      rw [s6, s8]
      refine ⟨fun hlt => ?_, fun hge => ?_⟩
      rotate_left
      · intro μ25 e25
        have hge' : n ≤ tkP b n pos := by omega
        have hE : tkE b n pos = n := by unfold tkE; rw [if_pos hge']
        refine hkk μ25 (f9.up e25 (by omega)) ?_ ?_ ?_ (fun y => ?_)
        · rw [e25, mup_at, (tkK_end b n pos).mpr hge']; decide
        · rw [e25, mup_ap, if_neg (fun y => by omega), s6, hrun]
        · rw [e25, mup_ap, if_neg (fun y => by omega), s7, hE]; omega
        · rw [(tkK_end b n pos).mpr hge'] at y; exact absurd y (by decide)
      have hlt' : i < n := by omega
      have hK : tkK b n pos = if isLetB (b i) = true then wordK b i (runE isLetB b n i) else if isDigB (b i) = true then (if 3 < runE isDigB b n i - i then 53 else 50) else signK (b i) := by unfold tkK; rw [← hrun, if_neg (by omega)]
      have hE : tkE b n pos = if isLetB (b i) = true then runE isLetB b n i else if isDigB (b i) = true then runE isDigB b n i else i + 1 := by unfold tkE; rw [← hrun, if_neg (by omega)]
      refine cb_see (by omega) T9 (fun y => by omega) (fun _ => cb_isSmall (by omega) (fun hl => ⟨fun _ => ?_, fun y => absurd rfl y⟩) (fun hl => ⟨fun y => absurd y (by decide), fun _ => ?_⟩))
      · rw [s6]
        refine cb_see (by omega) T9 (fun y => by omega) (fun _ => cb_isDigit (by omega) (fun hg => ⟨fun _ => ?_, fun y => absurd rfl y⟩) (fun hg => ⟨fun y => absurd y (by decide), fun _ => ?_⟩))
        · skip
          rw [hl, if_neg (by decide), hg, if_neg (by decide)] at hK hE
          rw [s7]
          refine ⟨by omega, ?_⟩
          intro μ22 e22 μ23 e23
          have f23 := (f9.up e22 (by omega)).up e23 (by omega)
          have t6 : μ23 183 6 = i := by rw [e23, mup_ap, if_neg (fun y => by omega), e22, mup_ap, if_neg (fun y => by omega)]; exact s6
          have t7 : μ23 183 7 = (i : Int) + 1 := by rw [e23, mup_ap, if_neg (fun y => by omega), e22, mup_at]
          have t9 : μ23 183 9 = 27 := by rw [e23, mup_at]
          have signs : ∀ (r m : Nat) (μ3 : Mem), m + r = 12 → FRn μ μ3 → μ3 183 6 = i → μ3 183 7 = (i : Int) + 1 → ((∃ q : Nat, q < m ∧ txAt 3 q = b i ∧ μ3 183 9 = 30 + q) ∨ ((∀ q : Nat, q < m → txAt 3 q ≠ b i) ∧ μ3 183 9 = 27)) → WQ mX10_next 5 sc (ZV sc R) 254 [(2, 183), (0, (m : Int))] [] μ3 := by
            intro r
            induction r with
            | zero =>
              intro m μ3 hm hf3 u6 u7 hq
              refine s_X10_next_254 (cj_len3 (by omega) ⟨fun _ => hkk μ3 hf3 ?_ (by rw [u6, hrun]) (by rw [u7, hE]; omega) (fun y => ?_), fun y => by omega⟩)
              · rw [hK]
                rcases hq with ⟨q, q1, q2, q3⟩ | ⟨q1, q2⟩
                · have := sign_at q (by omega)
                  rw [q3, ← q2, sign3 q (by omega), this.1, trK_sign ⟨by omega, by omega⟩]
                · have : signK (b i) = 53 := sign_none (fun r hr => by rw [← sign3 r hr]; exact q1 r (by omega))
                  rw [q2, this]; decide
              · rw [hK] at y
                exact absurd y (signK_b _).2.2.1
            | succ r ih =>
              intro m μ3 hm hf3 u6 u7 hq
              refine s_X10_next_254 (cj_len3 (by omega) ⟨fun y => by omega, fun _ => ?_⟩)
              rw [u6]
              refine cb_see (by omega) (hf3.tm hT) (fun y => by omega) (fun _ => cj_char3 (by omega) (by have := key_end.2; omega) ⟨fun z => ⟨by omega, ?_⟩, fun z => ⟨by omega, ?_⟩⟩)
              · rintro _ rfl
                refine ih (m + 1) μ3 (by omega) hf3 u6 u7 ?_
                rcases hq with ⟨q, q1, q2, q3⟩ | ⟨q1, q2⟩
                · exact Or.inl ⟨q, by omega, q2, q3⟩
                · refine Or.inr ⟨fun q hq2 => ?_, q2⟩
                  by_cases y : q = m
                  · rw [y]; exact fun w => z w.symm
                  · exact q1 q (by omega)
              · intro μ12 e12
                refine ⟨by omega, ?_⟩
                rintro _ rfl
                exact ih (m + 1) μ12 (by omega) (hf3.up e12 (by omega)) (by rw [e12, mup_ap, if_neg (fun y => by omega)]; exact u6) (by rw [e12, mup_ap, if_neg (fun y => by omega)]; exact u7) (Or.inl ⟨m, by omega, z.symm, by rw [e12, mup_at]⟩)
          exact signs 12 0 μ23 rfl f23 t6 t7 (Or.inr ⟨fun q hq => absurd hq (Nat.not_lt_zero _), t9⟩)
        · skip
          rw [hl, if_neg (by decide), if_pos hg] at hK hE
          intro μ24 e24
          have f24 := f9.up e24 (by omega)
          have hre := runE_b (p := isDigB) (b := b) (n := n) (i := i)
          have nums : ∀ (r m : Nat) (μ3 : Mem), i + m + r = n → FRn μ μ3 → μ3 183 6 = i → μ3 183 7 = (i : Int) + m → (∀ t : Nat, i ≤ t → t < i + m → isDigB (b t) = true) → runE isDigB b n (i + m) = runE isDigB b n i → μ3 183 10 = numF b i (min m 3) → WQ mX10_next 5 sc (ZV sc R) 146 [(2, 183), (9, 0)] [] μ3 := by
            intro r
            have fin : ∀ (m : Nat) (μ3 : Mem), FRn μ μ3 → μ3 183 6 = i → μ3 183 7 = (i : Int) + m → runE isDigB b n i = i + m → m ≤ 900 → μ3 183 10 = numF b i (min m 3) → (-2147483648 ≤ (μ3 183 7) - (μ3 183 6) ∧ (μ3 183 7) - (μ3 183 6) < 2147483648) ∧ ((μ3 183 7) - (μ3 183 6) ≤ 3 → ∀ μ8, μ8 = mup μ3 183 9 25 → R μ8) ∧ (3 < (μ3 183 7) - (μ3 183 6) → ∀ μ9, μ9 = mup μ3 183 9 27 → R μ9) := by
              intro m μ3 hf3 u6 u7 hrm hm9 u10
              rw [u6, u7]
              rw [hrm, show i + m - i = m by omega] at hK
              rw [hrm] at hE
              refine ⟨by omega, fun z => ?_, fun z => ?_⟩
              · intro μ8 e8
                rw [if_neg (by omega)] at hK
                refine hkk μ8 (hf3.up e8 (by omega)) (by rw [e8, mup_at, hK]; decide) (by rw [e8, mup_ap, if_neg (fun y => by omega), u6, hrun]) (by rw [e8, mup_ap, if_neg (fun y => by omega), u7, hE]; omega) (fun _ => ?_)
                rw [e8, mup_ap, if_neg (fun y => by omega), u10]
                unfold tkV
                rw [if_pos hK, ← hrun, hrm, show i + m - i = m by omega, show min m 3 = m by omega]
              · intro μ8 e8
                rw [if_pos (by omega)] at hK
                refine hkk μ8 (hf3.up e8 (by omega)) (by rw [e8, mup_at, hK]; decide) (by rw [e8, mup_ap, if_neg (fun y => by omega), u6, hrun]) (by rw [e8, mup_ap, if_neg (fun y => by omega), u7, hE]; omega) (fun y => ?_)
                rw [hK] at y; exact absurd y (by decide)
            induction r with
            | zero =>
              intro m μ3 hm hf3 u6 u7 hdg hrr u10
              have hrm : runE isDigB b n i = i + m := by rw [← hrr, runE_stop (by omega)]
              refine s_X10_next_146 ?_
              rw [u7, show (i : Int) + m = ((i + m : Nat) : Int) by omega]
              refine cb_see (by omega) (hf3.tm hT) (fun _ => cb_isDigit (by omega) (fun _ => ⟨fun _ => ?_, fun y => absurd rfl y⟩) (fun y => absurd y (by decide))) (fun y => by omega)
              exact fin m μ3 hf3 u6 u7 hrm (by omega) u10
            | succ r ih =>
              intro m μ3 hm hf3 u6 u7 hdg hrr u10
              refine s_X10_next_146 ?_
              have e7 : (i : Int) + m = ((i + m : Nat) : Int) := by omega
              rw [u7, e7]
              refine cb_see (by omega) (hf3.tm hT) (fun y => by omega) (fun _ => cb_isDigit (by omega) (fun hdn => ⟨fun _ => ?_, fun y => absurd rfl y⟩) (fun hdy => ⟨fun y => absurd y (by decide), fun _ => ⟨by omega, fun z3 => ⟨by omega, ?_⟩, fun z3 => ⟨?_, ?_⟩⟩⟩))
              · have hrm : runE isDigB b n i = i + m := by rw [← hrr, runE_stop (fun y => by rw [hdn] at y; exact absurd y.2 (by decide))]
                exact fin m μ3 hf3 u6 u7 hrm (by omega) u10
              · intro μ13 e13
                refine ih (m + 1) μ13 (by omega) (hf3.up e13 (by omega)) (by rw [e13, mup_ap, if_neg (fun y => by omega)]; exact u6) (by rw [e13, mup_at]; omega) (fun t t0 t1 => ?_) ?_ ?_
                · by_cases q : t = i + m
                  · rw [q]; exact hdy
                  · exact hdg t t0 (by omega)
                · rw [← hrr, runE_go (i := i + m) (by omega) hdy, Nat.add_assoc]
                · rw [e13, mup_ap, if_neg (fun y => by omega), u10, show min (m + 1) 3 = min m 3 by omega]
              · have hb := numF_b (b := b) (i := i) (min m 3) (fun t t0 t1 => hdg t t0 (by omega))
                have hp : ∀ m : Nat, m ≤ 3 → (10 : Int) ^ m ≤ 1000 := by
                  intro m hm
                  have : m = 0 ∨ m = 1 ∨ m = 2 ∨ m = 3 := by omega
                  rcases this with rfl | rfl | rfl | rfl <;> decide
                have := hp (min m 3) (by omega)
                rw [u10]; omega
              · have hb := numF_b (b := b) (i := i) (min m 3) (fun t t0 t1 => hdg t t0 (by omega))
                have hp : ∀ m : Nat, m ≤ 3 → (10 : Int) ^ m ≤ 1000 := by
                  intro m hm
                  have : m = 0 ∨ m = 1 ∨ m = 2 ∨ m = 3 := by omega
                  rcases this with rfl | rfl | rfl | rfl <;> decide
                have := hp (min m 3) (by omega)
                have hdd := of_decide_eq_true hdy
                have hm3 : m < 3 := by omega
                have hnf : numF b i (min (m + 1) 3) = numF b i (min m 3) * 10 + (b ((i + m : Nat) : Int) - 48) := by rw [show min (m + 1) 3 = m + 1 by omega, show min m 3 = m by omega]; rfl
                rw [u7, e7]
                refine cb_see (by omega) (hf3.tm hT) (fun y => by omega) (fun _ => ?_)
                rw [u10]
                refine ⟨by omega, by omega, ?_⟩
                intro μ19 e19
                have w7 : μ19 183 7 = ((i + m : Nat) : Int) := by rw [e19, mup_ap, if_neg (fun y => by omega), u7]; omega
                rw [w7]
                refine ⟨by omega, ?_⟩
                intro μ21 e21
                refine ih (m + 1) μ21 (by omega) ((hf3.up e19 (by omega)).up e21 (by omega)) (by rw [e21, mup_ap, if_neg (fun y => by omega), e19, mup_ap, if_neg (fun y => by omega)]; exact u6) (by rw [e21, mup_at]; omega) (fun t t0 t1 => ?_) ?_ ?_
                · by_cases q : t = i + m
                  · rw [q]; exact hdy
                  · exact hdg t t0 (by omega)
                · rw [← hrr, runE_go (i := i + m) (by omega) hdy, Nat.add_assoc]
                · rw [e21, mup_ap, if_neg (fun y => by omega), e19, mup_at, hnf]; omega
          exact nums (n - i) 0 μ24 (by omega) f24 (by rw [e24, mup_ap, if_neg (fun y => by omega)]; exact s6) (by rw [e24, mup_ap, if_neg (fun y => by omega), s7]; omega) (fun t t0 t1 => by omega) rfl (by rw [e24, mup_at]; rfl)
      · skip
        rw [if_pos hl] at hK hE
        have hwords : ∀ (r m : Nat) (μ3 : Mem), m + r = n → i ≤ m → FRn μ μ3 → μ3 183 6 = i → μ3 183 7 = m → runE isLetB b n m = runE isLetB b n i → (m = i ∨ i < m) → WQ mX10_next 5 sc (ZV sc R) 89 [(2, 183), (9, 0)] [] μ3 := by
          have fin : ∀ (m : Nat) (μ3 : Mem), i < m → m ≤ n → FRn μ μ3 → μ3 183 6 = i → μ3 183 7 = m → runE isLetB b n i = m → CAi mX10_keyAt 5 sc [(2, 183)] μ3 (fun r6 μ7 => ∀ μ8, μ8 = mup μ7 183 9 r6 → R μ8) := by
            intro m μ3 him hmn hf3 u6 u7 hrm
            refine cb_keyAt (Nat.le_refl _) (hf3.tm hT) ⟨him, hmn⟩ u6 u7 ?_
            intro μ8 e8
            rw [hrm] at hK hE
            refine hkk μ8 (hf3.up e8 (by omega)) (by rw [e8, mup_at, hK]) (by rw [e8, mup_ap, if_neg (fun y => by omega), u6, hrun]) (by rw [e8, mup_ap, if_neg (fun y => by omega), u7, hE]) (fun y => ?_)
            rw [hK] at y
            have := wordK_b b i m
            omega
          intro r
          induction r with
          | zero =>
            intro m μ3 hm him hf3 u6 u7 hrr hmi
            have hrm : runE isLetB b n i = m := by rw [← hrr, runE_stop (by omega)]
            refine s_X10_next_89 ?_
            rw [u7]
            exact cb_see (by omega) (hf3.tm hT) (fun _ => cb_isSmall (by omega) (fun _ => ⟨fun _ => fin m μ3 (by omega) (by omega) hf3 u6 u7 hrm, fun y => absurd rfl y⟩) (fun y => absurd y (by decide))) (fun y => by omega)
          | succ r ih =>
            intro m μ3 hm him hf3 u6 u7 hrr hmi
            refine s_X10_next_89 ?_
            rw [u7]
            refine cb_see (by omega) (hf3.tm hT) (fun y => by omega) (fun _ => cb_isSmall (by omega) (fun hn => ⟨fun _ => ?_, fun y => absurd rfl y⟩) (fun hy => ⟨fun y => absurd y (by decide), fun _ => ⟨by omega, ?_⟩⟩))
            · have him2 : i < m := by
                rcases hmi with q | q
                · rw [q] at hn; rw [hn] at hl; exact absurd hl (by decide)
                · exact q
              have hrm : runE isLetB b n i = m := by rw [← hrr, runE_stop (fun y => by rw [hn] at y; exact absurd y.2 (by decide))]
              exact fin m μ3 him2 (by omega) hf3 u6 u7 hrm
            · intro μ10 e10
              exact ih (m + 1) μ10 (by omega) (by omega) (hf3.up e10 (by omega)) (by rw [e10, mup_ap, if_neg (fun y => by omega)]; exact u6) (by rw [e10, mup_at]; omega) (by rw [← hrr, runE_go (i := m) (by omega) hy]) (Or.inr (by omega))
        exact hwords (n - i) i μ9 (by omega) (Nat.le_refl _) f9 s6 s7 rfl (Or.inl rfl)
    induction r with
    | zero =>
      intro i μ2 hi hrun hf h6
      refine s_X10_next_8 ?_
      rw [h6]
      refine cb_see (by omega) (hf.tm hT) (fun _ => ⟨fun y => absurd y (by decide), fun _ => ?_⟩) (fun y => by omega)
      rw [h6]
      refine cb_see (by omega) (hf.tm hT) (fun _ => ⟨fun _ => ?_, fun y => absurd y (by decide)⟩) (fun y => by omega)
      exact stop i μ2 (by omega) (by omega) hrun hf h6
    | succ r ih =>
      intro i μ2 hi hrun hf h6
      have on : isWsB (b i) = true → ∀ μ5 : Mem, μ5 = mup μ2 183 6 ((μ2 183 6) + 1) → WQ mX10_next 5 sc (ZV sc R) 8 [(2, 183), (9, 0)] [] μ5 := fun hw μ5 e5 => by
        refine ih (i + 1) μ5 (by omega) ?_ (hf.up e5 (by omega)) (by rw [e5, mup_at]; omega)
        rw [← hrun, runE_go (i := i) (by omega) hw]
      refine s_X10_next_8 ?_
      rw [h6]
      refine cb_see (by omega) (hf.tm hT) (fun y => by omega) (fun _ => ⟨fun y => ⟨by omega, on (decide_eq_true (Or.inl y))⟩, fun y => ?_⟩)
      rw [h6]
      refine cb_see (by omega) (hf.tm hT) (fun y => by omega) (fun _ => ⟨fun y2 => ?_, fun y2 => ⟨by omega, on (decide_eq_true (Or.inr y2))⟩⟩)
      exact stop i μ2 (by omega) (fun w => by have := of_decide_eq_true w.2; omega) hrun hf h6
  exact key (n - pos) pos μ1 (by omega) htp.symm ((FRn.refl μ).up e1 (by omega)) (by rw [e1, mup_at]; exact h7)

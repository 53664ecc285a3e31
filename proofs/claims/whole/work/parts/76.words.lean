/-! THE CLASS READS: texts, tokens -/
theorem tx_ok : ∀ t : Nat, t < 4 → ∀ i : Nat, i < 200 → (i : Int) < txLen t → (0 ≤ txAt t i ∧ txAt t i < 128) := by decide +kernel
theorem toC255 : ∀ x : Nat, x < 128 → toC (iAnd (x : Int) 255) = x ∧ toC (x : Int) = x ∧ toB (x : Int) = x := by decide +kernel
theorem ca_charAt {d : Nat} {sc : SC} {μ : Mem} {t i : Nat} {R : Int → Mem → Prop} (hd : 4 ≤ d) (ht : t < 4) (hi : (i : Int) < txLen t) (k : R (txAt t i) μ) : CAi mJ0_charAt_5068e d sc [(3, (t : Int)), (0, (i : Int))] μ R := by
  have h200 : txLen t < 200 := by
    have H : ∀ t : Nat, t < 4 → txLen t < 200 := by decide +kernel
    exact H t ht
  have hx := tx_ok t ht i (by omega) hi
  have hc := (toC255 (txAt t i).toNat (by omega)).1
  rw [show (((txAt t i).toNat : Nat) : Int) = txAt t i by omega] at hc
  refine byI (d' := 3) (by omega) (Q := R) ?_ (fun _ _ z => z)
  refine CTi_of mp_J0_charAt_5068e (Nat.le_of_ble_eq_true rfl) ?_
  refine s_J0_charAt_5068e_0 (byI (d' := 2) (by omega) (Q := fun x μ' => x = 1 ∧ μ' = μ) (CTi_of mp_J0_isLatin1_aae02 (Nat.le_of_ble_eq_true rfl) (s_J0_isLatin1_aae02_0 ⟨rfl, rfl⟩)) ?_)
  rintro _ z0 ⟨rfl, ez⟩
  rw [ez]
  clear ez z0
  refine ⟨fun q => absurd q (by decide), fun _ => ?_⟩
  refine byI (d' := 2) (by omega) (Q := fun x μ' => x = txAt t i ∧ μ' = μ) ?_ ?_
  · refine CTi_of mp_J1_charAt_3b067 (Nat.le_of_ble_eq_true rfl) ?_
    refine s_J1_charAt_3b067_0 (byV (d' := 1) (by omega) (Q := fun μ' => μ' = μ) ?_ ?_)
    · refine CTv_of mp_J0_checkIndex_df160 (Nat.le_of_ble_eq_true rfl) ?_
      refine s_J0_checkIndex_df160_0 (byI (d' := 0) (by omega) (Q := fun _ μ' => μ' = μ) ?_ (fun _ _ z => z))
      refine CTi_of mp_J3_checkIndex_8e157 (Nat.le_of_ble_eq_true rfl) ?_
      exact s_J3_checkIndex_8e157_0 ⟨fun z => by omega, fun _ => ⟨fun _ => rfl, fun z => by omega⟩⟩
    · rintro z0 ez
      rw [ez]
      rw [hc]
      exact ⟨⟨by omega, hi⟩, by omega, rfl, rfl⟩
  · rintro x z0 ⟨rfl, ez⟩
    rw [ez]
    exact ⟨by omega, k⟩
theorem sign_at : ∀ r : Nat, r < 12 → signK (txAt 1 r) = 30 + r ∧ 0 ≤ txAt 1 r ∧ txAt 1 r < 128 := by decide +kernel
theorem sign_none {c : Int} (h : ∀ r : Nat, r < 12 → txAt 1 r ≠ c) : signK c = 53 := by
  have e : txAt 1 0 = 59 ∧ txAt 1 1 = 58 ∧ txAt 1 2 = 43 ∧ txAt 1 3 = 45 ∧ txAt 1 4 = 42 ∧ txAt 1 5 = 40 ∧ txAt 1 6 = 41 ∧ txAt 1 7 = 91 ∧ txAt 1 8 = 93 ∧ txAt 1 9 = 61 ∧ txAt 1 10 = 60 ∧ txAt 1 11 = 62 := by decide +kernel
  have h0 := h 0 (by decide); have h1 := h 1 (by decide); have h2 := h 2 (by decide); have h3 := h 3 (by decide)
  have h4 := h 4 (by decide); have h5 := h 5 (by decide); have h6 := h 6 (by decide); have h7 := h 7 (by decide)
  have h8 := h 8 (by decide); have h9 := h 9 (by decide); have h10 := h 10 (by decide); have h11 := h 11 (by decide)
  obtain ⟨e0, e1, e2, e3, e4, e5, e6, e7, e8, e9, e10, e11⟩ := e
  have c0 : c ≠ 59 := fun q => h0 (by rw [q]; exact e0)
  have c1 : c ≠ 58 := fun q => h1 (by rw [q]; exact e1)
  have c2 : c ≠ 43 := fun q => h2 (by rw [q]; exact e2)
  have c3 : c ≠ 45 := fun q => h3 (by rw [q]; exact e3)
  have c4 : c ≠ 42 := fun q => h4 (by rw [q]; exact e4)
  have c5 : c ≠ 40 := fun q => h5 (by rw [q]; exact e5)
  have c6 : c ≠ 41 := fun q => h6 (by rw [q]; exact e6)
  have c7 : c ≠ 91 := fun q => h7 (by rw [q]; exact e7)
  have c8 : c ≠ 93 := fun q => h8 (by rw [q]; exact e8)
  have c9 : c ≠ 61 := fun q => h9 (by rw [q]; exact e9)
  have c10 : c ≠ 60 := fun q => h10 (by rw [q]; exact e10)
  have c11 : c ≠ 62 := fun q => h11 (by rw [q]; exact e11)
  unfold signK
  rw [if_neg c0, if_neg c1, if_neg c2, if_neg c3, if_neg c4, if_neg c5, if_neg c6, if_neg c7, if_neg c8, if_neg c9, if_neg c10, if_neg c11]
theorem ca_signOf {d : Nat} {sc : SC} {μ : Mem} {c : Int} {R : Int → Mem → Prop} (hd : 5 ≤ d) (hc : 0 ≤ c ∧ c < 128) (k : ∀ r, (0 ≤ r ∧ r < 12 ∧ 30 + r = signK c) ∨ (r = -1 ∧ signK c = 53) → R r μ) : CAi mJ0_indexOf_0f7a4 d sc [(3, 1), (0, toC c)] μ R := by
  have htb := toC255 c.toNat (by omega)
  rw [show ((c.toNat : Nat) : Int) = c by omega] at htb
  rw [htb.2.1]
  have hl : txLen 1 = 12 := by decide +kernel
  refine byI (d' := 4) (by omega) (Q := R) ?_ (fun _ _ z => z)
  refine CTi_of mp_J0_indexOf_0f7a4 (Nat.le_of_ble_eq_true rfl) ?_
  refine s_J0_indexOf_0f7a4_0 (byI (d' := 3) (by omega) (Q := R) ?_ (fun _ _ z => z))
  refine CTi_of mp_J0_indexOf_7cf53 (Nat.le_of_ble_eq_true rfl) ?_
  refine s_J0_indexOf_7cf53_0 (byI (d' := 2) (by omega) (Q := fun x μ' => x = 1 ∧ μ' = μ) (CTi_of mp_J0_isLatin1_aae02 (Nat.le_of_ble_eq_true rfl) (s_J0_isLatin1_aae02_0 ⟨rfl, rfl⟩)) ?_)
  rintro _ z0 ⟨rfl, ez⟩
  rw [ez]
  clear ez z0
  refine ⟨fun q => absurd q (by decide), fun _ => ?_⟩
  refine byI (d' := 2) (by omega) (Q := fun x μ' => x = 12 ∧ μ' = μ) ?_ ?_
  · refine CTi_of mp_J0_length_8abf5 (Nat.le_of_ble_eq_true rfl) ?_
    refine s_J0_length_8abf5_0 (byI (d' := 1) (by omega) (Q := fun x μ' => x = 0 ∧ μ' = μ) (CTi_of mp_J0_coder_7d493 (Nat.le_of_ble_eq_true rfl) (s_J0_coder_7d493_0 ⟨rfl, rfl⟩)) ?_)
    rintro _ z0 ⟨rfl, ez⟩
    exact ⟨by rw [hl]; decide +kernel, ez⟩
  rintro _ z0 ⟨rfl, ez⟩
  rw [ez]
  clear ez z0
  refine byI (d' := 2) (by omega) (Q := R) ?_ (fun _ _ z => z)
  refine CTi_of mp_J1_indexOf_4cfef (Nat.le_of_ble_eq_true rfl) ?_
  refine s_J1_indexOf_4cfef_0 (by omega) (byI (d' := 1) (by omega) (Q := fun x μ' => x = 1 ∧ μ' = μ) (CTi_of mp_J1_canEncode_9a6ad (Nat.le_of_ble_eq_true rfl) (s_J1_canEncode_9a6ad_0 ⟨fun z => by omega, fun _ => ⟨fun z => by omega, fun _ => ⟨rfl, rfl⟩⟩⟩)) ?_)
  rintro _ z0 ⟨rfl, ez⟩
  rw [ez]
  clear ez z0
  refine ⟨fun _ => ?_, fun q => absurd q (by decide)⟩
  intro v4 h4 v5 h5
  rw [hl] at h5
  have e4 : v4 = 0 := h4
  have e5 : v5 = 12 := h5
  rw [e4, e5]
  refine ⟨fun _ => ?_, fun z => absurd z (by decide)⟩
  refine byI (d' := 1) (by omega) (Q := R) ?_ (fun _ _ z => z)
  refine CTi_of mp_J1_indexOfChar_4cfef (Nat.le_of_ble_eq_true rfl) ?_
  refine s_J1_indexOfChar_4cfef_0 ?_
  intro v1 h1
  rw [htb.2.2] at h1
  rw [h1]
  have key : ∀ (r i : Nat), i + r = 12 → (∀ j : Nat, j < i → txAt 1 j ≠ c) → WQ mJ1_indexOfChar_4cfef 1 sc (ZI sc R) 7 [(5, 1), (9, 0), (9, 0), (0, 12), (0, c), (0, (i : Int))] [] μ := by
    intro r
    induction r with
    | zero =>
      intro i hi hn
      refine s_J1_indexOfChar_4cfef_7 ⟨fun _ => k _ (Or.inr ⟨rfl, sign_none (fun q hq => hn q (by omega))⟩), fun z => by omega⟩
    | succ r ih =>
      intro i hi hn
      refine s_J1_indexOfChar_4cfef_7 ⟨fun z => by omega, fun _ => ⟨by rw [hl]; omega, fun z => ⟨by omega, ?_⟩, fun z => k _ (Or.inl ⟨by omega, by omega, ?_⟩)⟩⟩
      · rintro _ rfl
        refine ih (i + 1) (by omega) (fun j hj => ?_)
        by_cases e : j = i
        · rw [e]; exact z
        · exact hn j (by omega)
      · rw [← z]; exact (sign_at i (by omega)).1.symm
  exact key 12 0 rfl (fun j hj => by omega)
/-! words -/
theorem word_tx : ∀ i : Nat, i < 192 → txAt 0 i = wCh (i / 8) (i % 8) := by decide +kernel
theorem word_len : ∀ w : Nat, w < 24 → wLen w < 8 ∧ ∀ t : Nat, t < 8 → (wCh w t = 32 ↔ wLen w ≤ t) := by decide +kernel
theorem word_lo : ∀ w : Nat, w < 24 → ∀ t : Nat, t < 8 → 0 ≤ wCh w t ∧ wCh w t < 128 := by decide +kernel
theorem matN_at {b : Int → Int} {i w : Nat} : ∀ {n : Nat}, matN b i w n = true ↔ ∀ t : Nat, t < n → b ((i + t : Nat) : Int) = wCh w t := by
  intro n
  induction n with
  | zero => exact ⟨fun _ t ht => by omega, fun _ => rfl⟩
  | succ n ih =>
    rw [matN, Bool.and_eq_true, ih, decide_eq_true_eq]
    refine ⟨fun ⟨h1, h2⟩ t ht => ?_, fun h => ⟨fun t ht => h t (by omega), h n (by omega)⟩⟩
    by_cases e : t = n
    · rw [e]; exact h2
    · exact h1 t (by omega)
theorem matchW_iff {b : Int → Int} {i j w : Nat} : matchW b i j w = true ↔ j = i + wLen w ∧ ∀ t : Nat, t < wLen w → b ((i + t : Nat) : Int) = wCh w t := by unfold matchW; rw [Bool.and_eq_true, decide_eq_true_eq, matN_at]
/-- the text as the reader has it -/
def TB (μ : Mem) (b : Int → Int) (n : Nat) : Prop := μ 28 2 = 1 ∧ n ≤ 900 ∧ ∀ i : Int, 0 ≤ i → i < n → BY (μ 1 i) (b i) ∧ 0 ≤ b i ∧ b i ≤ 255
theorem BY.lo {x v c : Int} (h : BY x v) (hv : 0 ≤ v ∧ v ≤ 255) (hc : 0 ≤ c ∧ c < 128) : x = c ↔ v = c := by
  obtain ⟨h1, h2⟩ := h
  omega
theorem BY.let {x v : Int} (h : BY x v) (hv : 0 ≤ v ∧ v ≤ 255) : (97 ≤ x ∧ x ≤ 122) ↔ isLetB v = true := by
  obtain ⟨h1, h2⟩ := h
  unfold isLetB
  rw [decide_eq_true_eq]
  omega
theorem BY.dig {x v : Int} (h : BY x v) (hv : 0 ≤ v ∧ v ≤ 255) : (48 ≤ x ∧ x ≤ 57) ↔ isDigB v = true := by
  obtain ⟨h1, h2⟩ := h
  unfold isDigB
  rw [decide_eq_true_eq]
  omega
theorem TB.same {μ μ' : Mem} {b : Int → Int} {n : Nat} (h : TB μ b n) (h2 : μ' 28 2 = μ 28 2) (h1 : ∀ j, μ' 1 j = μ 1 j) : TB μ' b n := ⟨by rw [h2]; exact h.1, h.2.1, fun i i0 i1 => by rw [h1]; exact h.2.2 i i0 i1⟩
theorem ca_isLetter {d : Nat} {sc : SC} {μ : Mem} {c : Int} {R : Int → Mem → Prop} (hd : 1 ≤ d) (k0 : ¬ (97 ≤ c ∧ c ≤ 122) → R 0 μ) (k1 : 97 ≤ c ∧ c ≤ 122 → R 1 μ) : CAi mX7_isLetter d sc [(0, c)] μ R := by
  refine byI (d' := 0) (by omega) (Q := R) ?_ (fun _ _ z => z)
  refine CTi_of mp_X7_isLetter (Nat.le_of_ble_eq_true rfl) ?_
  exact s_X7_isLetter_0 ⟨fun z => k0 (by omega), fun z => ⟨fun z2 => k0 (by omega), fun z2 => k1 ⟨z, by omega⟩⟩⟩
theorem ca_isDigit {d : Nat} {sc : SC} {μ : Mem} {c : Int} {R : Int → Mem → Prop} (hd : 1 ≤ d) (k0 : ¬ (48 ≤ c ∧ c ≤ 57) → R 0 μ) (k1 : 48 ≤ c ∧ c ≤ 57 → R 1 μ) : CAi mX7_isDigit d sc [(0, c)] μ R := by
  refine byI (d' := 0) (by omega) (Q := R) ?_ (fun _ _ z => z)
  refine CTi_of mp_X7_isDigit (Nat.le_of_ble_eq_true rfl) ?_
  exact s_X7_isDigit_0 ⟨fun z => k0 (by omega), fun z => ⟨fun z2 => k0 (by omega), fun z2 => k1 ⟨z, by omega⟩⟩⟩
theorem fstF_long {b : Int → Int} {i j : Nat} (h : i + 8 ≤ j) : ∀ (r w : Nat), w + r = 24 → fstF (matchW b i j) r w = 51 := by
  intro r
  induction r with
  | zero => intro w hw; rfl
  | succ r ih =>
    intro w hw
    rw [fstF, if_neg, ih (w + 1) (by omega)]
    rw [matchW_iff]
    intro q
    have := (word_len w (by omega)).1
    omega
theorem ct_wordKind {d : Nat} {sc : SC} {μ : Mem} {b : Int → Int} {n i j : Nat} (hd : 4 ≤ d) (hT : TB μ b n) (hij : i < j ∧ j ≤ n) (hl : ∀ k : Nat, i ≤ k → k < j → isLetB (b k) = true) : CTi mX7_wordKind d sc [(2, 28), (0, (i : Int)), (0, (j : Int))] μ (fun x μ' => x = wordK b i j ∧ μ' = μ) := by
  have hn := hT.2.1
  have hlen0 : txLen 0 = 192 := by decide +kernel
  refine CTi_of mp_X7_wordKind (Nat.le_of_ble_eq_true rfl) ?_
  refine s_X7_wordKind_0 ?_
  have key : ∀ (r w : Nat), w + r = 24 → wordK b i j = fstF (matchW b i j) r w → WQ mX7_wordKind d sc (ZI sc (fun x μ' => x = wordK b i j ∧ μ' = μ)) 2 [(2, 28), (0, (i : Int)), (0, (j : Int)), (0, (w : Int)), (9, 0)] [] μ := by
    intro r
    induction r with
    | zero =>
      intro w hw he
      refine s_X7_wordKind_2 ⟨fun _ => ⟨he.symm, rfl⟩, fun z => by omega⟩
    | succ r ih =>
      intro w hw he
      refine s_X7_wordKind_2 ⟨fun z => by omega, fun _ => ⟨by omega, fun z => ⟨by rw [he, fstF_long (by omega) (r + 1) w hw], rfl⟩, fun z => ?_⟩⟩
      obtain ⟨wl1, wl2⟩ := word_len w (by omega)
      have wlo := word_lo w (by omega)
      have no : matchW b i j w = false → WQ mX7_wordKind d sc (ZI sc (fun x μ' => x = wordK b i j ∧ μ' = μ)) 2 [(2, 28), (0, (i : Int)), (0, (j : Int)), (0, (w : Int) + 1), (9, 0)] [] μ := fun e => by
        refine ih (w + 1) (by omega) ?_
        rw [he, fstF, e, if_neg (by decide)]
      have yes : matchW b i j w = true → (w : Int) = wordK b i j := fun e => by rw [he, fstF, if_pos e]
      have inner : ∀ (r2 s : Nat), i + s + r2 = j → (∀ t : Nat, t < s → b ((i + t : Nat) : Int) = wCh w t) → WQ mX7_wordKind d sc (ZI sc (fun x μ' => x = wordK b i j ∧ μ' = μ)) 19 [(2, 28), (0, (i : Int)), (0, (j : Int)), (0, (w : Int)), (0, (s : Int))] [] μ := by
        intro r2
        induction r2 with
        | zero =>
          intro s hs hm
          have hwc : txAt 0 ((w : Int) * 8 + s) = wCh w s := by
            have := word_tx (w * 8 + s) (by omega)
            rw [show (w * 8 + s) / 8 = w by omega, show (w * 8 + s) % 8 = s by omega, Int.natCast_add, Int.natCast_mul] at this
            exact this
          refine s_X7_wordKind_19 ⟨by omega, fun _ => ⟨by omega, fun q => by omega, fun _ => ⟨by omega, by omega, ?_⟩⟩, fun q => by omega⟩
          have hca := ca_charAt (d := d) (sc := sc) (μ := μ) (t := 0) (i := w * 8 + s) (R := fun r9 μ10 => (r9 ≠ 32 → (-2147483648 ≤ (w : Int) + 1 ∧ (w : Int) + 1 < 2147483648) ∧ ∀ v13 : Int, v13 = (w : Int) + 1 → WQ mX7_wordKind d sc (ZI sc (fun x μ' => x = wordK b i j ∧ μ' = μ)) 2 [(2, 28), (0, (i : Int)), (0, (j : Int)), (0, v13), (9, 0)] [] μ10) ∧ (r9 = 32 → ((w : Int) = wordK b i j ∧ μ10 = μ))) hd (by decide) (by rw [show ((0 : Nat) : Int) = 0 from rfl, hlen0]; omega)
          rw [Int.natCast_add, Int.natCast_mul] at hca
          refine hca ?_
          show (txAt 0 ((w : Int) * 8 + s) ≠ 32 → _) ∧ (txAt 0 ((w : Int) * 8 + s) = 32 → _)
          rw [hwc]
          refine ⟨fun q => ⟨by omega, ?_⟩, fun q => ⟨yes ?_, rfl⟩⟩
          · rintro _ rfl
            refine no (Bool.eq_false_iff.mpr (fun e => ?_))
            have e := matchW_iff.mp e
            exact q ((wl2 s (by omega)).mpr (by omega))
          · refine matchW_iff.mpr ?_
            have h1 := (wl2 s (by omega)).mp q
            have h2 : wLen w = s := by
              by_cases q2 : wLen w = s
              · exact q2
              · have h3 := (wl2 (wLen w) wl1).mpr (Nat.le_refl _)
                have h4 := hm (wLen w) (by omega)
                rw [h3] at h4
                have h5 := hl (i + wLen w) (by omega) (by omega)
                rw [h4] at h5
                exact absurd h5 (by decide)
            exact ⟨by omega, fun t ht => hm t (by omega)⟩
        | succ r2 ih2 =>
          intro s hs hm
          have hwc : txAt 0 ((w : Int) * 8 + s) = wCh w s := by
            have := word_tx (w * 8 + s) (by omega)
            rw [show (w * 8 + s) / 8 = w by omega, show (w * 8 + s) % 8 = s by omega, Int.natCast_add, Int.natCast_mul] at this
            exact this
          have hb := hT.2.2 ((i : Int) + s) (by omega) (by omega)
          refine s_X7_wordKind_19 ⟨by omega, fun q => by omega, fun _ => ⟨by omega, ?_, by omega, by omega, by omega, ?_⟩⟩
          · rw [hT.1]; exact kf_9_0 k_0
          have hca := fun R => ca_charAt (d := d) (sc := sc) (μ := μ) (t := 0) (i := w * 8 + s) (R := R) hd (by decide) (by rw [show ((0 : Nat) : Int) = 0 from rfl, hlen0]; omega)
          rw [Int.natCast_add, Int.natCast_mul] at hca
          refine hca _ ?_
          rw [show txAt ((0 : Nat) : Int) ((w : Int) * ((8 : Nat) : Int) + (s : Int)) = wCh w s from hwc, hT.1]
          refine ⟨fun q => ⟨by omega, fun _ => ⟨by omega, ?_⟩, fun q2 => by omega⟩, fun q => ⟨by omega, ?_⟩⟩
          · rintro _ rfl
            refine no (Bool.eq_false_iff.mpr (fun e => ?_))
            have e := matchW_iff.mp e
            have h5 := e.2 s (by omega)
            rw [Int.natCast_add] at h5
            exact q ((hb.1.lo hb.2 (wlo s (by omega))).mpr h5)
          · rintro _ rfl
            refine ih2 (s + 1) (by omega) (fun t ht => ?_)
            by_cases e : t = s
            · rw [e, Int.natCast_add]; exact (hb.1.lo hb.2 (wlo s (by omega))).mp q
            · exact hm t (by omega)
      exact inner (j - i) 0 (by omega) (fun t ht => by omega)
  exact key 24 0 rfl rfl

/-! THE LAW'S LOOP -/
theorem law_loop {sc : SC} {Z : ZT} (hn : (sc.1 : Int) ≤ 3072) (hsc : ∀ j, i32 (sc.2 j)) (kend : ∀ L μ, WL sc Z 1486 L [] μ) : ∀ (r : Nat) (i : Int) (A : StT) (μ : Mem), (sc.1 : Int) + 6 ≤ i + 6 * r → 0 ≤ i → i ≤ 3078 → RB μ A → WL sc Z 18 [(4, 0), (2, 0), (2, 183), (0, i)] [] μ := by
  intro r
  induction r with
  | zero =>
    intro i A μ hr hi0 hi1 h
    refine WP_iload_n dL_law_18 rfl rfl ?_
    refine WP_aload_n dL_law_19 rfl rfl ⟨Nat.le_of_ble_eq_true rfl, Nat.le_of_ble_eq_true rfl⟩ ?_
    refine WP_slen dL_law_20 (by show sc.1 < 2147483648; omega) ?_
    refine WP_bipush dL_law_21 (by decide +kernel) (by decide) ?_
    refine WP_isub dL_law_23 ⟨by show _ ≤ (sc.1 : Int) - 6; omega, by show (sc.1 : Int) - 6 < _; omega⟩ ?_
    exact WP_icmp_gt (tgt := 1486) dL_law_24 (by decide) (fun _ => kend _ _) (fun q => absurd (show (sc.1 : Int) - 6 < i by omega) q)
  | succ r ih =>
    intro i A μ hr hi0 hi1 h
    refine WP_iload_n dL_law_18 rfl rfl ?_
    refine WP_aload_n dL_law_19 rfl rfl ⟨Nat.le_of_ble_eq_true rfl, Nat.le_of_ble_eq_true rfl⟩ ?_
    refine WP_slen dL_law_20 (by show sc.1 < 2147483648; omega) ?_
    refine WP_bipush dL_law_21 (by decide +kernel) (by decide) ?_
    refine WP_isub dL_law_23 ⟨by show _ ≤ (sc.1 : Int) - 6; omega, by show (sc.1 : Int) - 6 < _; omega⟩ ?_
    refine WP_icmp_gt (tgt := 1486) dL_law_24 (by decide) (fun _ => kend _ _) (fun q => ?_)
    have q' : ¬ ((sc.1 : Int) - 6 < i) := q
    have hin : 0 ≤ i ∧ i + 6 ≤ (sc.1 : Int) ∧ (sc.1 : Int) ≤ 3072 := ⟨hi0, by omega, hn⟩
    have nx : ∀ A' μ', RB μ' A' → WL sc Z 1480 [(4, 0), (2, 0), (2, 183), (0, i)] [] μ' := fun A' μ' h' => by
      refine WP_iinc (L' := [(4, 0), (2, 0), (2, 183), (0, i + 6)]) dL_law_1480 rfl (by decide) ⟨by omega, by omega⟩ rfl ?_
      refine WP_goto (tgt := 18) dL_law_1483 (by decide) ?_
      exact ih (i + 6) A' μ' (by omega) (by omega) (by omega) h'
    refine WP_aload_n dL_law_27 rfl rfl ⟨Nat.le_of_ble_eq_true rfl, Nat.le_of_ble_eq_true rfl⟩ ?_
    refine WP_iload_n dL_law_28 rfl rfl ?_
    refine WP_sld dL_law_29 ⟨hi0, by show i < (sc.1 : Int); omega⟩ ?_
    refine WP_bipush dL_law_30 (by decide +kernel) (by decide) ?_
    refine WP_iand dL_law_32 ?_
    have eT : (TT sc).2.2.2 i = sc.2 i := rfl
    rw [eT]
    generalize iAnd (sc.2 i) 63 = x
    rcases (show (x < 0 ∨ 39 < x) ∨ x = 0 ∨ x = 1 ∨ x = 2 ∨ x = 3 ∨ x = 4 ∨ x = 5 ∨ x = 6 ∨ x = 7 ∨ x = 8 ∨ x = 9 ∨ x = 10 ∨ x = 11 ∨ x = 12 ∨ x = 13 ∨ x = 14 ∨ x = 15 ∨ x = 16 ∨ x = 17 ∨ x = 18 ∨ x = 19 ∨ x = 20 ∨ x = 21 ∨ x = 22 ∨ x = 23 ∨ x = 24 ∨ x = 25 ∨ x = 26 ∨ x = 27 ∨ x = 28 ∨ x = 29 ∨ x = 30 ∨ x = 31 ∨ x = 32 ∨ x = 33 ∨ x = 34 ∨ x = 35 ∨ x = 36 ∨ x = 37 ∨ x = 38 ∨ x = 39 by omega) with c | c | c | c | c | c | c | c | c | c | c | c | c | c | c | c | c | c | c | c | c | c | c | c | c | c | c | c | c | c | c | c | c | c | c | c | c | c | c | c | c
    · exact WP_tableOut (tgt := 1480) dL_law_33 c (by decide) (nx A μ h)
    · exact WP_tableIn (tgt := 208) dL_law_33 (by omega) (by omega) (by rw [c]; rfl) (by decide) (lc_0 hin hsc h nx)
    · exact WP_tableIn (tgt := 271) dL_law_33 (by omega) (by omega) (by rw [c]; rfl) (by decide) (lc_1 hin hsc h nx)
    · exact WP_tableIn (tgt := 294) dL_law_33 (by omega) (by omega) (by rw [c]; rfl) (by decide) (lc_2 hin hsc h nx)
    · exact WP_tableIn (tgt := 317) dL_law_33 (by omega) (by omega) (by rw [c]; rfl) (by decide) (lc_3 hin hsc h nx)
    · exact WP_tableIn (tgt := 350) dL_law_33 (by omega) (by omega) (by rw [c]; rfl) (by decide) (lc_4 hin hsc h nx)
    · exact WP_tableIn (tgt := 383) dL_law_33 (by omega) (by omega) (by rw [c]; rfl) (by decide) (lc_5 hin hsc h nx)
    · exact WP_tableIn (tgt := 426) dL_law_33 (by omega) (by omega) (by rw [c]; rfl) (by decide) (lc_6 hin hsc h nx)
    · exact WP_tableIn (tgt := 469) dL_law_33 (by omega) (by omega) (by rw [c]; rfl) (by decide) (lc_7 hin hsc h nx)
    · exact WP_tableIn (tgt := 492) dL_law_33 (by omega) (by omega) (by rw [c]; rfl) (by decide) (lc_8 hin hsc h nx)
    · exact WP_tableIn (tgt := 525) dL_law_33 (by omega) (by omega) (by rw [c]; rfl) (by decide) (lc_9 hin hsc h nx)
    · exact WP_tableIn (tgt := 548) dL_law_33 (by omega) (by omega) (by rw [c]; rfl) (by decide) (lc_10 hin hsc h nx)
    · exact WP_tableIn (tgt := 571) dL_law_33 (by omega) (by omega) (by rw [c]; rfl) (by decide) (lc_11 hin hsc h nx)
    · exact WP_tableIn (tgt := 604) dL_law_33 (by omega) (by omega) (by rw [c]; rfl) (by decide) (lc_12 hin hsc h nx)
    · exact WP_tableIn (tgt := 627) dL_law_33 (by omega) (by omega) (by rw [c]; rfl) (by decide) (lc_13 hin hsc h nx)
    · exact WP_tableIn (tgt := 660) dL_law_33 (by omega) (by omega) (by rw [c]; rfl) (by decide) (lc_14 hin hsc h nx)
    · exact WP_tableIn (tgt := 683) dL_law_33 (by omega) (by omega) (by rw [c]; rfl) (by decide) (lc_15 hin hsc h nx)
    · exact WP_tableIn (tgt := 716) dL_law_33 (by omega) (by omega) (by rw [c]; rfl) (by decide) (lc_16 hin hsc h nx)
    · exact WP_tableIn (tgt := 749) dL_law_33 (by omega) (by omega) (by rw [c]; rfl) (by decide) (lc_17 hin hsc h nx)
    · exact WP_tableIn (tgt := 772) dL_law_33 (by omega) (by omega) (by rw [c]; rfl) (by decide) (lc_18 hin hsc h nx)
    · exact WP_tableIn (tgt := 785) dL_law_33 (by omega) (by omega) (by rw [c]; rfl) (by decide) (lc_19 hin hsc h nx)
    · exact WP_tableIn (tgt := 808) dL_law_33 (by omega) (by omega) (by rw [c]; rfl) (by decide) (lc_20 hin hsc h nx)
    · exact WP_tableIn (tgt := 821) dL_law_33 (by omega) (by omega) (by rw [c]; rfl) (by decide) (lc_21 hin hsc h nx)
    · exact WP_tableIn (tgt := 864) dL_law_33 (by omega) (by omega) (by rw [c]; rfl) (by decide) (lc_22 hin hsc h nx)
    · exact WP_tableIn (tgt := 897) dL_law_33 (by omega) (by omega) (by rw [c]; rfl) (by decide) (lc_23 hin hsc h nx)
    · exact WP_tableIn (tgt := 940) dL_law_33 (by omega) (by omega) (by rw [c]; rfl) (by decide) (lc_24 hin hsc h nx)
    · exact WP_tableIn (tgt := 973) dL_law_33 (by omega) (by omega) (by rw [c]; rfl) (by decide) (lc_25 hin hsc h nx)
    · exact WP_tableIn (tgt := 1006) dL_law_33 (by omega) (by omega) (by rw [c]; rfl) (by decide) (lc_26 hin hsc h nx)
    · exact WP_tableIn (tgt := 1039) dL_law_33 (by omega) (by omega) (by rw [c]; rfl) (by decide) (lc_27 hin hsc h nx)
    · exact WP_tableIn (tgt := 1072) dL_law_33 (by omega) (by omega) (by rw [c]; rfl) (by decide) (lc_28 hin hsc h nx)
    · exact WP_tableIn (tgt := 1115) dL_law_33 (by omega) (by omega) (by rw [c]; rfl) (by decide) (lc_29 hin hsc h nx)
    · exact WP_tableIn (tgt := 1148) dL_law_33 (by omega) (by omega) (by rw [c]; rfl) (by decide) (lc_30 hin hsc h nx)
    · exact WP_tableIn (tgt := 1181) dL_law_33 (by omega) (by omega) (by rw [c]; rfl) (by decide) (lc_31 hin hsc h nx)
    · exact WP_tableIn (tgt := 1214) dL_law_33 (by omega) (by omega) (by rw [c]; rfl) (by decide) (lc_32 hin hsc h nx)
    · exact WP_tableIn (tgt := 1248) dL_law_33 (by omega) (by omega) (by rw [c]; rfl) (by decide) (lc_33 hin hsc h nx)
    · exact WP_tableIn (tgt := 1261) dL_law_33 (by omega) (by omega) (by rw [c]; rfl) (by decide) (lc_34 hin hsc h nx)
    · exact WP_tableIn (tgt := 1304) dL_law_33 (by omega) (by omega) (by rw [c]; rfl) (by decide) (lc_35 hin hsc h nx)
    · exact WP_tableIn (tgt := 1378) dL_law_33 (by omega) (by omega) (by rw [c]; rfl) (by decide) (lc_36 hin hsc h nx)
    · exact WP_tableIn (tgt := 1411) dL_law_33 (by omega) (by omega) (by rw [c]; rfl) (by decide) (lc_37 hin hsc h nx)
    · exact WP_tableIn (tgt := 1434) dL_law_33 (by omega) (by omega) (by rw [c]; rfl) (by decide) (lc_38 hin hsc h nx)
    · exact WP_tableIn (tgt := 1457) dL_law_33 (by omega) (by omega) (by rw [c]; rfl) (by decide) (lc_39 hin hsc h nx)

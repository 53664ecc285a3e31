/-! segments, printed by program -/
theorem s_X10_lists_0 {d : Nat} {sc : SC} {Q : Int → Mem → Prop} {μ : Mem} {a1 a2 : Int}
    (h : ∀ μ1, μ1 = mup μ 183 0 0 → CAi mX10_within d sc [(1, a1), (1, 0), (1, 3)] μ1 (fun r2 μ3 => (r2 = 0 → Q (-2) μ3) ∧ (r2 ≠ 0 → CAi mX10_isPerson d sc [(2, 183), (1, a2)] μ3 (fun r5 μ6 => (r5 ≠ 0 → CAi mX10_noTray d sc [(2, 183), (0, a1)] μ6 (fun r8 μ9 => (r8 = 0 → CAv mX10_laysDay d sc [(2, 183)] μ9 (fun μ12 => CAi mX10_hiccupsOf d sc [(2, 183), (0, a2)] μ12 (fun r13 μ14 => (0 ≤ a1 ∧ a1 < 4) ∧ (μ14 210 a1 ≤ r13 → (0 ≤ a1 ∧ a1 < 4) ∧ (∀ v18 : Int, v18 = μ14 210 a1 → WQ mX10_lists d sc (ZI sc Q) 79 [(2, 183), (0, a1), (0, a2), (9, 0), (9, 0), (0, v18), (0, 0)] [] μ14)) ∧ (r13 < μ14 210 a1 → WQ mX10_lists d sc (ZI sc Q) 79 [(2, 183), (0, a1), (0, a2), (9, 0), (9, 0), (0, r13), (0, 0)] [] μ14)))) ∧ (r8 ≠ 0 → Q r8 μ9))) ∧ (r5 = 0 → Q (-2) μ6))))) :
    WQ mX10_lists d sc (ZI sc Q) 0 [(2, 183), (0, a1), (0, a2), (9, 0), (9, 0), (9, 0), (9, 0)] [] μ := by
  refine WP_aload_n dX10_lists_0 rfl rfl ⟨Nat.le_of_ble_eq_true rfl, Nat.le_of_ble_eq_true rfl⟩ ?_
  refine WP_iconst dX10_lists_1 (by decide) ?_
  refine WQ_put (ci := 10) (j := 0) (n := 49) dX10_lists_2 f_X10_1 k_183 rfl (fun μ1 eμ1 => ?_)
  replace h := h μ1 eμ1
  refine WP_iload_n dX10_lists_5 rfl rfl ?_
  refine WP_i2l dX10_lists_6 ?_
  refine WP_lconst dX10_lists_7 rfl ?_
  refine WP_ldc2 dX10_lists_8 c_X10_370 (by decide) ?_
  refine WQ_invSi (as := [(1, a1), (1, 0), (1, 3)]) dX10_lists_11 l_X10_170 mw_X10_within mt_X10_within mo_X10_within (Nat.le_of_ble_eq_true rfl) h rfl (fun r2 μ3 h => ?_)
  refine WQ_ifeq (tgt := 26) dX10_lists_14 (by decide) (fun c4 => ?_) (fun c4 => ?_)
  · replace h := h.1 c4
    refine WP_bipush dX10_lists_26 (by decide +kernel) (by decide) ?_
    exact WQ_ireturn dX10_lists_28 rfl h
  · replace h := h.2 c4
    refine WP_aload_n dX10_lists_17 rfl rfl ⟨Nat.le_of_ble_eq_true rfl, Nat.le_of_ble_eq_true rfl⟩ ?_
    refine WP_iload_n dX10_lists_18 rfl rfl ?_
    refine WP_i2l dX10_lists_19 ?_
    refine WQ_invVi (v := (2, 183)) (as := [(1, a2)]) dX10_lists_20 l_X10_235 mw_X10_isPerson mi_X10_isPerson ms_X10_isPerson mo_X10_isPerson (rcv (ci := 10) (n := 49) (r := (RX10, TX10, 49)) k_183 rfl rfl) (Nat.le_of_ble_eq_true rfl) h rfl (fun r5 μ6 h => ?_)
    refine WQ_ifne (tgt := 29) dX10_lists_23 (by decide) (fun c7 => ?_) (fun c7 => ?_)
    · replace h := h.1 c7
      refine WP_aload_n dX10_lists_29 rfl rfl ⟨Nat.le_of_ble_eq_true rfl, Nat.le_of_ble_eq_true rfl⟩ ?_
      refine WP_iload_n dX10_lists_30 rfl rfl ?_
      refine WQ_invVi (v := (2, 183)) (as := [(0, a1)]) dX10_lists_31 l_X10_372 mw_X10_noTray mi_X10_noTray ms_X10_noTray mo_X10_noTray (rcv (ci := 10) (n := 49) (r := (RX10, TX10, 49)) k_183 rfl rfl) (Nat.le_of_ble_eq_true rfl) h rfl (fun r8 μ9 h => ?_)
      refine WP_istore_n (L' := [(2, 183), (0, a1), (0, a2), (0, r8), (9, 0), (9, 0), (9, 0)]) dX10_lists_34 rfl (by decide) rfl ?_
      refine WP_iload_n dX10_lists_35 rfl rfl ?_
      refine WQ_ifeq (tgt := 41) dX10_lists_36 (by decide) (fun c10 => ?_) (fun c10 => ?_)
      · replace h := h.1 c10
        refine WP_aload_n dX10_lists_41 rfl rfl ⟨Nat.le_of_ble_eq_true rfl, Nat.le_of_ble_eq_true rfl⟩ ?_
        refine WQ_invVv (v := (2, 183)) (as := []) dX10_lists_42 l_X10_308 mw_X10_laysDay mi_X10_laysDay ms_X10_laysDay mo_X10_laysDay (rcv (ci := 10) (n := 49) (r := (RX10, TX10, 49)) k_183 rfl rfl) (Nat.le_of_ble_eq_true rfl) h rfl (fun μ12 h => ?_)
        refine WP_aload_n dX10_lists_45 rfl rfl ⟨Nat.le_of_ble_eq_true rfl, Nat.le_of_ble_eq_true rfl⟩ ?_
        refine WP_iload_n dX10_lists_46 rfl rfl ?_
        refine WQ_invVi (v := (2, 183)) (as := [(0, a2)]) dX10_lists_47 l_X10_396 mw_X10_hiccupsOf mi_X10_hiccupsOf ms_X10_hiccupsOf mo_X10_hiccupsOf (rcv (ci := 10) (n := 49) (r := (RX10, TX10, 49)) k_183 rfl rfl) (Nat.le_of_ble_eq_true rfl) h rfl (fun r13 μ14 h => ?_)
        refine WP_istore (L' := [(2, 183), (0, a1), (0, a2), (0, r8), (0, r13), (9, 0), (9, 0)]) dX10_lists_50 (by decide) rfl ?_
        refine WP_iload dX10_lists_52 rfl ?_
        refine WP_aload_n dX10_lists_54 rfl rfl ⟨Nat.le_of_ble_eq_true rfl, Nat.le_of_ble_eq_true rfl⟩ ?_
        refine WP_getfield (ci := 10) (j := 47) (n := 49) (t := 2) (x := 210) dX10_lists_55 f_X10_98 k_183 rfl rfl ?_
        refine WP_iload_n dX10_lists_58 rfl rfl ?_
        obtain ⟨g15, h⟩ := h
        refine WP_iaload (n := 4) dX10_lists_59 k_210 g15 ?_
        refine WQ_icmp_ge (tgt := 68) dX10_lists_60 (by decide) (fun c16 => ?_) (fun c16 => ?_)
        · replace h := h.1 c16
          refine WP_aload_n dX10_lists_68 rfl rfl ⟨Nat.le_of_ble_eq_true rfl, Nat.le_of_ble_eq_true rfl⟩ ?_
          refine WP_getfield (ci := 10) (j := 47) (n := 49) (t := 2) (x := 210) dX10_lists_69 f_X10_98 k_183 rfl rfl ?_
          refine WP_iload_n dX10_lists_72 rfl rfl ?_
          obtain ⟨g17, h⟩ := h
          refine WP_iaload (n := 4) dX10_lists_73 k_210 g17 ?_
          refine WQ_nm0 (fun v18 e18 => ?_)
          replace h := h v18 e18
          refine WP_istore (L' := [(2, 183), (0, a1), (0, a2), (0, r8), (0, r13), (0, v18), (9, 0)]) dX10_lists_74 (by decide) rfl ?_
          refine WP_iconst dX10_lists_76 (by decide) ?_
          refine WP_istore (L' := [(2, 183), (0, a1), (0, a2), (0, r8), (0, r13), (0, v18), (0, 0)]) dX10_lists_77 (by decide) rfl ?_
          refine WP_lforget (L' := [(2, 183), (0, a1), (0, a2), (9, 0), (9, 0), (0, v18), (0, 0)]) rfl (fun i hi => ?_) h
          match i, hi with
          | 0, _ => exact Or.inl rfl
          | 1, _ => exact Or.inl rfl
          | 2, _ => exact Or.inl rfl
          | 3, _ => exact Or.inr rfl
          | 4, _ => exact Or.inr rfl
          | 5, _ => exact Or.inl rfl
          | 6, _ => exact Or.inl rfl
          | i + 7, hi => exact absurd hi (by simp only [List.length_cons, List.length_nil]; omega)
        · replace h := h.2 c16
          refine WP_iload dX10_lists_63 rfl ?_
          refine WP_goto (tgt := 74) dX10_lists_65 (by decide) ?_
          refine WP_istore (L' := [(2, 183), (0, a1), (0, a2), (0, r8), (0, r13), (0, r13), (9, 0)]) dX10_lists_74 (by decide) rfl ?_
          refine WP_iconst dX10_lists_76 (by decide) ?_
          refine WP_istore (L' := [(2, 183), (0, a1), (0, a2), (0, r8), (0, r13), (0, r13), (0, 0)]) dX10_lists_77 (by decide) rfl ?_
          refine WP_lforget (L' := [(2, 183), (0, a1), (0, a2), (9, 0), (9, 0), (0, r13), (0, 0)]) rfl (fun i hi => ?_) h
          match i, hi with
          | 0, _ => exact Or.inl rfl
          | 1, _ => exact Or.inl rfl
          | 2, _ => exact Or.inl rfl
          | 3, _ => exact Or.inr rfl
          | 4, _ => exact Or.inr rfl
          | 5, _ => exact Or.inl rfl
          | 6, _ => exact Or.inl rfl
          | i + 7, hi => exact absurd hi (by simp only [List.length_cons, List.length_nil]; omega)
      · replace h := h.2 c10
        refine WP_iload_n dX10_lists_39 rfl rfl ?_
        exact WQ_ireturn dX10_lists_40 rfl h
    · replace h := h.2 c7
      refine WP_bipush dX10_lists_26 (by decide +kernel) (by decide) ?_
      exact WQ_ireturn dX10_lists_28 rfl h

theorem s_X10_lists_79 {d : Nat} {sc : SC} {Q : Int → Mem → Prop} {μ : Mem} {x1 x2 x5 x6 : Int}
    (h : (x5 ≤ x6 → Q x5 μ) ∧ (x6 < x5 → (-2147483648 ≤ 40 * x1 ∧ 40 * x1 < 2147483648) ∧ (-2147483648 ≤ (40 * x1) + x6 ∧ (40 * x1) + x6 < 2147483648) ∧ CAi mX10_minuteAt d sc [(2, 183), (0, x2), (0, x6)] μ (fun r4 μ5 => (0 ≤ (40 * x1) + x6 ∧ (40 * x1) + x6 < 160) ∧ (∀ μ7, μ7 = mup μ5 211 ((40 * x1) + x6) r4 → (-2147483648 ≤ x6 + 1 ∧ x6 + 1 < 2147483648) ∧ ∀ v9 : Int, v9 = x6 + 1 → WQ mX10_lists d sc (ZI sc Q) 79 [(2, 183), (0, x1), (0, x2), (9, 0), (9, 0), (0, x5), (0, v9)] [] μ7)))) :
    WQ mX10_lists d sc (ZI sc Q) 79 [(2, 183), (0, x1), (0, x2), (9, 0), (9, 0), (0, x5), (0, x6)] [] μ := by
  refine WP_iload dX10_lists_79 rfl ?_
  refine WP_iload dX10_lists_81 rfl ?_
  refine WQ_icmp_ge (tgt := 112) dX10_lists_83 (by decide) (fun c1 => ?_) (fun c1 => ?_)
  · replace h := h.1 c1
    refine WP_iload dX10_lists_112 rfl ?_
    exact WQ_ireturn dX10_lists_114 rfl h
  · replace h := h.2 c1
    refine WP_aload_n dX10_lists_86 rfl rfl ⟨Nat.le_of_ble_eq_true rfl, Nat.le_of_ble_eq_true rfl⟩ ?_
    refine WP_getfield (ci := 10) (j := 48) (n := 49) (t := 2) (x := 211) dX10_lists_87 f_X10_101 k_183 rfl rfl ?_
    refine WP_bipush dX10_lists_90 (by decide +kernel) (by decide) ?_
    refine WP_iload_n dX10_lists_92 rfl rfl ?_
    obtain ⟨g2, h⟩ := h
    refine WP_imul dX10_lists_93 g2 ?_
    refine WP_iload dX10_lists_94 rfl ?_
    obtain ⟨g3, h⟩ := h
    refine WP_iadd dX10_lists_96 g3 ?_
    refine WP_aload_n dX10_lists_97 rfl rfl ⟨Nat.le_of_ble_eq_true rfl, Nat.le_of_ble_eq_true rfl⟩ ?_
    refine WP_iload_n dX10_lists_98 rfl rfl ?_
    refine WP_iload dX10_lists_99 rfl ?_
    refine WQ_invVi (v := (2, 183)) (as := [(0, x2), (0, x6)]) dX10_lists_101 l_X10_399 mw_X10_minuteAt mi_X10_minuteAt ms_X10_minuteAt mo_X10_minuteAt (rcv (ci := 10) (n := 49) (r := (RX10, TX10, 49)) k_183 rfl rfl) (Nat.le_of_ble_eq_true rfl) h rfl (fun r4 μ5 h => ?_)
    refine WP_i2l dX10_lists_104 ?_
    obtain ⟨g6, h⟩ := h
    refine WQ_last (n := 160) dX10_lists_105 k_211 g6 (fun μ7 eμ7 => ?_)
    replace h := h μ7 eμ7
    obtain ⟨g8, h⟩ := h
    refine WQ_iinc dX10_lists_106 rfl (by decide) g8 (fun v9 e9 => ?_)
    refine WP_same (L' := [(2, 183), (0, x1), (0, x2), (9, 0), (9, 0), (0, x5), (0, v9)]) rfl ?_
    replace h := h v9 e9
    refine WP_goto (tgt := 79) dX10_lists_109 (by decide) ?_
    exact h

theorem s_X10_mean_0 {d : Nat} {sc : SC} {Q : Int → Mem → Prop} {μ : Mem} {a1 a2 : Int}
    (h : ∀ μ1, μ1 = mup μ 183 0 0 → CAi mX10_isPerson d sc [(2, 183), (1, a1)] μ1 (fun r2 μ3 => (r2 = 0 → Q (-2) μ3) ∧ (r2 ≠ 0 → CAi mX10_within d sc [(1, a2), (1, 0), (1, 1)] μ3 (fun r5 μ6 => (r5 ≠ 0 → CAv mX10_laysChances d sc [(2, 183)] μ6 (fun μ9 => (0 ≤ a1 ∧ a1 < 6) ∧ CAl mX10_wholeOf d sc [(0, μ9 184 31)] μ9 (fun r12 μ13 => CAl mX10_part d sc [(1, μ9 208 a1), (1, r12), (0, a2)] μ13 (fun r14 μ15 => Q r14 μ15)))) ∧ (r5 = 0 → Q (-2) μ6))))) :
    WQ mX10_mean d sc (ZL sc Q) 0 [(2, 183), (0, a1), (0, a2)] [] μ := by
  refine WP_aload_n dX10_mean_0 rfl rfl ⟨Nat.le_of_ble_eq_true rfl, Nat.le_of_ble_eq_true rfl⟩ ?_
  refine WP_iconst dX10_mean_1 (by decide) ?_
  refine WQ_put (ci := 10) (j := 0) (n := 49) dX10_mean_2 f_X10_1 k_183 rfl (fun μ1 eμ1 => ?_)
  replace h := h μ1 eμ1
  refine WP_aload_n dX10_mean_5 rfl rfl ⟨Nat.le_of_ble_eq_true rfl, Nat.le_of_ble_eq_true rfl⟩ ?_
  refine WP_iload_n dX10_mean_6 rfl rfl ?_
  refine WP_i2l dX10_mean_7 ?_
  refine WQ_invVi (v := (2, 183)) (as := [(1, a1)]) dX10_mean_8 l_X10_235 mw_X10_isPerson mi_X10_isPerson ms_X10_isPerson mo_X10_isPerson (rcv (ci := 10) (n := 49) (r := (RX10, TX10, 49)) k_183 rfl rfl) (Nat.le_of_ble_eq_true rfl) h rfl (fun r2 μ3 h => ?_)
  refine WQ_ifeq (tgt := 24) dX10_mean_11 (by decide) (fun c4 => ?_) (fun c4 => ?_)
  · replace h := h.1 c4
    refine WP_ldc2 dX10_mean_24 c_X10_473 (by decide) ?_
    exact WQ_lreturn dX10_mean_27 rfl h
  · replace h := h.2 c4
    refine WP_iload_n dX10_mean_14 rfl rfl ?_
    refine WP_i2l dX10_mean_15 ?_
    refine WP_lconst dX10_mean_16 rfl ?_
    refine WP_lconst dX10_mean_17 rfl ?_
    refine WQ_invSi (as := [(1, a2), (1, 0), (1, 1)]) dX10_mean_18 l_X10_170 mw_X10_within mt_X10_within mo_X10_within (Nat.le_of_ble_eq_true rfl) h rfl (fun r5 μ6 h => ?_)
    refine WQ_ifne (tgt := 28) dX10_mean_21 (by decide) (fun c7 => ?_) (fun c7 => ?_)
    · replace h := h.1 c7
      refine WP_aload_n dX10_mean_28 rfl rfl ⟨Nat.le_of_ble_eq_true rfl, Nat.le_of_ble_eq_true rfl⟩ ?_
      refine WQ_invVv (v := (2, 183)) (as := []) dX10_mean_29 l_X10_462 mw_X10_laysChances mi_X10_laysChances ms_X10_laysChances mo_X10_laysChances (rcv (ci := 10) (n := 49) (r := (RX10, TX10, 49)) k_183 rfl rfl) (Nat.le_of_ble_eq_true rfl) h rfl (fun μ9 h => ?_)
      refine WP_aload_n dX10_mean_32 rfl rfl ⟨Nat.le_of_ble_eq_true rfl, Nat.le_of_ble_eq_true rfl⟩ ?_
      refine WP_getfield (ci := 10) (j := 45) (n := 49) (t := 2) (x := 208) dX10_mean_33 f_X10_92 k_183 rfl rfl ?_
      refine WP_iload_n dX10_mean_36 rfl rfl ?_
      obtain ⟨g10, h⟩ := h
      refine WP_laload (n := 6) dX10_mean_37 k_208 g10 ?_
      refine WP_aload_n dX10_mean_38 rfl rfl ⟨Nat.le_of_ble_eq_true rfl, Nat.le_of_ble_eq_true rfl⟩ ?_
      refine WP_getfield (ci := 10) (j := 1) (n := 49) (t := 2) (x := 184) dX10_mean_39 f_X10_13 k_183 rfl rfl ?_
      refine WP_bipush dX10_mean_42 (by decide +kernel) (by decide) ?_
      refine WP_iaload (n := 4119) dX10_mean_44 k_184 ⟨by decide, by decide⟩ ?_
      refine WQ_invSl (as := [(0, μ9 184 31)]) dX10_mean_45 l_X10_465 mw_X10_wholeOf mt_X10_wholeOf mo_X10_wholeOf (Nat.le_of_ble_eq_true rfl) h rfl (fun r12 μ13 h => ?_)
      refine WP_iload_n dX10_mean_48 rfl rfl ?_
      refine WQ_invSl (as := [(1, μ9 208 a1), (1, r12), (0, a2)]) dX10_mean_49 l_X10_469 mw_X10_part mt_X10_part mo_X10_part (Nat.le_of_ble_eq_true rfl) h rfl (fun r14 μ15 h => ?_)
      exact WQ_lreturn dX10_mean_52 rfl h
    · replace h := h.2 c7
      refine WP_ldc2 dX10_mean_24 c_X10_473 (by decide) ?_
      exact WQ_lreturn dX10_mean_27 rfl h

theorem s_X10_minute_0 {d : Nat} {sc : SC} {Q : Int → Mem → Prop} {μ : Mem} {a1 a2 : Int}
    (h : ∀ μ1, μ1 = mup μ 183 0 0 → CAi mX10_isPerson d sc [(2, 183), (1, a1)] μ1 (fun r2 μ3 => (r2 ≠ 0 → (0 ≤ a2 → CAv mX10_laysDay d sc [(2, 183)] μ3 (fun μ7 => CAi mX10_minuteAt d sc [(2, 183), (0, a1), (0, a2)] μ7 (fun r8 μ9 => Q r8 μ9))) ∧ (a2 < 0 → Q (-3) μ3)) ∧ (r2 = 0 → Q (-2) μ3))) :
    WQ mX10_minute d sc (ZI sc Q) 0 [(2, 183), (0, a1), (0, a2)] [] μ := by
  refine WP_aload_n dX10_minute_0 rfl rfl ⟨Nat.le_of_ble_eq_true rfl, Nat.le_of_ble_eq_true rfl⟩ ?_
  refine WP_iconst dX10_minute_1 (by decide) ?_
  refine WQ_put (ci := 10) (j := 0) (n := 49) dX10_minute_2 f_X10_1 k_183 rfl (fun μ1 eμ1 => ?_)
  replace h := h μ1 eμ1
  refine WP_aload_n dX10_minute_5 rfl rfl ⟨Nat.le_of_ble_eq_true rfl, Nat.le_of_ble_eq_true rfl⟩ ?_
  refine WP_iload_n dX10_minute_6 rfl rfl ?_
  refine WP_i2l dX10_minute_7 ?_
  refine WQ_invVi (v := (2, 183)) (as := [(1, a1)]) dX10_minute_8 l_X10_235 mw_X10_isPerson mi_X10_isPerson ms_X10_isPerson mo_X10_isPerson (rcv (ci := 10) (n := 49) (r := (RX10, TX10, 49)) k_183 rfl rfl) (Nat.le_of_ble_eq_true rfl) h rfl (fun r2 μ3 h => ?_)
  refine WQ_ifne (tgt := 17) dX10_minute_11 (by decide) (fun c4 => ?_) (fun c4 => ?_)
  · replace h := h.1 c4
    refine WP_iload_n dX10_minute_17 rfl rfl ?_
    refine WQ_ifge (tgt := 24) dX10_minute_18 (by decide) (fun c5 => ?_) (fun c5 => ?_)
    · replace h := h.1 c5
      refine WP_aload_n dX10_minute_24 rfl rfl ⟨Nat.le_of_ble_eq_true rfl, Nat.le_of_ble_eq_true rfl⟩ ?_
      refine WQ_invVv (v := (2, 183)) (as := []) dX10_minute_25 l_X10_308 mw_X10_laysDay mi_X10_laysDay ms_X10_laysDay mo_X10_laysDay (rcv (ci := 10) (n := 49) (r := (RX10, TX10, 49)) k_183 rfl rfl) (Nat.le_of_ble_eq_true rfl) h rfl (fun μ7 h => ?_)
      refine WP_aload_n dX10_minute_28 rfl rfl ⟨Nat.le_of_ble_eq_true rfl, Nat.le_of_ble_eq_true rfl⟩ ?_
      refine WP_iload_n dX10_minute_29 rfl rfl ?_
      refine WP_iload_n dX10_minute_30 rfl rfl ?_
      refine WQ_invVi (v := (2, 183)) (as := [(0, a1), (0, a2)]) dX10_minute_31 l_X10_399 mw_X10_minuteAt mi_X10_minuteAt ms_X10_minuteAt mo_X10_minuteAt (rcv (ci := 10) (n := 49) (r := (RX10, TX10, 49)) k_183 rfl rfl) (Nat.le_of_ble_eq_true rfl) h rfl (fun r8 μ9 h => ?_)
      exact WQ_ireturn dX10_minute_34 rfl h
    · replace h := h.2 c5
      refine WP_bipush dX10_minute_21 (by decide +kernel) (by decide) ?_
      exact WQ_ireturn dX10_minute_23 rfl h
  · replace h := h.2 c4
    refine WP_bipush dX10_minute_14 (by decide +kernel) (by decide) ?_
    exact WQ_ireturn dX10_minute_16 rfl h

theorem s_X10_minuteAt_0 {d : Nat} {sc : SC} {Q : Int → Mem → Prop} {μ : Mem} {a1 a2 : Int}
    (h : WQ mX10_minuteAt d sc (ZI sc Q) 5 [(2, 183), (0, a1), (0, a2), (0, 0), (0, 0)] [] μ) :
    WQ mX10_minuteAt d sc (ZI sc Q) 0 [(2, 183), (0, a1), (0, a2), (9, 0), (9, 0)] [] μ := by
  refine WP_iconst dX10_minuteAt_0 (by decide) ?_
  refine WP_istore_n (L' := [(2, 183), (0, a1), (0, a2), (0, 0), (9, 0)]) dX10_minuteAt_1 rfl (by decide) rfl ?_
  refine WP_iconst dX10_minuteAt_2 (by decide) ?_
  refine WP_istore (L' := [(2, 183), (0, a1), (0, a2), (0, 0), (0, 0)]) dX10_minuteAt_3 (by decide) rfl ?_
  exact h

theorem s_X10_minuteAt_5 {d : Nat} {sc : SC} {Q : Int → Mem → Prop} {μ : Mem} {x1 x2 x3 x4 : Int}
    (h : (μ 183 36 ≤ x4 → Q (-1) μ) ∧ (x4 < μ 183 36 → (0 ≤ x4 ∧ x4 < 640) ∧ (μ 200 x4 = x1 → (x3 ≠ x2 → (-2147483648 ≤ x3 + 1 ∧ x3 + 1 < 2147483648) ∧ ∀ v6 : Int, v6 = x3 + 1 → (-2147483648 ≤ x4 + 1 ∧ x4 + 1 < 2147483648) ∧ ∀ v8 : Int, v8 = x4 + 1 → WQ mX10_minuteAt d sc (ZI sc Q) 5 [(2, 183), (0, x1), (0, x2), (0, v6), (0, v8)] [] μ) ∧ (x3 = x2 → (0 ≤ x4 ∧ x4 < 640) ∧ Q (μ 201 x4) μ)) ∧ (μ 200 x4 ≠ x1 → (-2147483648 ≤ x4 + 1 ∧ x4 + 1 < 2147483648) ∧ ∀ v11 : Int, v11 = x4 + 1 → WQ mX10_minuteAt d sc (ZI sc Q) 5 [(2, 183), (0, x1), (0, x2), (0, x3), (0, v11)] [] μ))) :
    WQ mX10_minuteAt d sc (ZI sc Q) 5 [(2, 183), (0, x1), (0, x2), (0, x3), (0, x4)] [] μ := by
  refine WP_iload dX10_minuteAt_5 rfl ?_
  refine WP_aload_n dX10_minuteAt_7 rfl rfl ⟨Nat.le_of_ble_eq_true rfl, Nat.le_of_ble_eq_true rfl⟩ ?_
  refine WP_getfield (ci := 10) (j := 36) (n := 49) (t := 0) (x := μ 183 36) dX10_minuteAt_8 f_X10_287 k_183 rfl rfl ?_
  refine WQ_icmp_ge (tgt := 50) dX10_minuteAt_11 (by decide) (fun c1 => ?_) (fun c1 => ?_)
  · replace h := h.1 c1
    refine WP_iconst dX10_minuteAt_50 (by decide) ?_
    exact WQ_ireturn dX10_minuteAt_51 rfl h
  · replace h := h.2 c1
    refine WP_aload_n dX10_minuteAt_14 rfl rfl ⟨Nat.le_of_ble_eq_true rfl, Nat.le_of_ble_eq_true rfl⟩ ?_
    refine WP_getfield (ci := 10) (j := 29) (n := 49) (t := 2) (x := 200) dX10_minuteAt_15 f_X10_67 k_183 rfl rfl ?_
    refine WP_iload dX10_minuteAt_18 rfl ?_
    obtain ⟨g2, h⟩ := h
    refine WP_iaload (n := 640) dX10_minuteAt_20 k_200 g2 ?_
    refine WP_iload_n dX10_minuteAt_21 rfl rfl ?_
    refine WQ_icmp_eq (tgt := 28) dX10_minuteAt_22 (by decide) (fun c3 => ?_) (fun c3 => ?_)
    · replace h := h.1 c3
      refine WP_iload_n dX10_minuteAt_28 rfl rfl ?_
      refine WP_iload_n dX10_minuteAt_29 rfl rfl ?_
      refine WQ_icmp_ne (tgt := 41) dX10_minuteAt_30 (by decide) (fun c4 => ?_) (fun c4 => ?_)
      · replace h := h.1 c4
        obtain ⟨g5, h⟩ := h
        refine WQ_iinc dX10_minuteAt_41 rfl (by decide) g5 (fun v6 e6 => ?_)
        refine WP_same (L' := [(2, 183), (0, x1), (0, x2), (0, v6), (0, x4)]) rfl ?_
        replace h := h v6 e6
        obtain ⟨g7, h⟩ := h
        refine WQ_iinc dX10_minuteAt_44 rfl (by decide) g7 (fun v8 e8 => ?_)
        refine WP_same (L' := [(2, 183), (0, x1), (0, x2), (0, v6), (0, v8)]) rfl ?_
        replace h := h v8 e8
        refine WP_goto (tgt := 5) dX10_minuteAt_47 (by decide) ?_
        exact h
      · replace h := h.2 c4
        refine WP_aload_n dX10_minuteAt_33 rfl rfl ⟨Nat.le_of_ble_eq_true rfl, Nat.le_of_ble_eq_true rfl⟩ ?_
        refine WP_getfield (ci := 10) (j := 30) (n := 49) (t := 2) (x := 201) dX10_minuteAt_34 f_X10_70 k_183 rfl rfl ?_
        refine WP_iload dX10_minuteAt_37 rfl ?_
        obtain ⟨g9, h⟩ := h
        refine WP_iaload (n := 640) dX10_minuteAt_39 k_201 g9 ?_
        exact WQ_ireturn dX10_minuteAt_40 rfl h
    · replace h := h.2 c3
      refine WP_goto (tgt := 44) dX10_minuteAt_25 (by decide) ?_
      obtain ⟨g10, h⟩ := h
      refine WQ_iinc dX10_minuteAt_44 rfl (by decide) g10 (fun v11 e11 => ?_)
      refine WP_same (L' := [(2, 183), (0, x1), (0, x2), (0, x3), (0, v11)]) rfl ?_
      replace h := h v11 e11
      refine WP_goto (tgt := 5) dX10_minuteAt_47 (by decide) ?_
      exact h

theorem s_X10_mostOften_0 {d : Nat} {sc : SC} {Q : Int → Mem → Prop} {μ : Mem} {a1 a2 a3 : Int}
    (h : (-2147483648 ≤ 64 + a2 ∧ 64 + a2 < 2147483648) ∧ (0 ≤ 64 + a2 ∧ 64 + a2 < 4119) ∧ (∀ v3 : Int, v3 = μ 184 (64 + a2) → WQ mX10_mostOften d sc (ZI sc Q) 17 [(2, 183), (0, a1), (0, a2), (0, a3), (0, v3), (0, 0), (0, 0), (9, 0)] [] μ)) :
    WQ mX10_mostOften d sc (ZI sc Q) 0 [(2, 183), (0, a1), (0, a2), (0, a3), (9, 0), (9, 0), (9, 0), (9, 0)] [] μ := by
  refine WP_aload_n dX10_mostOften_0 rfl rfl ⟨Nat.le_of_ble_eq_true rfl, Nat.le_of_ble_eq_true rfl⟩ ?_
  refine WP_getfield (ci := 10) (j := 1) (n := 49) (t := 2) (x := 184) dX10_mostOften_1 f_X10_13 k_183 rfl rfl ?_
  refine WP_bipush dX10_mostOften_4 (by decide +kernel) (by decide) ?_
  refine WP_iload_n dX10_mostOften_6 rfl rfl ?_
  obtain ⟨g1, h⟩ := h
  refine WP_iadd dX10_mostOften_7 g1 ?_
  obtain ⟨g2, h⟩ := h
  refine WP_iaload (n := 4119) dX10_mostOften_8 k_184 g2 ?_
  refine WQ_nm0 (fun v3 e3 => ?_)
  replace h := h v3 e3
  refine WP_istore (L' := [(2, 183), (0, a1), (0, a2), (0, a3), (0, v3), (9, 0), (9, 0), (9, 0)]) dX10_mostOften_9 (by decide) rfl ?_
  refine WP_iconst dX10_mostOften_11 (by decide) ?_
  refine WP_istore (L' := [(2, 183), (0, a1), (0, a2), (0, a3), (0, v3), (0, 0), (9, 0), (9, 0)]) dX10_mostOften_12 (by decide) rfl ?_
  refine WP_iconst dX10_mostOften_14 (by decide) ?_
  refine WP_istore (L' := [(2, 183), (0, a1), (0, a2), (0, a3), (0, v3), (0, 0), (0, 0), (9, 0)]) dX10_mostOften_15 (by decide) rfl ?_
  exact h

theorem s_X10_mostOften_17 {d : Nat} {sc : SC} {Q : Int → Mem → Prop} {μ : Mem} {x1 x2 x3 x4 x5 x6 : Int}
    (h : (20 < x6 → WQ mX10_mostOften d sc (ZI sc Q) 41 [(2, 183), (0, x1), (0, x2), (0, x3), (0, x4), (0, x5), (0, 0), (9, 0)] [] μ) ∧ (x6 ≤ 20 → (0 ≤ x6 ∧ x6 < 21) ∧ (∀ μ3, μ3 = mup μ 206 x6 0 → (-2147483648 ≤ x6 + 1 ∧ x6 + 1 < 2147483648) ∧ ∀ v5 : Int, v5 = x6 + 1 → WQ mX10_mostOften d sc (ZI sc Q) 17 [(2, 183), (0, x1), (0, x2), (0, x3), (0, x4), (0, x5), (0, v5), (9, 0)] [] μ3))) :
    WQ mX10_mostOften d sc (ZI sc Q) 17 [(2, 183), (0, x1), (0, x2), (0, x3), (0, x4), (0, x5), (0, x6), (9, 0)] [] μ := by
  refine WP_iload dX10_mostOften_17 rfl ?_
  refine WP_bipush dX10_mostOften_19 (by decide +kernel) (by decide) ?_
  refine WQ_icmp_gt (tgt := 38) dX10_mostOften_21 (by decide) (fun c1 => ?_) (fun c1 => ?_)
  · replace h := h.1 c1
    refine WP_iconst dX10_mostOften_38 (by decide) ?_
    refine WP_istore (L' := [(2, 183), (0, x1), (0, x2), (0, x3), (0, x4), (0, x5), (0, 0), (9, 0)]) dX10_mostOften_39 (by decide) rfl ?_
    exact h
  · replace h := h.2 c1
    refine WP_aload_n dX10_mostOften_24 rfl rfl ⟨Nat.le_of_ble_eq_true rfl, Nat.le_of_ble_eq_true rfl⟩ ?_
    refine WP_getfield (ci := 10) (j := 43) (n := 49) (t := 2) (x := 206) dX10_mostOften_25 f_X10_85 k_183 rfl rfl ?_
    refine WP_iload dX10_mostOften_28 rfl ?_
    refine WP_iconst dX10_mostOften_30 (by decide) ?_
    obtain ⟨g2, h⟩ := h
    refine WQ_iast (n := 21) dX10_mostOften_31 k_206 g2 (fun μ3 eμ3 => ?_)
    replace h := h μ3 eμ3
    obtain ⟨g4, h⟩ := h
    refine WQ_iinc dX10_mostOften_32 rfl (by decide) g4 (fun v5 e5 => ?_)
    refine WP_same (L' := [(2, 183), (0, x1), (0, x2), (0, x3), (0, x4), (0, x5), (0, v5), (9, 0)]) rfl ?_
    replace h := h v5 e5
    refine WP_goto (tgt := 17) dX10_mostOften_35 (by decide) ?_
    exact h

theorem s_X10_mostOften_41 {d : Nat} {sc : SC} {Q : Int → Mem → Prop} {μ : Mem} {x1 x2 x3 x4 x5 x6 : Int}
    (h : CAi mX10_cellMany d sc [(2, 183)] μ (fun r1 μ2 => (r1 ≤ x6 → (-2147483648 ≤ 64 + x2 ∧ 64 + x2 < 2147483648) ∧ (0 ≤ 64 + x2 ∧ 64 + x2 < 4119) ∧ (∀ μ6, μ6 = mup μ2 184 (64 + x2) x4 → Q x5 μ6)) ∧ (x6 < r1 → (-2147483648 ≤ 64 + x2 ∧ 64 + x2 < 2147483648) ∧ (0 ≤ 64 + x2 ∧ 64 + x2 < 4119) ∧ (∀ μ9, μ9 = mup μ2 184 (64 + x2) x6 → CAi mX10_isHeard d sc [(2, 183), (0, x1), (0, x2)] μ9 (fun r10 μ11 => (r10 ≠ 0 → CAi mX10_gapOf d sc [(2, 183), (0, x2), (0, x3)] μ11 (fun r13 μ14 => (0 ≤ r13 ∧ r13 < 21) ∧ (-2147483648 ≤ (μ14 206 r13) + 1 ∧ (μ14 206 r13) + 1 < 2147483648) ∧ (0 ≤ r13 ∧ r13 < 21) ∧ (∀ μ18, μ18 = mup μ14 206 r13 ((μ14 206 r13) + 1) → (0 ≤ r13 ∧ r13 < 21) ∧ (μ18 206 r13 ≤ x5 → (-2147483648 ≤ x6 + 1 ∧ x6 + 1 < 2147483648) ∧ ∀ v22 : Int, v22 = x6 + 1 → WQ mX10_mostOften d sc (ZI sc Q) 41 [(2, 183), (0, x1), (0, x2), (0, x3), (0, x4), (0, x5), (0, v22), (9, 0)] [] μ18) ∧ (x5 < μ18 206 r13 → (0 ≤ r13 ∧ r13 < 21) ∧ (∀ v24 : Int, v24 = μ18 206 r13 → (-2147483648 ≤ x6 + 1 ∧ x6 + 1 < 2147483648) ∧ ∀ v26 : Int, v26 = x6 + 1 → WQ mX10_mostOften d sc (ZI sc Q) 41 [(2, 183), (0, x1), (0, x2), (0, x3), (0, x4), (0, v24), (0, v26), (9, 0)] [] μ18))))) ∧ (r10 = 0 → (-2147483648 ≤ x6 + 1 ∧ x6 + 1 < 2147483648) ∧ ∀ v28 : Int, v28 = x6 + 1 → WQ mX10_mostOften d sc (ZI sc Q) 41 [(2, 183), (0, x1), (0, x2), (0, x3), (0, x4), (0, x5), (0, v28), (9, 0)] [] μ11)))))) :
    WQ mX10_mostOften d sc (ZI sc Q) 41 [(2, 183), (0, x1), (0, x2), (0, x3), (0, x4), (0, x5), (0, x6), (9, 0)] [] μ := by
  refine WP_iload dX10_mostOften_41 rfl ?_
  refine WP_aload_n dX10_mostOften_43 rfl rfl ⟨Nat.le_of_ble_eq_true rfl, Nat.le_of_ble_eq_true rfl⟩ ?_
  refine WQ_invVi (v := (2, 183)) (as := []) dX10_mostOften_44 l_X10_313 mw_X10_cellMany mi_X10_cellMany ms_X10_cellMany mo_X10_cellMany (rcv (ci := 10) (n := 49) (r := (RX10, TX10, 49)) k_183 rfl rfl) (Nat.le_of_ble_eq_true rfl) h rfl (fun r1 μ2 h => ?_)
  refine WQ_icmp_ge (tgt := 124) dX10_mostOften_47 (by decide) (fun c3 => ?_) (fun c3 => ?_)
  · replace h := h.1 c3
    refine WP_aload_n dX10_mostOften_124 rfl rfl ⟨Nat.le_of_ble_eq_true rfl, Nat.le_of_ble_eq_true rfl⟩ ?_
    refine WP_getfield (ci := 10) (j := 1) (n := 49) (t := 2) (x := 184) dX10_mostOften_125 f_X10_13 k_183 rfl rfl ?_
    refine WP_bipush dX10_mostOften_128 (by decide +kernel) (by decide) ?_
    refine WP_iload_n dX10_mostOften_130 rfl rfl ?_
    obtain ⟨g4, h⟩ := h
    refine WP_iadd dX10_mostOften_131 g4 ?_
    refine WP_iload dX10_mostOften_132 rfl ?_
    obtain ⟨g5, h⟩ := h
    refine WQ_iast (n := 4119) dX10_mostOften_134 k_184 g5 (fun μ6 eμ6 => ?_)
    replace h := h μ6 eμ6
    refine WP_iload dX10_mostOften_135 rfl ?_
    exact WQ_ireturn dX10_mostOften_137 rfl h
  · replace h := h.2 c3
    refine WP_aload_n dX10_mostOften_50 rfl rfl ⟨Nat.le_of_ble_eq_true rfl, Nat.le_of_ble_eq_true rfl⟩ ?_
    refine WP_getfield (ci := 10) (j := 1) (n := 49) (t := 2) (x := 184) dX10_mostOften_51 f_X10_13 k_183 rfl rfl ?_
    refine WP_bipush dX10_mostOften_54 (by decide +kernel) (by decide) ?_
    refine WP_iload_n dX10_mostOften_56 rfl rfl ?_
    obtain ⟨g7, h⟩ := h
    refine WP_iadd dX10_mostOften_57 g7 ?_
    refine WP_iload dX10_mostOften_58 rfl ?_
    obtain ⟨g8, h⟩ := h
    refine WQ_iast (n := 4119) dX10_mostOften_60 k_184 g8 (fun μ9 eμ9 => ?_)
    replace h := h μ9 eμ9
    refine WP_aload_n dX10_mostOften_61 rfl rfl ⟨Nat.le_of_ble_eq_true rfl, Nat.le_of_ble_eq_true rfl⟩ ?_
    refine WP_iload_n dX10_mostOften_62 rfl rfl ?_
    refine WP_iload_n dX10_mostOften_63 rfl rfl ?_
    refine WQ_invVi (v := (2, 183)) (as := [(0, x1), (0, x2)]) dX10_mostOften_64 l_X10_441 mw_X10_isHeard mi_X10_isHeard ms_X10_isHeard mo_X10_isHeard (rcv (ci := 10) (n := 49) (r := (RX10, TX10, 49)) k_183 rfl rfl) (Nat.le_of_ble_eq_true rfl) h rfl (fun r10 μ11 h => ?_)
    refine WQ_ifne (tgt := 73) dX10_mostOften_67 (by decide) (fun c12 => ?_) (fun c12 => ?_)
    · replace h := h.1 c12
      refine WP_aload_n dX10_mostOften_73 rfl rfl ⟨Nat.le_of_ble_eq_true rfl, Nat.le_of_ble_eq_true rfl⟩ ?_
      refine WP_iload_n dX10_mostOften_74 rfl rfl ?_
      refine WP_iload_n dX10_mostOften_75 rfl rfl ?_
      refine WQ_invVi (v := (2, 183)) (as := [(0, x2), (0, x3)]) dX10_mostOften_76 l_X10_263 mw_X10_gapOf mi_X10_gapOf ms_X10_gapOf mo_X10_gapOf (rcv (ci := 10) (n := 49) (r := (RX10, TX10, 49)) k_183 rfl rfl) (Nat.le_of_ble_eq_true rfl) h rfl (fun r13 μ14 h => ?_)
      refine WP_istore (L' := [(2, 183), (0, x1), (0, x2), (0, x3), (0, x4), (0, x5), (0, x6), (0, r13)]) dX10_mostOften_79 (by decide) rfl ?_
      refine WP_aload_n dX10_mostOften_81 rfl rfl ⟨Nat.le_of_ble_eq_true rfl, Nat.le_of_ble_eq_true rfl⟩ ?_
      refine WP_getfield (ci := 10) (j := 43) (n := 49) (t := 2) (x := 206) dX10_mostOften_82 f_X10_85 k_183 rfl rfl ?_
      refine WP_iload dX10_mostOften_85 rfl ?_
      refine WP_dup2 dX10_mostOften_87 (by simp) (by simp) ?_
      obtain ⟨g15, h⟩ := h
      refine WP_iaload (n := 21) dX10_mostOften_88 k_206 g15 ?_
      refine WP_iconst dX10_mostOften_89 (by decide) ?_
      obtain ⟨g16, h⟩ := h
      refine WP_iadd dX10_mostOften_90 g16 ?_
      obtain ⟨g17, h⟩ := h
      refine WQ_iast (n := 21) dX10_mostOften_91 k_206 g17 (fun μ18 eμ18 => ?_)
      replace h := h μ18 eμ18
      refine WP_aload_n dX10_mostOften_92 rfl rfl ⟨Nat.le_of_ble_eq_true rfl, Nat.le_of_ble_eq_true rfl⟩ ?_
      refine WP_getfield (ci := 10) (j := 43) (n := 49) (t := 2) (x := 206) dX10_mostOften_93 f_X10_85 k_183 rfl rfl ?_
      refine WP_iload dX10_mostOften_96 rfl ?_
      obtain ⟨g19, h⟩ := h
      refine WP_iaload (n := 21) dX10_mostOften_98 k_206 g19 ?_
      refine WP_iload dX10_mostOften_99 rfl ?_
      refine WQ_icmp_le (tgt := 114) dX10_mostOften_101 (by decide) (fun c20 => ?_) (fun c20 => ?_)
      · replace h := h.1 c20
        refine WP_iload dX10_mostOften_114 rfl ?_
        refine WP_istore (L' := [(2, 183), (0, x1), (0, x2), (0, x3), (0, x4), (0, x5), (0, x6), (0, r13)]) dX10_mostOften_116 (by decide) rfl ?_
        obtain ⟨g21, h⟩ := h
        refine WQ_iinc dX10_mostOften_118 rfl (by decide) g21 (fun v22 e22 => ?_)
        refine WP_same (L' := [(2, 183), (0, x1), (0, x2), (0, x3), (0, x4), (0, x5), (0, v22), (0, r13)]) rfl ?_
        replace h := h v22 e22
        refine WP_goto (tgt := 41) dX10_mostOften_121 (by decide) ?_
        refine WP_lforget (L' := [(2, 183), (0, x1), (0, x2), (0, x3), (0, x4), (0, x5), (0, v22), (9, 0)]) rfl (fun i hi => ?_) h
        match i, hi with
        | 0, _ => exact Or.inl rfl
        | 1, _ => exact Or.inl rfl
        | 2, _ => exact Or.inl rfl
        | 3, _ => exact Or.inl rfl
        | 4, _ => exact Or.inl rfl
        | 5, _ => exact Or.inl rfl
        | 6, _ => exact Or.inl rfl
        | 7, _ => exact Or.inr rfl
        | i + 8, hi => exact absurd hi (by simp only [List.length_cons, List.length_nil]; omega)
      · replace h := h.2 c20
        refine WP_aload_n dX10_mostOften_104 rfl rfl ⟨Nat.le_of_ble_eq_true rfl, Nat.le_of_ble_eq_true rfl⟩ ?_
        refine WP_getfield (ci := 10) (j := 43) (n := 49) (t := 2) (x := 206) dX10_mostOften_105 f_X10_85 k_183 rfl rfl ?_
        refine WP_iload dX10_mostOften_108 rfl ?_
        obtain ⟨g23, h⟩ := h
        refine WP_iaload (n := 21) dX10_mostOften_110 k_206 g23 ?_
        refine WP_goto (tgt := 116) dX10_mostOften_111 (by decide) ?_
        refine WQ_nm0 (fun v24 e24 => ?_)
        replace h := h v24 e24
        refine WP_istore (L' := [(2, 183), (0, x1), (0, x2), (0, x3), (0, x4), (0, v24), (0, x6), (0, r13)]) dX10_mostOften_116 (by decide) rfl ?_
        obtain ⟨g25, h⟩ := h
        refine WQ_iinc dX10_mostOften_118 rfl (by decide) g25 (fun v26 e26 => ?_)
        refine WP_same (L' := [(2, 183), (0, x1), (0, x2), (0, x3), (0, x4), (0, v24), (0, v26), (0, r13)]) rfl ?_
        replace h := h v26 e26
        refine WP_goto (tgt := 41) dX10_mostOften_121 (by decide) ?_
        refine WP_lforget (L' := [(2, 183), (0, x1), (0, x2), (0, x3), (0, x4), (0, v24), (0, v26), (9, 0)]) rfl (fun i hi => ?_) h
        match i, hi with
        | 0, _ => exact Or.inl rfl
        | 1, _ => exact Or.inl rfl
        | 2, _ => exact Or.inl rfl
        | 3, _ => exact Or.inl rfl
        | 4, _ => exact Or.inl rfl
        | 5, _ => exact Or.inl rfl
        | 6, _ => exact Or.inl rfl
        | 7, _ => exact Or.inr rfl
        | i + 8, hi => exact absurd hi (by simp only [List.length_cons, List.length_nil]; omega)
    · replace h := h.2 c12
      refine WP_goto (tgt := 118) dX10_mostOften_70 (by decide) ?_
      obtain ⟨g27, h⟩ := h
      refine WQ_iinc dX10_mostOften_118 rfl (by decide) g27 (fun v28 e28 => ?_)
      refine WP_same (L' := [(2, 183), (0, x1), (0, x2), (0, x3), (0, x4), (0, x5), (0, v28), (9, 0)]) rfl ?_
      replace h := h v28 e28
      refine WP_goto (tgt := 41) dX10_mostOften_121 (by decide) ?_
      exact h

theorem s_X10_move_0 {d : Nat} {sc : SC} {Q : Int → Mem → Prop} {μ : Mem} {a1 a2 : Int}
    (h : ∀ μ1, μ1 = mup μ 183 0 0 → CAi mX10_isPerson d sc [(2, 183), (1, a1)] μ1 (fun r2 μ3 => (r2 = 0 → Q (-11) μ3) ∧ (r2 ≠ 0 → CAi mX10_isCell d sc [(2, 183), (1, a2)] μ3 (fun r5 μ6 => (r5 ≠ 0 → CAv mX10_stores d sc [(2, 183)] μ6 (fun μ9 => (-2147483648 ≤ 64 + a1 ∧ 64 + a1 < 2147483648) ∧ (0 ≤ 64 + a1 ∧ 64 + a1 < 4119) ∧ (∀ μ12, μ12 = mup μ9 184 (64 + a1) a2 → CAv mX10_notes d sc [(2, 183)] μ12 (fun μ14 => (-2147483648 ≤ 33 + a1 ∧ 33 + a1 < 2147483648) ∧ (0 ≤ 33 + a1 ∧ 33 + a1 < 40) ∧ Q (μ14 205 (33 + a1)) μ14)))) ∧ (r5 = 0 → Q (-11) μ6))))) :
    WQ mX10_move d sc (ZI sc Q) 0 [(2, 183), (0, a1), (0, a2)] [] μ := by
  refine WP_aload_n dX10_move_0 rfl rfl ⟨Nat.le_of_ble_eq_true rfl, Nat.le_of_ble_eq_true rfl⟩ ?_
  refine WP_iconst dX10_move_1 (by decide) ?_
  refine WQ_put (ci := 10) (j := 0) (n := 49) dX10_move_2 f_X10_1 k_183 rfl (fun μ1 eμ1 => ?_)
  replace h := h μ1 eμ1
  refine WP_aload_n dX10_move_5 rfl rfl ⟨Nat.le_of_ble_eq_true rfl, Nat.le_of_ble_eq_true rfl⟩ ?_
  refine WP_iload_n dX10_move_6 rfl rfl ?_
  refine WP_i2l dX10_move_7 ?_
  refine WQ_invVi (v := (2, 183)) (as := [(1, a1)]) dX10_move_8 l_X10_235 mw_X10_isPerson mi_X10_isPerson ms_X10_isPerson mo_X10_isPerson (rcv (ci := 10) (n := 49) (r := (RX10, TX10, 49)) k_183 rfl rfl) (Nat.le_of_ble_eq_true rfl) h rfl (fun r2 μ3 h => ?_)
  refine WQ_ifeq (tgt := 23) dX10_move_11 (by decide) (fun c4 => ?_) (fun c4 => ?_)
  · replace h := h.1 c4
    refine WP_bipush dX10_move_23 (by decide +kernel) (by decide) ?_
    exact WQ_ireturn dX10_move_25 rfl h
  · replace h := h.2 c4
    refine WP_aload_n dX10_move_14 rfl rfl ⟨Nat.le_of_ble_eq_true rfl, Nat.le_of_ble_eq_true rfl⟩ ?_
    refine WP_iload_n dX10_move_15 rfl rfl ?_
    refine WP_i2l dX10_move_16 ?_
    refine WQ_invVi (v := (2, 183)) (as := [(1, a2)]) dX10_move_17 l_X10_335 mw_X10_isCell mi_X10_isCell ms_X10_isCell mo_X10_isCell (rcv (ci := 10) (n := 49) (r := (RX10, TX10, 49)) k_183 rfl rfl) (Nat.le_of_ble_eq_true rfl) h rfl (fun r5 μ6 h => ?_)
    refine WQ_ifne (tgt := 26) dX10_move_20 (by decide) (fun c7 => ?_) (fun c7 => ?_)
    · replace h := h.1 c7
      refine WP_aload_n dX10_move_26 rfl rfl ⟨Nat.le_of_ble_eq_true rfl, Nat.le_of_ble_eq_true rfl⟩ ?_
      refine WQ_invVv (v := (2, 183)) (as := []) dX10_move_27 l_X10_320 mw_X10_stores mi_X10_stores ms_X10_stores mo_X10_stores (rcv (ci := 10) (n := 49) (r := (RX10, TX10, 49)) k_183 rfl rfl) (Nat.le_of_ble_eq_true rfl) h rfl (fun μ9 h => ?_)
      refine WP_aload_n dX10_move_30 rfl rfl ⟨Nat.le_of_ble_eq_true rfl, Nat.le_of_ble_eq_true rfl⟩ ?_
      refine WP_getfield (ci := 10) (j := 1) (n := 49) (t := 2) (x := 184) dX10_move_31 f_X10_13 k_183 rfl rfl ?_
      refine WP_bipush dX10_move_34 (by decide +kernel) (by decide) ?_
      refine WP_iload_n dX10_move_36 rfl rfl ?_
      obtain ⟨g10, h⟩ := h
      refine WP_iadd dX10_move_37 g10 ?_
      refine WP_iload_n dX10_move_38 rfl rfl ?_
      obtain ⟨g11, h⟩ := h
      refine WQ_iast (n := 4119) dX10_move_39 k_184 g11 (fun μ12 eμ12 => ?_)
      replace h := h μ12 eμ12
      refine WP_aload_n dX10_move_40 rfl rfl ⟨Nat.le_of_ble_eq_true rfl, Nat.le_of_ble_eq_true rfl⟩ ?_
      refine WQ_invVv (v := (2, 183)) (as := []) dX10_move_41 l_X10_326 mw_X10_notes mi_X10_notes ms_X10_notes mo_X10_notes (rcv (ci := 10) (n := 49) (r := (RX10, TX10, 49)) k_183 rfl rfl) (Nat.le_of_ble_eq_true rfl) h rfl (fun μ14 h => ?_)
      refine WP_aload_n dX10_move_44 rfl rfl ⟨Nat.le_of_ble_eq_true rfl, Nat.le_of_ble_eq_true rfl⟩ ?_
      refine WP_getfield (ci := 10) (j := 37) (n := 49) (t := 2) (x := 205) dX10_move_45 f_X10_82 k_183 rfl rfl ?_
      refine WP_bipush dX10_move_48 (by decide +kernel) (by decide) ?_
      refine WP_iload_n dX10_move_50 rfl rfl ?_
      obtain ⟨g15, h⟩ := h
      refine WP_iadd dX10_move_51 g15 ?_
      obtain ⟨g16, h⟩ := h
      refine WP_iaload (n := 40) dX10_move_52 k_205 g16 ?_
      exact WQ_ireturn dX10_move_53 rfl h
    · replace h := h.2 c7
      refine WP_bipush dX10_move_23 (by decide +kernel) (by decide) ?_
      exact WQ_ireturn dX10_move_25 rfl h

theorem s_X10_naming_0 {d : Nat} {sc : SC} {Q : Int → Mem → Prop} {μ : Mem} {a1 a2 : Int}
    (h : ∀ μ1, μ1 = mup μ 183 0 0 → (-2147483648 ≤ (μ1 184 31) - 1 ∧ (μ1 184 31) - 1 < 2147483648) ∧ CAi mX10_within d sc [(1, a1), (1, 0), (1, (μ1 184 31) - 1)] μ1 (fun r4 μ5 => (r4 = 0 → Q (-2) μ5) ∧ (r4 ≠ 0 → CAi mX10_within d sc [(1, a2), (1, 0), (1, 4)] μ5 (fun r7 μ8 => (r7 ≠ 0 → (4 ≤ a2 → CAv mX10_laysDay d sc [(2, 183)] μ8 (fun μ12 => (0 ≤ a1 ∧ a1 < 10) ∧ (μ12 204 a1 = 0 → Q 0 μ12) ∧ (μ12 204 a1 ≠ 0 → Q 1 μ12))) ∧ (a2 < 4 → (-2147483648 ≤ 4 * a1 ∧ 4 * a1 < 2147483648) ∧ (-2147483648 ≤ 32 + (4 * a1) ∧ 32 + (4 * a1) < 2147483648) ∧ (-2147483648 ≤ (32 + (4 * a1)) + a2 ∧ (32 + (4 * a1)) + a2 < 2147483648) ∧ (0 ≤ (32 + (4 * a1)) + a2 ∧ (32 + (4 * a1)) + a2 < 4119) ∧ Q (μ8 184 ((32 + (4 * a1)) + a2)) μ8)) ∧ (r7 = 0 → Q (-2) μ8))))) :
    WQ mX10_naming d sc (ZI sc Q) 0 [(2, 183), (0, a1), (0, a2)] [] μ := by
  refine WP_aload_n dX10_naming_0 rfl rfl ⟨Nat.le_of_ble_eq_true rfl, Nat.le_of_ble_eq_true rfl⟩ ?_
  refine WP_iconst dX10_naming_1 (by decide) ?_
  refine WQ_put (ci := 10) (j := 0) (n := 49) dX10_naming_2 f_X10_1 k_183 rfl (fun μ1 eμ1 => ?_)
  replace h := h μ1 eμ1
  refine WP_iload_n dX10_naming_5 rfl rfl ?_
  refine WP_i2l dX10_naming_6 ?_
  refine WP_lconst dX10_naming_7 rfl ?_
  refine WP_aload_n dX10_naming_8 rfl rfl ⟨Nat.le_of_ble_eq_true rfl, Nat.le_of_ble_eq_true rfl⟩ ?_
  refine WP_getfield (ci := 10) (j := 1) (n := 49) (t := 2) (x := 184) dX10_naming_9 f_X10_13 k_183 rfl rfl ?_
  refine WP_bipush dX10_naming_12 (by decide +kernel) (by decide) ?_
  refine WP_iaload (n := 4119) dX10_naming_14 k_184 ⟨by decide, by decide⟩ ?_
  refine WP_iconst dX10_naming_15 (by decide) ?_
  obtain ⟨g3, h⟩ := h
  refine WP_isub dX10_naming_16 g3 ?_
  refine WP_i2l dX10_naming_17 ?_
  refine WQ_invSi (as := [(1, a1), (1, 0), (1, (μ1 184 31) - 1)]) dX10_naming_18 l_X10_170 mw_X10_within mt_X10_within mo_X10_within (Nat.le_of_ble_eq_true rfl) h rfl (fun r4 μ5 h => ?_)
  refine WQ_ifeq (tgt := 36) dX10_naming_21 (by decide) (fun c6 => ?_) (fun c6 => ?_)
  · replace h := h.1 c6
    refine WP_bipush dX10_naming_36 (by decide +kernel) (by decide) ?_
    exact WQ_ireturn dX10_naming_38 rfl h
  · replace h := h.2 c6
    refine WP_iload_n dX10_naming_24 rfl rfl ?_
    refine WP_i2l dX10_naming_25 ?_
    refine WP_lconst dX10_naming_26 rfl ?_
    refine WP_ldc2 dX10_naming_27 c_X10_306 (by decide) ?_
    refine WQ_invSi (as := [(1, a2), (1, 0), (1, 4)]) dX10_naming_30 l_X10_170 mw_X10_within mt_X10_within mo_X10_within (Nat.le_of_ble_eq_true rfl) h rfl (fun r7 μ8 h => ?_)
    refine WQ_ifne (tgt := 39) dX10_naming_33 (by decide) (fun c9 => ?_) (fun c9 => ?_)
    · replace h := h.1 c9
      refine WP_iload_n dX10_naming_39 rfl rfl ?_
      refine WP_iconst dX10_naming_40 (by decide) ?_
      refine WQ_icmp_ge (tgt := 58) dX10_naming_41 (by decide) (fun c10 => ?_) (fun c10 => ?_)
      · replace h := h.1 c10
        refine WP_aload_n dX10_naming_58 rfl rfl ⟨Nat.le_of_ble_eq_true rfl, Nat.le_of_ble_eq_true rfl⟩ ?_
        refine WQ_invVv (v := (2, 183)) (as := []) dX10_naming_59 l_X10_308 mw_X10_laysDay mi_X10_laysDay ms_X10_laysDay mo_X10_laysDay (rcv (ci := 10) (n := 49) (r := (RX10, TX10, 49)) k_183 rfl rfl) (Nat.le_of_ble_eq_true rfl) h rfl (fun μ12 h => ?_)
        refine WP_aload_n dX10_naming_62 rfl rfl ⟨Nat.le_of_ble_eq_true rfl, Nat.le_of_ble_eq_true rfl⟩ ?_
        refine WP_getfield (ci := 10) (j := 33) (n := 49) (t := 2) (x := 204) dX10_naming_63 f_X10_79 k_183 rfl rfl ?_
        refine WP_iload_n dX10_naming_66 rfl rfl ?_
        obtain ⟨g13, h⟩ := h
        refine WP_zaload (n := 10) dX10_naming_67 k_204 g13 ?_
        refine WQ_ifeq (tgt := 75) dX10_naming_68 (by decide) (fun c14 => ?_) (fun c14 => ?_)
        · replace h := h.1 c14
          refine WP_iconst dX10_naming_75 (by decide) ?_
          exact WQ_ireturn dX10_naming_76 rfl h
        · replace h := h.2 c14
          refine WP_iconst dX10_naming_71 (by decide) ?_
          refine WP_goto (tgt := 76) dX10_naming_72 (by decide) ?_
          exact WQ_ireturn dX10_naming_76 rfl h
      · replace h := h.2 c10
        refine WP_aload_n dX10_naming_44 rfl rfl ⟨Nat.le_of_ble_eq_true rfl, Nat.le_of_ble_eq_true rfl⟩ ?_
        refine WP_getfield (ci := 10) (j := 1) (n := 49) (t := 2) (x := 184) dX10_naming_45 f_X10_13 k_183 rfl rfl ?_
        refine WP_bipush dX10_naming_48 (by decide +kernel) (by decide) ?_
        refine WP_iconst dX10_naming_50 (by decide) ?_
        refine WP_iload_n dX10_naming_51 rfl rfl ?_
        obtain ⟨g15, h⟩ := h
        refine WP_imul dX10_naming_52 g15 ?_
        obtain ⟨g16, h⟩ := h
        refine WP_iadd dX10_naming_53 g16 ?_
        refine WP_iload_n dX10_naming_54 rfl rfl ?_
        obtain ⟨g17, h⟩ := h
        refine WP_iadd dX10_naming_55 g17 ?_
        obtain ⟨g18, h⟩ := h
        refine WP_iaload (n := 4119) dX10_naming_56 k_184 g18 ?_
        exact WQ_ireturn dX10_naming_57 rfl h
    · replace h := h.2 c9
      refine WP_bipush dX10_naming_36 (by decide +kernel) (by decide) ?_
      exact WQ_ireturn dX10_naming_38 rfl h

theorem s_X10_next_0 {d : Nat} {sc : SC} {Q : Mem → Prop} {μ : Mem}
    (h : ∀ μ1, μ1 = mup μ 183 6 (μ 183 7) → WQ mX10_next d sc (ZV sc Q) 8 [(2, 183), (9, 0)] [] μ1) :
    WQ mX10_next d sc (ZV sc Q) 0 [(2, 183), (9, 0)] [] μ := by
  refine WP_aload_n dX10_next_0 rfl rfl ⟨Nat.le_of_ble_eq_true rfl, Nat.le_of_ble_eq_true rfl⟩ ?_
  refine WP_aload_n dX10_next_1 rfl rfl ⟨Nat.le_of_ble_eq_true rfl, Nat.le_of_ble_eq_true rfl⟩ ?_
  refine WP_getfield (ci := 10) (j := 7) (n := 49) (t := 0) (x := μ 183 7) dX10_next_2 f_X10_129 k_183 rfl rfl ?_
  refine WQ_put (ci := 10) (j := 6) (n := 49) dX10_next_5 f_X10_126 k_183 rfl (fun μ1 eμ1 => ?_)
  replace h := h μ1 eμ1
  exact h

theorem s_X10_next_8 {d : Nat} {sc : SC} {Q : Mem → Prop} {μ : Mem}
    (h : CAi mX10_see d sc [(2, 183), (0, μ 183 6)] μ (fun r1 μ2 => (r1 = 10 → (-2147483648 ≤ (μ2 183 6) + 1 ∧ (μ2 183 6) + 1 < 2147483648) ∧ (∀ μ5, μ5 = mup μ2 183 6 ((μ2 183 6) + 1) → WQ mX10_next d sc (ZV sc Q) 8 [(2, 183), (9, 0)] [] μ5)) ∧ (r1 ≠ 10 → CAi mX10_see d sc [(2, 183), (0, μ2 183 6)] μ2 (fun r6 μ7 => (r6 ≠ 32 → ∀ μ9, μ9 = mup μ7 183 7 (μ7 183 6) → (μ9 183 6 < μ9 183 8 → CAi mX10_see d sc [(2, 183), (0, μ9 183 6)] μ9 (fun r11 μ12 => CAi mX10_isSmall d sc [(0, r11)] μ12 (fun r13 μ14 => (r13 = 0 → CAi mX10_see d sc [(2, 183), (0, μ14 183 6)] μ14 (fun r16 μ17 => CAi mX10_isDigit d sc [(0, r16)] μ17 (fun r18 μ19 => (r18 = 0 → (-2147483648 ≤ (μ19 183 7) + 1 ∧ (μ19 183 7) + 1 < 2147483648) ∧ (∀ μ22, μ22 = mup μ19 183 7 ((μ19 183 7) + 1) → ∀ μ23, μ23 = mup μ22 183 9 27 → WQ mX10_next d sc (ZV sc Q) 254 [(2, 183), (0, 0)] [] μ23)) ∧ (r18 ≠ 0 → ∀ μ24, μ24 = mup μ19 183 10 0 → WQ mX10_next d sc (ZV sc Q) 146 [(2, 183), (9, 0)] [] μ24)))) ∧ (r13 ≠ 0 → WQ mX10_next d sc (ZV sc Q) 89 [(2, 183), (9, 0)] [] μ14)))) ∧ (μ9 183 8 ≤ μ9 183 6 → ∀ μ25, μ25 = mup μ9 183 9 26 → Q μ25)) ∧ (r6 = 32 → (-2147483648 ≤ (μ7 183 6) + 1 ∧ (μ7 183 6) + 1 < 2147483648) ∧ (∀ μ27, μ27 = mup μ7 183 6 ((μ7 183 6) + 1) → WQ mX10_next d sc (ZV sc Q) 8 [(2, 183), (9, 0)] [] μ27)))))) :
    WQ mX10_next d sc (ZV sc Q) 8 [(2, 183), (9, 0)] [] μ := by
  refine WP_aload_n dX10_next_8 rfl rfl ⟨Nat.le_of_ble_eq_true rfl, Nat.le_of_ble_eq_true rfl⟩ ?_
  refine WP_aload_n dX10_next_9 rfl rfl ⟨Nat.le_of_ble_eq_true rfl, Nat.le_of_ble_eq_true rfl⟩ ?_
  refine WP_getfield (ci := 10) (j := 6) (n := 49) (t := 0) (x := μ 183 6) dX10_next_10 f_X10_126 k_183 rfl rfl ?_
  refine WQ_invVi (v := (2, 183)) (as := [(0, μ 183 6)]) dX10_next_13 l_X10_132 mw_X10_see mi_X10_see ms_X10_see mo_X10_see (rcv (ci := 10) (n := 49) (r := (RX10, TX10, 49)) k_183 rfl rfl) (Nat.le_of_ble_eq_true rfl) h rfl (fun r1 μ2 h => ?_)
  refine WP_bipush dX10_next_16 (by decide +kernel) (by decide) ?_
  refine WQ_icmp_eq (tgt := 34) dX10_next_18 (by decide) (fun c3 => ?_) (fun c3 => ?_)
  · replace h := h.1 c3
    refine WP_aload_n dX10_next_34 rfl rfl ⟨Nat.le_of_ble_eq_true rfl, Nat.le_of_ble_eq_true rfl⟩ ?_
    refine WP_dup dX10_next_35 (by simp) ?_
    refine WP_getfield (ci := 10) (j := 6) (n := 49) (t := 0) (x := μ2 183 6) dX10_next_36 f_X10_126 k_183 rfl rfl ?_
    refine WP_iconst dX10_next_39 (by decide) ?_
    obtain ⟨g4, h⟩ := h
    refine WP_iadd dX10_next_40 g4 ?_
    refine WQ_put (ci := 10) (j := 6) (n := 49) dX10_next_41 f_X10_126 k_183 rfl (fun μ5 eμ5 => ?_)
    replace h := h μ5 eμ5
    refine WP_goto (tgt := 8) dX10_next_44 (by decide) ?_
    exact h
  · replace h := h.2 c3
    refine WP_aload_n dX10_next_21 rfl rfl ⟨Nat.le_of_ble_eq_true rfl, Nat.le_of_ble_eq_true rfl⟩ ?_
    refine WP_aload_n dX10_next_22 rfl rfl ⟨Nat.le_of_ble_eq_true rfl, Nat.le_of_ble_eq_true rfl⟩ ?_
    refine WP_getfield (ci := 10) (j := 6) (n := 49) (t := 0) (x := μ2 183 6) dX10_next_23 f_X10_126 k_183 rfl rfl ?_
    refine WQ_invVi (v := (2, 183)) (as := [(0, μ2 183 6)]) dX10_next_26 l_X10_132 mw_X10_see mi_X10_see ms_X10_see mo_X10_see (rcv (ci := 10) (n := 49) (r := (RX10, TX10, 49)) k_183 rfl rfl) (Nat.le_of_ble_eq_true rfl) h rfl (fun r6 μ7 h => ?_)
    refine WP_bipush dX10_next_29 (by decide +kernel) (by decide) ?_
    refine WQ_icmp_ne (tgt := 47) dX10_next_31 (by decide) (fun c8 => ?_) (fun c8 => ?_)
    · replace h := h.1 c8
      refine WP_aload_n dX10_next_47 rfl rfl ⟨Nat.le_of_ble_eq_true rfl, Nat.le_of_ble_eq_true rfl⟩ ?_
      refine WP_aload_n dX10_next_48 rfl rfl ⟨Nat.le_of_ble_eq_true rfl, Nat.le_of_ble_eq_true rfl⟩ ?_
      refine WP_getfield (ci := 10) (j := 6) (n := 49) (t := 0) (x := μ7 183 6) dX10_next_49 f_X10_126 k_183 rfl rfl ?_
      refine WQ_put (ci := 10) (j := 7) (n := 49) dX10_next_52 f_X10_129 k_183 rfl (fun μ9 eμ9 => ?_)
      replace h := h μ9 eμ9
      refine WP_aload_n dX10_next_55 rfl rfl ⟨Nat.le_of_ble_eq_true rfl, Nat.le_of_ble_eq_true rfl⟩ ?_
      refine WP_getfield (ci := 10) (j := 6) (n := 49) (t := 0) (x := μ9 183 6) dX10_next_56 f_X10_126 k_183 rfl rfl ?_
      refine WP_aload_n dX10_next_59 rfl rfl ⟨Nat.le_of_ble_eq_true rfl, Nat.le_of_ble_eq_true rfl⟩ ?_
      refine WP_getfield (ci := 10) (j := 8) (n := 49) (t := 0) (x := μ9 183 8) dX10_next_60 f_X10_111 k_183 rfl rfl ?_
      refine WQ_icmp_lt (tgt := 75) dX10_next_63 (by decide) (fun c10 => ?_) (fun c10 => ?_)
      · replace h := h.1 c10
        refine WP_aload_n dX10_next_75 rfl rfl ⟨Nat.le_of_ble_eq_true rfl, Nat.le_of_ble_eq_true rfl⟩ ?_
        refine WP_aload_n dX10_next_76 rfl rfl ⟨Nat.le_of_ble_eq_true rfl, Nat.le_of_ble_eq_true rfl⟩ ?_
        refine WP_getfield (ci := 10) (j := 6) (n := 49) (t := 0) (x := μ9 183 6) dX10_next_77 f_X10_126 k_183 rfl rfl ?_
        refine WQ_invVi (v := (2, 183)) (as := [(0, μ9 183 6)]) dX10_next_80 l_X10_132 mw_X10_see mi_X10_see ms_X10_see mo_X10_see (rcv (ci := 10) (n := 49) (r := (RX10, TX10, 49)) k_183 rfl rfl) (Nat.le_of_ble_eq_true rfl) h rfl (fun r11 μ12 h => ?_)
        refine WQ_invSi (as := [(0, r11)]) dX10_next_83 l_X10_139 mw_X10_isSmall mt_X10_isSmall mo_X10_isSmall (Nat.le_of_ble_eq_true rfl) h rfl (fun r13 μ14 h => ?_)
        refine WQ_ifeq (tgt := 127) dX10_next_86 (by decide) (fun c15 => ?_) (fun c15 => ?_)
        · replace h := h.1 c15
          refine WP_aload_n dX10_next_127 rfl rfl ⟨Nat.le_of_ble_eq_true rfl, Nat.le_of_ble_eq_true rfl⟩ ?_
          refine WP_aload_n dX10_next_128 rfl rfl ⟨Nat.le_of_ble_eq_true rfl, Nat.le_of_ble_eq_true rfl⟩ ?_
          refine WP_getfield (ci := 10) (j := 6) (n := 49) (t := 0) (x := μ14 183 6) dX10_next_129 f_X10_126 k_183 rfl rfl ?_
          refine WQ_invVi (v := (2, 183)) (as := [(0, μ14 183 6)]) dX10_next_132 l_X10_132 mw_X10_see mi_X10_see ms_X10_see mo_X10_see (rcv (ci := 10) (n := 49) (r := (RX10, TX10, 49)) k_183 rfl rfl) (Nat.le_of_ble_eq_true rfl) h rfl (fun r16 μ17 h => ?_)
          refine WQ_invSi (as := [(0, r16)]) dX10_next_135 l_X10_146 mw_X10_isDigit mt_X10_isDigit mo_X10_isDigit (Nat.le_of_ble_eq_true rfl) h rfl (fun r18 μ19 h => ?_)
          refine WQ_ifeq (tgt := 236) dX10_next_138 (by decide) (fun c20 => ?_) (fun c20 => ?_)
          · replace h := h.1 c20
            refine WP_aload_n dX10_next_236 rfl rfl ⟨Nat.le_of_ble_eq_true rfl, Nat.le_of_ble_eq_true rfl⟩ ?_
            refine WP_dup dX10_next_237 (by simp) ?_
            refine WP_getfield (ci := 10) (j := 7) (n := 49) (t := 0) (x := μ19 183 7) dX10_next_238 f_X10_129 k_183 rfl rfl ?_
            refine WP_iconst dX10_next_241 (by decide) ?_
            obtain ⟨g21, h⟩ := h
            refine WP_iadd dX10_next_242 g21 ?_
            refine WQ_put (ci := 10) (j := 7) (n := 49) dX10_next_243 f_X10_129 k_183 rfl (fun μ22 eμ22 => ?_)
            replace h := h μ22 eμ22
            refine WP_aload_n dX10_next_246 rfl rfl ⟨Nat.le_of_ble_eq_true rfl, Nat.le_of_ble_eq_true rfl⟩ ?_
            refine WP_bipush dX10_next_247 (by decide +kernel) (by decide) ?_
            refine WQ_put (ci := 10) (j := 9) (n := 49) dX10_next_249 f_X10_136 k_183 rfl (fun μ23 eμ23 => ?_)
            replace h := h μ23 eμ23
            refine WP_iconst dX10_next_252 (by decide) ?_
            refine WP_istore_n (L' := [(2, 183), (0, 0)]) dX10_next_253 rfl (by decide) rfl ?_
            exact h
          · replace h := h.2 c20
            refine WP_aload_n dX10_next_141 rfl rfl ⟨Nat.le_of_ble_eq_true rfl, Nat.le_of_ble_eq_true rfl⟩ ?_
            refine WP_iconst dX10_next_142 (by decide) ?_
            refine WQ_put (ci := 10) (j := 10) (n := 49) dX10_next_143 f_X10_149 k_183 rfl (fun μ24 eμ24 => ?_)
            replace h := h μ24 eμ24
            exact h
        · replace h := h.2 c15
          exact h
      · replace h := h.2 c10
        refine WP_aload_n dX10_next_66 rfl rfl ⟨Nat.le_of_ble_eq_true rfl, Nat.le_of_ble_eq_true rfl⟩ ?_
        refine WP_bipush dX10_next_67 (by decide +kernel) (by decide) ?_
        refine WQ_put (ci := 10) (j := 9) (n := 49) dX10_next_69 f_X10_136 k_183 rfl (fun μ25 eμ25 => ?_)
        replace h := h μ25 eμ25
        refine WP_goto (tgt := 294) dX10_next_72 (by decide) ?_
        exact WQ_return dX10_next_294 rfl h
    · replace h := h.2 c8
      refine WP_aload_n dX10_next_34 rfl rfl ⟨Nat.le_of_ble_eq_true rfl, Nat.le_of_ble_eq_true rfl⟩ ?_
      refine WP_dup dX10_next_35 (by simp) ?_
      refine WP_getfield (ci := 10) (j := 6) (n := 49) (t := 0) (x := μ7 183 6) dX10_next_36 f_X10_126 k_183 rfl rfl ?_
      refine WP_iconst dX10_next_39 (by decide) ?_
      obtain ⟨g26, h⟩ := h
      refine WP_iadd dX10_next_40 g26 ?_
      refine WQ_put (ci := 10) (j := 6) (n := 49) dX10_next_41 f_X10_126 k_183 rfl (fun μ27 eμ27 => ?_)
      replace h := h μ27 eμ27
      refine WP_goto (tgt := 8) dX10_next_44 (by decide) ?_
      exact h

theorem s_X10_next_89 {d : Nat} {sc : SC} {Q : Mem → Prop} {μ : Mem}
    (h : CAi mX10_see d sc [(2, 183), (0, μ 183 7)] μ (fun r1 μ2 => CAi mX10_isSmall d sc [(0, r1)] μ2 (fun r3 μ4 => (r3 = 0 → CAi mX10_keyAt d sc [(2, 183)] μ4 (fun r6 μ7 => ∀ μ8, μ8 = mup μ7 183 9 r6 → Q μ8)) ∧ (r3 ≠ 0 → (-2147483648 ≤ (μ4 183 7) + 1 ∧ (μ4 183 7) + 1 < 2147483648) ∧ (∀ μ10, μ10 = mup μ4 183 7 ((μ4 183 7) + 1) → WQ mX10_next d sc (ZV sc Q) 89 [(2, 183), (9, 0)] [] μ10))))) :
    WQ mX10_next d sc (ZV sc Q) 89 [(2, 183), (9, 0)] [] μ := by
  refine WP_aload_n dX10_next_89 rfl rfl ⟨Nat.le_of_ble_eq_true rfl, Nat.le_of_ble_eq_true rfl⟩ ?_
  refine WP_aload_n dX10_next_90 rfl rfl ⟨Nat.le_of_ble_eq_true rfl, Nat.le_of_ble_eq_true rfl⟩ ?_
  refine WP_getfield (ci := 10) (j := 7) (n := 49) (t := 0) (x := μ 183 7) dX10_next_91 f_X10_129 k_183 rfl rfl ?_
  refine WQ_invVi (v := (2, 183)) (as := [(0, μ 183 7)]) dX10_next_94 l_X10_132 mw_X10_see mi_X10_see ms_X10_see mo_X10_see (rcv (ci := 10) (n := 49) (r := (RX10, TX10, 49)) k_183 rfl rfl) (Nat.le_of_ble_eq_true rfl) h rfl (fun r1 μ2 h => ?_)
  refine WQ_invSi (as := [(0, r1)]) dX10_next_97 l_X10_139 mw_X10_isSmall mt_X10_isSmall mo_X10_isSmall (Nat.le_of_ble_eq_true rfl) h rfl (fun r3 μ4 h => ?_)
  refine WQ_ifeq (tgt := 116) dX10_next_100 (by decide) (fun c5 => ?_) (fun c5 => ?_)
  · replace h := h.1 c5
    refine WP_aload_n dX10_next_116 rfl rfl ⟨Nat.le_of_ble_eq_true rfl, Nat.le_of_ble_eq_true rfl⟩ ?_
    refine WP_aload_n dX10_next_117 rfl rfl ⟨Nat.le_of_ble_eq_true rfl, Nat.le_of_ble_eq_true rfl⟩ ?_
    refine WQ_invVi (v := (2, 183)) (as := []) dX10_next_118 l_X10_143 mw_X10_keyAt mi_X10_keyAt ms_X10_keyAt mo_X10_keyAt (rcv (ci := 10) (n := 49) (r := (RX10, TX10, 49)) k_183 rfl rfl) (Nat.le_of_ble_eq_true rfl) h rfl (fun r6 μ7 h => ?_)
    refine WQ_put (ci := 10) (j := 9) (n := 49) dX10_next_121 f_X10_136 k_183 rfl (fun μ8 eμ8 => ?_)
    replace h := h μ8 eμ8
    refine WP_goto (tgt := 294) dX10_next_124 (by decide) ?_
    exact WQ_return dX10_next_294 rfl h
  · replace h := h.2 c5
    refine WP_aload_n dX10_next_103 rfl rfl ⟨Nat.le_of_ble_eq_true rfl, Nat.le_of_ble_eq_true rfl⟩ ?_
    refine WP_dup dX10_next_104 (by simp) ?_
    refine WP_getfield (ci := 10) (j := 7) (n := 49) (t := 0) (x := μ4 183 7) dX10_next_105 f_X10_129 k_183 rfl rfl ?_
    refine WP_iconst dX10_next_108 (by decide) ?_
    obtain ⟨g9, h⟩ := h
    refine WP_iadd dX10_next_109 g9 ?_
    refine WQ_put (ci := 10) (j := 7) (n := 49) dX10_next_110 f_X10_129 k_183 rfl (fun μ10 eμ10 => ?_)
    replace h := h μ10 eμ10
    refine WP_goto (tgt := 89) dX10_next_113 (by decide) ?_
    exact h

theorem s_X10_next_146 {d : Nat} {sc : SC} {Q : Mem → Prop} {μ : Mem}
    (h : CAi mX10_see d sc [(2, 183), (0, μ 183 7)] μ (fun r1 μ2 => CAi mX10_isDigit d sc [(0, r1)] μ2 (fun r3 μ4 => (r3 = 0 → (-2147483648 ≤ (μ4 183 7) - (μ4 183 6) ∧ (μ4 183 7) - (μ4 183 6) < 2147483648) ∧ ((μ4 183 7) - (μ4 183 6) ≤ 3 → ∀ μ8, μ8 = mup μ4 183 9 25 → Q μ8) ∧ (3 < (μ4 183 7) - (μ4 183 6) → ∀ μ9, μ9 = mup μ4 183 9 27 → Q μ9)) ∧ (r3 ≠ 0 → (-2147483648 ≤ (μ4 183 7) - (μ4 183 6) ∧ (μ4 183 7) - (μ4 183 6) < 2147483648) ∧ (3 ≤ (μ4 183 7) - (μ4 183 6) → (-2147483648 ≤ (μ4 183 7) + 1 ∧ (μ4 183 7) + 1 < 2147483648) ∧ (∀ μ13, μ13 = mup μ4 183 7 ((μ4 183 7) + 1) → WQ mX10_next d sc (ZV sc Q) 146 [(2, 183), (9, 0)] [] μ13)) ∧ ((μ4 183 7) - (μ4 183 6) < 3 → (-2147483648 ≤ 10 * (μ4 183 10) ∧ 10 * (μ4 183 10) < 2147483648) ∧ CAi mX10_see d sc [(2, 183), (0, μ4 183 7)] μ4 (fun r15 μ16 => (-2147483648 ≤ (10 * (μ4 183 10)) + r15 ∧ (10 * (μ4 183 10)) + r15 < 2147483648) ∧ (-2147483648 ≤ ((10 * (μ4 183 10)) + r15) - 48 ∧ ((10 * (μ4 183 10)) + r15) - 48 < 2147483648) ∧ (∀ μ19, μ19 = mup μ16 183 10 (((10 * (μ4 183 10)) + r15) - 48) → (-2147483648 ≤ (μ19 183 7) + 1 ∧ (μ19 183 7) + 1 < 2147483648) ∧ (∀ μ21, μ21 = mup μ19 183 7 ((μ19 183 7) + 1) → WQ mX10_next d sc (ZV sc Q) 146 [(2, 183), (9, 0)] [] μ21)))))))) :
    WQ mX10_next d sc (ZV sc Q) 146 [(2, 183), (9, 0)] [] μ := by
  refine WP_aload_n dX10_next_146 rfl rfl ⟨Nat.le_of_ble_eq_true rfl, Nat.le_of_ble_eq_true rfl⟩ ?_
  refine WP_aload_n dX10_next_147 rfl rfl ⟨Nat.le_of_ble_eq_true rfl, Nat.le_of_ble_eq_true rfl⟩ ?_
  refine WP_getfield (ci := 10) (j := 7) (n := 49) (t := 0) (x := μ 183 7) dX10_next_148 f_X10_129 k_183 rfl rfl ?_
  refine WQ_invVi (v := (2, 183)) (as := [(0, μ 183 7)]) dX10_next_151 l_X10_132 mw_X10_see mi_X10_see ms_X10_see mo_X10_see (rcv (ci := 10) (n := 49) (r := (RX10, TX10, 49)) k_183 rfl rfl) (Nat.le_of_ble_eq_true rfl) h rfl (fun r1 μ2 h => ?_)
  refine WQ_invSi (as := [(0, r1)]) dX10_next_154 l_X10_146 mw_X10_isDigit mt_X10_isDigit mo_X10_isDigit (Nat.le_of_ble_eq_true rfl) h rfl (fun r3 μ4 h => ?_)
  refine WQ_ifeq (tgt := 209) dX10_next_157 (by decide) (fun c5 => ?_) (fun c5 => ?_)
  · replace h := h.1 c5
    refine WP_aload_n dX10_next_209 rfl rfl ⟨Nat.le_of_ble_eq_true rfl, Nat.le_of_ble_eq_true rfl⟩ ?_
    refine WP_aload_n dX10_next_210 rfl rfl ⟨Nat.le_of_ble_eq_true rfl, Nat.le_of_ble_eq_true rfl⟩ ?_
    refine WP_getfield (ci := 10) (j := 7) (n := 49) (t := 0) (x := μ4 183 7) dX10_next_211 f_X10_129 k_183 rfl rfl ?_
    refine WP_aload_n dX10_next_214 rfl rfl ⟨Nat.le_of_ble_eq_true rfl, Nat.le_of_ble_eq_true rfl⟩ ?_
    refine WP_getfield (ci := 10) (j := 6) (n := 49) (t := 0) (x := μ4 183 6) dX10_next_215 f_X10_126 k_183 rfl rfl ?_
    obtain ⟨g6, h⟩ := h
    refine WP_isub dX10_next_218 g6 ?_
    refine WP_iconst dX10_next_219 (by decide) ?_
    refine WQ_icmp_le (tgt := 228) dX10_next_220 (by decide) (fun c7 => ?_) (fun c7 => ?_)
    · replace h := h.1 c7
      refine WP_bipush dX10_next_228 (by decide +kernel) (by decide) ?_
      refine WQ_put (ci := 10) (j := 9) (n := 49) dX10_next_230 f_X10_136 k_183 rfl (fun μ8 eμ8 => ?_)
      replace h := h μ8 eμ8
      refine WP_goto (tgt := 294) dX10_next_233 (by decide) ?_
      exact WQ_return dX10_next_294 rfl h
    · replace h := h.2 c7
      refine WP_bipush dX10_next_223 (by decide +kernel) (by decide) ?_
      refine WP_goto (tgt := 230) dX10_next_225 (by decide) ?_
      refine WQ_put (ci := 10) (j := 9) (n := 49) dX10_next_230 f_X10_136 k_183 rfl (fun μ9 eμ9 => ?_)
      replace h := h μ9 eμ9
      refine WP_goto (tgt := 294) dX10_next_233 (by decide) ?_
      exact WQ_return dX10_next_294 rfl h
  · replace h := h.2 c5
    refine WP_aload_n dX10_next_160 rfl rfl ⟨Nat.le_of_ble_eq_true rfl, Nat.le_of_ble_eq_true rfl⟩ ?_
    refine WP_getfield (ci := 10) (j := 7) (n := 49) (t := 0) (x := μ4 183 7) dX10_next_161 f_X10_129 k_183 rfl rfl ?_
    refine WP_aload_n dX10_next_164 rfl rfl ⟨Nat.le_of_ble_eq_true rfl, Nat.le_of_ble_eq_true rfl⟩ ?_
    refine WP_getfield (ci := 10) (j := 6) (n := 49) (t := 0) (x := μ4 183 6) dX10_next_165 f_X10_126 k_183 rfl rfl ?_
    obtain ⟨g10, h⟩ := h
    refine WP_isub dX10_next_168 g10 ?_
    refine WP_iconst dX10_next_169 (by decide) ?_
    refine WQ_icmp_ge (tgt := 196) dX10_next_170 (by decide) (fun c11 => ?_) (fun c11 => ?_)
    · replace h := h.1 c11
      refine WP_aload_n dX10_next_196 rfl rfl ⟨Nat.le_of_ble_eq_true rfl, Nat.le_of_ble_eq_true rfl⟩ ?_
      refine WP_dup dX10_next_197 (by simp) ?_
      refine WP_getfield (ci := 10) (j := 7) (n := 49) (t := 0) (x := μ4 183 7) dX10_next_198 f_X10_129 k_183 rfl rfl ?_
      refine WP_iconst dX10_next_201 (by decide) ?_
      obtain ⟨g12, h⟩ := h
      refine WP_iadd dX10_next_202 g12 ?_
      refine WQ_put (ci := 10) (j := 7) (n := 49) dX10_next_203 f_X10_129 k_183 rfl (fun μ13 eμ13 => ?_)
      replace h := h μ13 eμ13
      refine WP_goto (tgt := 146) dX10_next_206 (by decide) ?_
      exact h
    · replace h := h.2 c11
      refine WP_aload_n dX10_next_173 rfl rfl ⟨Nat.le_of_ble_eq_true rfl, Nat.le_of_ble_eq_true rfl⟩ ?_
      refine WP_bipush dX10_next_174 (by decide +kernel) (by decide) ?_
      refine WP_aload_n dX10_next_176 rfl rfl ⟨Nat.le_of_ble_eq_true rfl, Nat.le_of_ble_eq_true rfl⟩ ?_
      refine WP_getfield (ci := 10) (j := 10) (n := 49) (t := 0) (x := μ4 183 10) dX10_next_177 f_X10_149 k_183 rfl rfl ?_
      obtain ⟨g14, h⟩ := h
      refine WP_imul dX10_next_180 g14 ?_
      refine WP_aload_n dX10_next_181 rfl rfl ⟨Nat.le_of_ble_eq_true rfl, Nat.le_of_ble_eq_true rfl⟩ ?_
      refine WP_aload_n dX10_next_182 rfl rfl ⟨Nat.le_of_ble_eq_true rfl, Nat.le_of_ble_eq_true rfl⟩ ?_
      refine WP_getfield (ci := 10) (j := 7) (n := 49) (t := 0) (x := μ4 183 7) dX10_next_183 f_X10_129 k_183 rfl rfl ?_
      refine WQ_invVi (v := (2, 183)) (as := [(0, μ4 183 7)]) dX10_next_186 l_X10_132 mw_X10_see mi_X10_see ms_X10_see mo_X10_see (rcv (ci := 10) (n := 49) (r := (RX10, TX10, 49)) k_183 rfl rfl) (Nat.le_of_ble_eq_true rfl) h rfl (fun r15 μ16 h => ?_)
      obtain ⟨g17, h⟩ := h
      refine WP_iadd dX10_next_189 g17 ?_
      refine WP_bipush dX10_next_190 (by decide +kernel) (by decide) ?_
      obtain ⟨g18, h⟩ := h
      refine WP_isub dX10_next_192 g18 ?_
      refine WQ_put (ci := 10) (j := 10) (n := 49) dX10_next_193 f_X10_149 k_183 rfl (fun μ19 eμ19 => ?_)
      replace h := h μ19 eμ19
      refine WP_aload_n dX10_next_196 rfl rfl ⟨Nat.le_of_ble_eq_true rfl, Nat.le_of_ble_eq_true rfl⟩ ?_
      refine WP_dup dX10_next_197 (by simp) ?_
      refine WP_getfield (ci := 10) (j := 7) (n := 49) (t := 0) (x := μ19 183 7) dX10_next_198 f_X10_129 k_183 rfl rfl ?_
      refine WP_iconst dX10_next_201 (by decide) ?_
      obtain ⟨g20, h⟩ := h
      refine WP_iadd dX10_next_202 g20 ?_
      refine WQ_put (ci := 10) (j := 7) (n := 49) dX10_next_203 f_X10_129 k_183 rfl (fun μ21 eμ21 => ?_)
      replace h := h μ21 eμ21
      refine WP_goto (tgt := 146) dX10_next_206 (by decide) ?_
      exact h

theorem s_X10_next_254 {d : Nat} {sc : SC} {Q : Mem → Prop} {μ : Mem} {x1 : Int}
    (h : CAi mJ0_length_8abf5 d sc [(3, 3)] μ (fun r1 μ2 => (r1 ≤ x1 → Q μ2) ∧ (x1 < r1 → CAi mX10_see d sc [(2, 183), (0, μ2 183 6)] μ2 (fun r4 μ5 => CAi mJ0_charAt_5068e d sc [(3, 3), (0, x1)] μ5 (fun r6 μ7 => (r4 ≠ r6 → (-2147483648 ≤ x1 + 1 ∧ x1 + 1 < 2147483648) ∧ ∀ v10 : Int, v10 = x1 + 1 → WQ mX10_next d sc (ZV sc Q) 254 [(2, 183), (0, v10)] [] μ7) ∧ (r4 = r6 → (-2147483648 ≤ 30 + x1 ∧ 30 + x1 < 2147483648) ∧ (∀ μ12, μ12 = mup μ7 183 9 (30 + x1) → (-2147483648 ≤ x1 + 1 ∧ x1 + 1 < 2147483648) ∧ ∀ v14 : Int, v14 = x1 + 1 → WQ mX10_next d sc (ZV sc Q) 254 [(2, 183), (0, v14)] [] μ12))))))) :
    WQ mX10_next d sc (ZV sc Q) 254 [(2, 183), (0, x1)] [] μ := by
  refine WP_iload_n dX10_next_254 rfl rfl ?_
  refine WP_ldcS (i := 3) dX10_next_255 (by decide) rfl rfl ?_
  refine WQ_invVi (v := (3, 3)) (as := []) dX10_next_257 l_X10_116 mw_J0_length_8abf5 mi_J0_length_8abf5 ms_J0_length_8abf5 mo_J0_length_8abf5 (rcv_tx rfl) (Nat.le_of_ble_eq_true rfl) h rfl (fun r1 μ2 h => ?_)
  refine WQ_icmp_ge (tgt := 294) dX10_next_260 (by decide) (fun c3 => ?_) (fun c3 => ?_)
  · replace h := h.1 c3
    exact WQ_return dX10_next_294 rfl h
  · replace h := h.2 c3
    refine WP_aload_n dX10_next_263 rfl rfl ⟨Nat.le_of_ble_eq_true rfl, Nat.le_of_ble_eq_true rfl⟩ ?_
    refine WP_aload_n dX10_next_264 rfl rfl ⟨Nat.le_of_ble_eq_true rfl, Nat.le_of_ble_eq_true rfl⟩ ?_
    refine WP_getfield (ci := 10) (j := 6) (n := 49) (t := 0) (x := μ2 183 6) dX10_next_265 f_X10_126 k_183 rfl rfl ?_
    refine WQ_invVi (v := (2, 183)) (as := [(0, μ2 183 6)]) dX10_next_268 l_X10_132 mw_X10_see mi_X10_see ms_X10_see mo_X10_see (rcv (ci := 10) (n := 49) (r := (RX10, TX10, 49)) k_183 rfl rfl) (Nat.le_of_ble_eq_true rfl) h rfl (fun r4 μ5 h => ?_)
    refine WP_ldcS (i := 3) dX10_next_271 (by decide) rfl rfl ?_
    refine WP_iload_n dX10_next_273 rfl rfl ?_
    refine WQ_invVi (v := (3, 3)) (as := [(0, x1)]) dX10_next_274 l_X10_122 mw_J0_charAt_5068e mi_J0_charAt_5068e ms_J0_charAt_5068e mo_J0_charAt_5068e (rcv_tx rfl) (Nat.le_of_ble_eq_true rfl) h rfl (fun r6 μ7 h => ?_)
    refine WQ_icmp_ne (tgt := 288) dX10_next_277 (by decide) (fun c8 => ?_) (fun c8 => ?_)
    · replace h := h.1 c8
      obtain ⟨g9, h⟩ := h
      refine WQ_iinc dX10_next_288 rfl (by decide) g9 (fun v10 e10 => ?_)
      refine WP_same (L' := [(2, 183), (0, v10)]) rfl ?_
      replace h := h v10 e10
      refine WP_goto (tgt := 254) dX10_next_291 (by decide) ?_
      exact h
    · replace h := h.2 c8
      refine WP_aload_n dX10_next_280 rfl rfl ⟨Nat.le_of_ble_eq_true rfl, Nat.le_of_ble_eq_true rfl⟩ ?_
      refine WP_bipush dX10_next_281 (by decide +kernel) (by decide) ?_
      refine WP_iload_n dX10_next_283 rfl rfl ?_
      obtain ⟨g11, h⟩ := h
      refine WP_iadd dX10_next_284 g11 ?_
      refine WQ_put (ci := 10) (j := 9) (n := 49) dX10_next_285 f_X10_136 k_183 rfl (fun μ12 eμ12 => ?_)
      replace h := h μ12 eμ12
      obtain ⟨g13, h⟩ := h
      refine WQ_iinc dX10_next_288 rfl (by decide) g13 (fun v14 e14 => ?_)
      refine WP_same (L' := [(2, 183), (0, v14)]) rfl ?_
      replace h := h v14 e14
      refine WP_goto (tgt := 254) dX10_next_291 (by decide) ?_
      exact h

theorem s_X10_noHeard_0 {d : Nat} {sc : SC} {Q : Int → Mem → Prop} {μ : Mem} {a1 a2 : Int}
    (h : CAi mX10_within d sc [(1, a1), (1, 0), (1, 3)] μ (fun r1 μ2 => (r1 = 0 → Q (-2) μ2) ∧ (r1 ≠ 0 → CAi mX10_isPerson d sc [(2, 183), (1, a2)] μ2 (fun r4 μ5 => (r4 ≠ 0 → CAi mX10_noTray d sc [(2, 183), (0, a1)] μ5 (fun r7 μ8 => (r7 = 0 → (0 ≤ a1 ∧ a1 < 4) ∧ CAi mX10_within d sc [(1, μ8 210 a1), (1, 1), (1, 6)] μ8 (fun r11 μ12 => (r11 ≠ 0 → WQ mX10_noHeard d sc (ZI sc Q) 59 [(2, 183), (0, a1), (0, a2), (9, 0), (0, 0), (9, 0), (9, 0)] [] μ12) ∧ (r11 = 0 → Q (-4) μ12))) ∧ (r7 ≠ 0 → Q r7 μ8))) ∧ (r4 = 0 → Q (-2) μ5))))) :
    WQ mX10_noHeard d sc (ZI sc Q) 0 [(2, 183), (0, a1), (0, a2), (9, 0), (9, 0), (9, 0), (9, 0)] [] μ := by
  refine WP_iload_n dX10_noHeard_0 rfl rfl ?_
  refine WP_i2l dX10_noHeard_1 ?_
  refine WP_lconst dX10_noHeard_2 rfl ?_
  refine WP_ldc2 dX10_noHeard_3 c_X10_370 (by decide) ?_
  refine WQ_invSi (as := [(1, a1), (1, 0), (1, 3)]) dX10_noHeard_6 l_X10_170 mw_X10_within mt_X10_within mo_X10_within (Nat.le_of_ble_eq_true rfl) h rfl (fun r1 μ2 h => ?_)
  refine WQ_ifeq (tgt := 21) dX10_noHeard_9 (by decide) (fun c3 => ?_) (fun c3 => ?_)
  · replace h := h.1 c3
    refine WP_bipush dX10_noHeard_21 (by decide +kernel) (by decide) ?_
    exact WQ_ireturn dX10_noHeard_23 rfl h
  · replace h := h.2 c3
    refine WP_aload_n dX10_noHeard_12 rfl rfl ⟨Nat.le_of_ble_eq_true rfl, Nat.le_of_ble_eq_true rfl⟩ ?_
    refine WP_iload_n dX10_noHeard_13 rfl rfl ?_
    refine WP_i2l dX10_noHeard_14 ?_
    refine WQ_invVi (v := (2, 183)) (as := [(1, a2)]) dX10_noHeard_15 l_X10_235 mw_X10_isPerson mi_X10_isPerson ms_X10_isPerson mo_X10_isPerson (rcv (ci := 10) (n := 49) (r := (RX10, TX10, 49)) k_183 rfl rfl) (Nat.le_of_ble_eq_true rfl) h rfl (fun r4 μ5 h => ?_)
    refine WQ_ifne (tgt := 24) dX10_noHeard_18 (by decide) (fun c6 => ?_) (fun c6 => ?_)
    · replace h := h.1 c6
      refine WP_aload_n dX10_noHeard_24 rfl rfl ⟨Nat.le_of_ble_eq_true rfl, Nat.le_of_ble_eq_true rfl⟩ ?_
      refine WP_iload_n dX10_noHeard_25 rfl rfl ?_
      refine WQ_invVi (v := (2, 183)) (as := [(0, a1)]) dX10_noHeard_26 l_X10_372 mw_X10_noTray mi_X10_noTray ms_X10_noTray mo_X10_noTray (rcv (ci := 10) (n := 49) (r := (RX10, TX10, 49)) k_183 rfl rfl) (Nat.le_of_ble_eq_true rfl) h rfl (fun r7 μ8 h => ?_)
      refine WP_istore_n (L' := [(2, 183), (0, a1), (0, a2), (0, r7), (9, 0), (9, 0), (9, 0)]) dX10_noHeard_29 rfl (by decide) rfl ?_
      refine WP_iload_n dX10_noHeard_30 rfl rfl ?_
      refine WQ_ifeq (tgt := 36) dX10_noHeard_31 (by decide) (fun c9 => ?_) (fun c9 => ?_)
      · replace h := h.1 c9
        refine WP_aload_n dX10_noHeard_36 rfl rfl ⟨Nat.le_of_ble_eq_true rfl, Nat.le_of_ble_eq_true rfl⟩ ?_
        refine WP_getfield (ci := 10) (j := 47) (n := 49) (t := 2) (x := 210) dX10_noHeard_37 f_X10_98 k_183 rfl rfl ?_
        refine WP_iload_n dX10_noHeard_40 rfl rfl ?_
        obtain ⟨g10, h⟩ := h
        refine WP_iaload (n := 4) dX10_noHeard_41 k_210 g10 ?_
        refine WP_i2l dX10_noHeard_42 ?_
        refine WP_lconst dX10_noHeard_43 rfl ?_
        refine WP_ldc2 dX10_noHeard_44 c_X10_439 (by decide) ?_
        refine WQ_invSi (as := [(1, μ8 210 a1), (1, 1), (1, 6)]) dX10_noHeard_47 l_X10_170 mw_X10_within mt_X10_within mo_X10_within (Nat.le_of_ble_eq_true rfl) h rfl (fun r11 μ12 h => ?_)
        refine WQ_ifne (tgt := 56) dX10_noHeard_50 (by decide) (fun c13 => ?_) (fun c13 => ?_)
        · replace h := h.1 c13
          refine WP_iconst dX10_noHeard_56 (by decide) ?_
          refine WP_istore (L' := [(2, 183), (0, a1), (0, a2), (0, r7), (0, 0), (9, 0), (9, 0)]) dX10_noHeard_57 (by decide) rfl ?_
          refine WP_lforget (L' := [(2, 183), (0, a1), (0, a2), (9, 0), (0, 0), (9, 0), (9, 0)]) rfl (fun i hi => ?_) h
          match i, hi with
          | 0, _ => exact Or.inl rfl
          | 1, _ => exact Or.inl rfl
          | 2, _ => exact Or.inl rfl
          | 3, _ => exact Or.inr rfl
          | 4, _ => exact Or.inl rfl
          | 5, _ => exact Or.inl rfl
          | 6, _ => exact Or.inl rfl
          | i + 7, hi => exact absurd hi (by simp only [List.length_cons, List.length_nil]; omega)
        · replace h := h.2 c13
          refine WP_bipush dX10_noHeard_53 (by decide +kernel) (by decide) ?_
          exact WQ_ireturn dX10_noHeard_55 rfl h
      · replace h := h.2 c9
        refine WP_iload_n dX10_noHeard_34 rfl rfl ?_
        exact WQ_ireturn dX10_noHeard_35 rfl h
    · replace h := h.2 c6
      refine WP_bipush dX10_noHeard_21 (by decide +kernel) (by decide) ?_
      exact WQ_ireturn dX10_noHeard_23 rfl h

theorem s_X10_noHeard_59 {d : Nat} {sc : SC} {Q : Int → Mem → Prop} {μ : Mem} {x1 x2 x4 : Int}
    (h : (0 ≤ x1 ∧ x1 < 4) ∧ (μ 210 x1 ≤ x4 → Q 0 μ) ∧ (x4 < μ 210 x1 → (-2147483648 ≤ 40 * x1 ∧ 40 * x1 < 2147483648) ∧ (-2147483648 ≤ (40 * x1) + x4 ∧ (40 * x1) + x4 < 2147483648) ∧ (0 ≤ (40 * x1) + x4 ∧ (40 * x1) + x4 < 160) ∧ (∀ v6 : Int, v6 = μ 211 ((40 * x1) + x4) → (v6 < 0 → Q (-3) μ) ∧ (0 ≤ v6 → 0 ≤ v6 ∧ CAi mX10_areTwo d sc [(2, 183), (1, v6 / 100), (1, x2)] μ (fun r9 μ10 => (r9 = 0 → Q (-3) μ10) ∧ (r9 ≠ 0 → 0 ≤ v6 ∧ CAi mX10_within d sc [(1, v6 % 100), (1, 1), (1, 20)] μ10 (fun r13 μ14 => (r13 ≠ 0 → (-2147483648 ≤ x4 + 1 ∧ x4 + 1 < 2147483648) ∧ ∀ v17 : Int, v17 = x4 + 1 → WQ mX10_noHeard d sc (ZI sc Q) 59 [(2, 183), (0, x1), (0, x2), (9, 0), (0, v17), (9, 0), (9, 0)] [] μ14) ∧ (r13 = 0 → Q (-3) μ14)))))))) :
    WQ mX10_noHeard d sc (ZI sc Q) 59 [(2, 183), (0, x1), (0, x2), (9, 0), (0, x4), (9, 0), (9, 0)] [] μ := by
  refine WP_iload dX10_noHeard_59 rfl ?_
  refine WP_aload_n dX10_noHeard_61 rfl rfl ⟨Nat.le_of_ble_eq_true rfl, Nat.le_of_ble_eq_true rfl⟩ ?_
  refine WP_getfield (ci := 10) (j := 47) (n := 49) (t := 2) (x := 210) dX10_noHeard_62 f_X10_98 k_183 rfl rfl ?_
  refine WP_iload_n dX10_noHeard_65 rfl rfl ?_
  obtain ⟨g1, h⟩ := h
  refine WP_iaload (n := 4) dX10_noHeard_66 k_210 g1 ?_
  refine WQ_icmp_ge (tgt := 131) dX10_noHeard_67 (by decide) (fun c2 => ?_) (fun c2 => ?_)
  · replace h := h.1 c2
    refine WP_iconst dX10_noHeard_131 (by decide) ?_
    exact WQ_ireturn dX10_noHeard_132 rfl h
  · replace h := h.2 c2
    refine WP_aload_n dX10_noHeard_70 rfl rfl ⟨Nat.le_of_ble_eq_true rfl, Nat.le_of_ble_eq_true rfl⟩ ?_
    refine WP_getfield (ci := 10) (j := 48) (n := 49) (t := 2) (x := 211) dX10_noHeard_71 f_X10_101 k_183 rfl rfl ?_
    refine WP_bipush dX10_noHeard_74 (by decide +kernel) (by decide) ?_
    refine WP_iload_n dX10_noHeard_76 rfl rfl ?_
    obtain ⟨g3, h⟩ := h
    refine WP_imul dX10_noHeard_77 g3 ?_
    refine WP_iload dX10_noHeard_78 rfl ?_
    obtain ⟨g4, h⟩ := h
    refine WP_iadd dX10_noHeard_80 g4 ?_
    obtain ⟨g5, h⟩ := h
    refine WP_laload (n := 160) dX10_noHeard_81 k_211 g5 ?_
    refine WQ_nm1 (fun v6 e6 => ?_)
    replace h := h v6 e6
    refine WP_lstore (L' := [(2, 183), (0, x1), (0, x2), (9, 0), (0, x4), (1, v6), (9, 0)]) dX10_noHeard_82 (by decide) rfl ?_
    refine WP_lload dX10_noHeard_84 rfl ?_
    refine WP_lconst dX10_noHeard_86 rfl ?_
    refine WQ_liflt (tgt := 122) dX10_noHeard_87 dX10_noHeard_88 (by decide) (fun c7 => ?_) (fun c7 => ?_)
    · replace h := h.1 c7
      refine WP_bipush dX10_noHeard_122 (by decide +kernel) (by decide) ?_
      exact WQ_ireturn dX10_noHeard_124 rfl h
    · replace h := h.2 c7
      refine WP_aload_n dX10_noHeard_91 rfl rfl ⟨Nat.le_of_ble_eq_true rfl, Nat.le_of_ble_eq_true rfl⟩ ?_
      refine WP_lload dX10_noHeard_92 rfl ?_
      refine WP_ldc2 dX10_noHeard_94 c_X10_346 (by decide) ?_
      obtain ⟨g8, h⟩ := h
      refine WP_ldiv dX10_noHeard_97 ⟨g8, by decide⟩ ?_
      refine WP_iload_n dX10_noHeard_98 rfl rfl ?_
      refine WP_i2l dX10_noHeard_99 ?_
      refine WQ_invVi (v := (2, 183)) (as := [(1, v6 / 100), (1, x2)]) dX10_noHeard_100 l_X10_259 mw_X10_areTwo mi_X10_areTwo ms_X10_areTwo mo_X10_areTwo (rcv (ci := 10) (n := 49) (r := (RX10, TX10, 49)) k_183 rfl rfl) (Nat.le_of_ble_eq_true rfl) h rfl (fun r9 μ10 h => ?_)
      refine WQ_ifeq (tgt := 122) dX10_noHeard_103 (by decide) (fun c11 => ?_) (fun c11 => ?_)
      · replace h := h.1 c11
        refine WP_bipush dX10_noHeard_122 (by decide +kernel) (by decide) ?_
        exact WQ_ireturn dX10_noHeard_124 rfl h
      · replace h := h.2 c11
        refine WP_lload dX10_noHeard_106 rfl ?_
        refine WP_ldc2 dX10_noHeard_108 c_X10_346 (by decide) ?_
        obtain ⟨g12, h⟩ := h
        refine WP_lrem dX10_noHeard_111 ⟨g12, by decide⟩ ?_
        refine WP_lconst dX10_noHeard_112 rfl ?_
        refine WP_ldc2 dX10_noHeard_113 c_X10_405 (by decide) ?_
        refine WQ_invSi (as := [(1, v6 % 100), (1, 1), (1, 20)]) dX10_noHeard_116 l_X10_170 mw_X10_within mt_X10_within mo_X10_within (Nat.le_of_ble_eq_true rfl) h rfl (fun r13 μ14 h => ?_)
        refine WQ_ifne (tgt := 125) dX10_noHeard_119 (by decide) (fun c15 => ?_) (fun c15 => ?_)
        · replace h := h.1 c15
          obtain ⟨g16, h⟩ := h
          refine WQ_iinc dX10_noHeard_125 rfl (by decide) g16 (fun v17 e17 => ?_)
          refine WP_same (L' := [(2, 183), (0, x1), (0, x2), (9, 0), (0, v17), (1, v6), (9, 0)]) rfl ?_
          replace h := h v17 e17
          refine WP_goto (tgt := 59) dX10_noHeard_128 (by decide) ?_
          refine WP_lforget (L' := [(2, 183), (0, x1), (0, x2), (9, 0), (0, v17), (9, 0), (9, 0)]) rfl (fun i hi => ?_) h
          match i, hi with
          | 0, _ => exact Or.inl rfl
          | 1, _ => exact Or.inl rfl
          | 2, _ => exact Or.inl rfl
          | 3, _ => exact Or.inl rfl
          | 4, _ => exact Or.inl rfl
          | 5, _ => exact Or.inr rfl
          | 6, _ => exact Or.inl rfl
          | i + 7, hi => exact absurd hi (by simp only [List.length_cons, List.length_nil]; omega)
        · replace h := h.2 c15
          refine WP_bipush dX10_noHeard_122 (by decide +kernel) (by decide) ?_
          exact WQ_ireturn dX10_noHeard_124 rfl h

theorem s_X10_noStop_0 {d : Nat} {sc : SC} {Q : Int → Mem → Prop} {μ : Mem} {a1 a2 : Int}
    (h : CAi mX10_isPerson d sc [(2, 183), (1, a1)] μ (fun r1 μ2 => (r1 ≠ 0 → CAi mX10_within d sc [(1, a2), (1, 0), (1, 99)] μ2 (fun r4 μ5 => (r4 = 0 → Q (-3) μ5) ∧ (r4 ≠ 0 → Q 0 μ5))) ∧ (r1 = 0 → Q (-2) μ2))) :
    WQ mX10_noStop d sc (ZI sc Q) 0 [(2, 183), (0, a1), (0, a2)] [] μ := by
  refine WP_aload_n dX10_noStop_0 rfl rfl ⟨Nat.le_of_ble_eq_true rfl, Nat.le_of_ble_eq_true rfl⟩ ?_
  refine WP_iload_n dX10_noStop_1 rfl rfl ?_
  refine WP_i2l dX10_noStop_2 ?_
  refine WQ_invVi (v := (2, 183)) (as := [(1, a1)]) dX10_noStop_3 l_X10_235 mw_X10_isPerson mi_X10_isPerson ms_X10_isPerson mo_X10_isPerson (rcv (ci := 10) (n := 49) (r := (RX10, TX10, 49)) k_183 rfl rfl) (Nat.le_of_ble_eq_true rfl) h rfl (fun r1 μ2 h => ?_)
  refine WQ_ifne (tgt := 14) dX10_noStop_6 (by decide) (fun c3 => ?_) (fun c3 => ?_)
  · replace h := h.1 c3
    refine WP_iload_n dX10_noStop_14 rfl rfl ?_
    refine WP_i2l dX10_noStop_15 ?_
    refine WP_lconst dX10_noStop_16 rfl ?_
    refine WP_ldc2 dX10_noStop_17 c_X10_311 (by decide) ?_
    refine WQ_invSi (as := [(1, a2), (1, 0), (1, 99)]) dX10_noStop_20 l_X10_170 mw_X10_within mt_X10_within mo_X10_within (Nat.le_of_ble_eq_true rfl) h rfl (fun r4 μ5 h => ?_)
    refine WQ_ifeq (tgt := 30) dX10_noStop_23 (by decide) (fun c6 => ?_) (fun c6 => ?_)
    · replace h := h.1 c6
      refine WP_bipush dX10_noStop_30 (by decide +kernel) (by decide) ?_
      exact WQ_ireturn dX10_noStop_32 rfl h
    · replace h := h.2 c6
      refine WP_iconst dX10_noStop_26 (by decide) ?_
      refine WP_goto (tgt := 32) dX10_noStop_27 (by decide) ?_
      exact WQ_ireturn dX10_noStop_32 rfl h
  · replace h := h.2 c3
    refine WP_bipush dX10_noStop_9 (by decide +kernel) (by decide) ?_
    refine WP_goto (tgt := 32) dX10_noStop_11 (by decide) ?_
    exact WQ_ireturn dX10_noStop_32 rfl h

theorem s_X10_noTray_0 {d : Nat} {sc : SC} {Q : Int → Mem → Prop} {μ : Mem} {a1 : Int}
    (h : CAi mX10_within d sc [(1, a1), (1, 0), (1, 3)] μ (fun r1 μ2 => (r1 ≠ 0 → (0 ≤ a1 ∧ a1 < 4) ∧ (μ2 209 a1 ≠ (-1) → Q 0 μ2) ∧ (μ2 209 a1 = (-1) → Q (-6) μ2)) ∧ (r1 = 0 → Q (-2) μ2))) :
    WQ mX10_noTray d sc (ZI sc Q) 0 [(2, 183), (0, a1)] [] μ := by
  refine WP_iload_n dX10_noTray_0 rfl rfl ?_
  refine WP_i2l dX10_noTray_1 ?_
  refine WP_lconst dX10_noTray_2 rfl ?_
  refine WP_ldc2 dX10_noTray_3 c_X10_370 (by decide) ?_
  refine WQ_invSi (as := [(1, a1), (1, 0), (1, 3)]) dX10_noTray_6 l_X10_170 mw_X10_within mt_X10_within mo_X10_within (Nat.le_of_ble_eq_true rfl) h rfl (fun r1 μ2 h => ?_)
  refine WQ_ifne (tgt := 17) dX10_noTray_9 (by decide) (fun c3 => ?_) (fun c3 => ?_)
  · replace h := h.1 c3
    refine WP_aload_n dX10_noTray_17 rfl rfl ⟨Nat.le_of_ble_eq_true rfl, Nat.le_of_ble_eq_true rfl⟩ ?_
    refine WP_getfield (ci := 10) (j := 46) (n := 49) (t := 2) (x := 209) dX10_noTray_18 f_X10_95 k_183 rfl rfl ?_
    refine WP_iload_n dX10_noTray_21 rfl rfl ?_
    obtain ⟨g4, h⟩ := h
    refine WP_iaload (n := 4) dX10_noTray_22 k_209 g4 ?_
    refine WP_iconst dX10_noTray_23 (by decide) ?_
    refine WQ_icmp_ne (tgt := 32) dX10_noTray_24 (by decide) (fun c5 => ?_) (fun c5 => ?_)
    · replace h := h.1 c5
      refine WP_iconst dX10_noTray_32 (by decide) ?_
      exact WQ_ireturn dX10_noTray_33 rfl h
    · replace h := h.2 c5
      refine WP_bipush dX10_noTray_27 (by decide +kernel) (by decide) ?_
      refine WP_goto (tgt := 33) dX10_noTray_29 (by decide) ?_
      exact WQ_ireturn dX10_noTray_33 rfl h
  · replace h := h.2 c3
    refine WP_bipush dX10_noTray_12 (by decide +kernel) (by decide) ?_
    refine WP_goto (tgt := 33) dX10_noTray_14 (by decide) ?_
    exact WQ_ireturn dX10_noTray_33 rfl h

theorem s_X10_nobodies_0 {d : Nat} {sc : SC} {Q : Int → Mem → Prop} {μ : Mem}
    (h : (-2147483648 ≤ (iShl 1 (μ 184 3)) - 1 ∧ (iShl 1 (μ 184 3)) - 1 < 2147483648) ∧ (∀ v3 : Int, v3 = (iShl 1 (μ 184 3)) - 1 → WQ mX10_nobodies d sc (ZI sc Q) 13 [(2, 183), (0, v3), (0, 0)] [] μ)) :
    WQ mX10_nobodies d sc (ZI sc Q) 0 [(2, 183), (9, 0), (9, 0)] [] μ := by
  refine WP_iconst dX10_nobodies_0 (by decide) ?_
  refine WP_aload_n dX10_nobodies_1 rfl rfl ⟨Nat.le_of_ble_eq_true rfl, Nat.le_of_ble_eq_true rfl⟩ ?_
  refine WP_getfield (ci := 10) (j := 1) (n := 49) (t := 2) (x := 184) dX10_nobodies_2 f_X10_13 k_183 rfl rfl ?_
  refine WP_iconst dX10_nobodies_5 (by decide) ?_
  refine WP_iaload (n := 4119) dX10_nobodies_6 k_184 ⟨by decide, by decide⟩ ?_
  refine WP_ishl dX10_nobodies_7 ?_
  refine WP_iconst dX10_nobodies_8 (by decide) ?_
  obtain ⟨g2, h⟩ := h
  refine WP_isub dX10_nobodies_9 g2 ?_
  refine WQ_nm0 (fun v3 e3 => ?_)
  replace h := h v3 e3
  refine WP_istore_n (L' := [(2, 183), (0, v3), (9, 0)]) dX10_nobodies_10 rfl (by decide) rfl ?_
  refine WP_iconst dX10_nobodies_11 (by decide) ?_
  refine WP_istore_n (L' := [(2, 183), (0, v3), (0, 0)]) dX10_nobodies_12 rfl (by decide) rfl ?_
  exact h

theorem s_X10_nobodies_13 {d : Nat} {sc : SC} {Q : Int → Mem → Prop} {μ : Mem} {x1 x2 : Int}
    (h : (μ 183 36 ≤ x2 → Q x1 μ) ∧ (x2 < μ 183 36 → (0 ≤ x2 ∧ x2 < 640) ∧ (∀ v3 : Int, v3 = iAnd x1 (iXor (iShl 1 (μ 200 x2)) (-1)) → (-2147483648 ≤ x2 + 1 ∧ x2 + 1 < 2147483648) ∧ ∀ v5 : Int, v5 = x2 + 1 → WQ mX10_nobodies d sc (ZI sc Q) 13 [(2, 183), (0, v3), (0, v5)] [] μ))) :
    WQ mX10_nobodies d sc (ZI sc Q) 13 [(2, 183), (0, x1), (0, x2)] [] μ := by
  refine WP_iload_n dX10_nobodies_13 rfl rfl ?_
  refine WP_aload_n dX10_nobodies_14 rfl rfl ⟨Nat.le_of_ble_eq_true rfl, Nat.le_of_ble_eq_true rfl⟩ ?_
  refine WP_getfield (ci := 10) (j := 36) (n := 49) (t := 0) (x := μ 183 36) dX10_nobodies_15 f_X10_287 k_183 rfl rfl ?_
  refine WQ_icmp_ge (tgt := 40) dX10_nobodies_18 (by decide) (fun c1 => ?_) (fun c1 => ?_)
  · replace h := h.1 c1
    refine WP_iload_n dX10_nobodies_40 rfl rfl ?_
    exact WQ_ireturn dX10_nobodies_41 rfl h
  · replace h := h.2 c1
    refine WP_iload_n dX10_nobodies_21 rfl rfl ?_
    refine WP_iconst dX10_nobodies_22 (by decide) ?_
    refine WP_aload_n dX10_nobodies_23 rfl rfl ⟨Nat.le_of_ble_eq_true rfl, Nat.le_of_ble_eq_true rfl⟩ ?_
    refine WP_getfield (ci := 10) (j := 29) (n := 49) (t := 2) (x := 200) dX10_nobodies_24 f_X10_67 k_183 rfl rfl ?_
    refine WP_iload_n dX10_nobodies_27 rfl rfl ?_
    obtain ⟨g2, h⟩ := h
    refine WP_iaload (n := 640) dX10_nobodies_28 k_200 g2 ?_
    refine WP_ishl dX10_nobodies_29 ?_
    refine WP_iconst dX10_nobodies_30 (by decide) ?_
    refine WP_ixor dX10_nobodies_31 ?_
    refine WP_iand dX10_nobodies_32 ?_
    refine WQ_nm0 (fun v3 e3 => ?_)
    replace h := h v3 e3
    refine WP_istore_n (L' := [(2, 183), (0, v3), (0, x2)]) dX10_nobodies_33 rfl (by decide) rfl ?_
    obtain ⟨g4, h⟩ := h
    refine WQ_iinc dX10_nobodies_34 rfl (by decide) g4 (fun v5 e5 => ?_)
    refine WP_same (L' := [(2, 183), (0, v3), (0, v5)]) rfl ?_
    replace h := h v5 e5
    refine WP_goto (tgt := 13) dX10_nobodies_37 (by decide) ?_
    exact h

theorem s_X10_nobody_0 {d : Nat} {sc : SC} {Q : Int → Mem → Prop} {μ : Mem}
    (h : ∀ μ1, μ1 = mup μ 183 0 0 → CAv mX10_laysDay d sc [(2, 183)] μ1 (fun μ3 => CAi mX10_nobodies d sc [(2, 183)] μ3 (fun r4 μ5 => Q r4 μ5))) :
    WQ mX10_nobody d sc (ZI sc Q) 0 [(2, 183)] [] μ := by
  refine WP_aload_n dX10_nobody_0 rfl rfl ⟨Nat.le_of_ble_eq_true rfl, Nat.le_of_ble_eq_true rfl⟩ ?_
  refine WP_iconst dX10_nobody_1 (by decide) ?_
  refine WQ_put (ci := 10) (j := 0) (n := 49) dX10_nobody_2 f_X10_1 k_183 rfl (fun μ1 eμ1 => ?_)
  replace h := h μ1 eμ1
  refine WP_aload_n dX10_nobody_5 rfl rfl ⟨Nat.le_of_ble_eq_true rfl, Nat.le_of_ble_eq_true rfl⟩ ?_
  refine WQ_invVv (v := (2, 183)) (as := []) dX10_nobody_6 l_X10_308 mw_X10_laysDay mi_X10_laysDay ms_X10_laysDay mo_X10_laysDay (rcv (ci := 10) (n := 49) (r := (RX10, TX10, 49)) k_183 rfl rfl) (Nat.le_of_ble_eq_true rfl) h rfl (fun μ3 h => ?_)
  refine WP_aload_n dX10_nobody_9 rfl rfl ⟨Nat.le_of_ble_eq_true rfl, Nat.le_of_ble_eq_true rfl⟩ ?_
  refine WQ_invVi (v := (2, 183)) (as := []) dX10_nobody_10 l_X10_381 mw_X10_nobodies mi_X10_nobodies ms_X10_nobodies mo_X10_nobodies (rcv (ci := 10) (n := 49) (r := (RX10, TX10, 49)) k_183 rfl rfl) (Nat.le_of_ble_eq_true rfl) h rfl (fun r4 μ5 h => ?_)
  exact WQ_ireturn dX10_nobody_13 rfl h

theorem s_X10_notes_0 {d : Nat} {sc : SC} {Q : Mem → Prop} {μ : Mem}
    (h : (μ 184 71 ≠ 10 → WQ mX10_notes d sc (ZV sc Q) 58 [(2, 183), (0, 0)] [] μ) ∧ (μ 184 71 = 10 → WQ mX10_notes d sc (ZV sc Q) 14 [(2, 183), (0, 0)] [] μ)) :
    WQ mX10_notes d sc (ZV sc Q) 0 [(2, 183), (9, 0)] [] μ := by
  refine WP_aload_n dX10_notes_0 rfl rfl ⟨Nat.le_of_ble_eq_true rfl, Nat.le_of_ble_eq_true rfl⟩ ?_
  refine WP_getfield (ci := 10) (j := 1) (n := 49) (t := 2) (x := 184) dX10_notes_1 f_X10_13 k_183 rfl rfl ?_
  refine WP_bipush dX10_notes_4 (by decide +kernel) (by decide) ?_
  refine WP_iaload (n := 4119) dX10_notes_6 k_184 ⟨by decide, by decide⟩ ?_
  refine WP_bipush dX10_notes_7 (by decide +kernel) (by decide) ?_
  refine WQ_icmp_ne (tgt := 56) dX10_notes_9 (by decide) (fun c2 => ?_) (fun c2 => ?_)
  · replace h := h.1 c2
    refine WP_iconst dX10_notes_56 (by decide) ?_
    refine WP_istore_n (L' := [(2, 183), (0, 0)]) dX10_notes_57 rfl (by decide) rfl ?_
    exact h
  · replace h := h.2 c2
    refine WP_iconst dX10_notes_12 (by decide) ?_
    refine WP_istore_n (L' := [(2, 183), (0, 0)]) dX10_notes_13 rfl (by decide) rfl ?_
    exact h

theorem s_X10_notes_14 {d : Nat} {sc : SC} {Q : Mem → Prop} {μ : Mem} {x1 : Int}
    (h : (360 ≤ x1 → (-2147483648 ≤ (μ 184 71) - 1 ∧ (μ 184 71) - 1 < 2147483648) ∧ (∀ μ5, μ5 = mup μ 184 71 ((μ 184 71) - 1) → WQ mX10_notes d sc (ZV sc Q) 58 [(2, 183), (0, 0)] [] μ5)) ∧ (x1 < 360 → (-2147483648 ≤ 72 + x1 ∧ 72 + x1 < 2147483648) ∧ (-2147483648 ≤ 112 + x1 ∧ 112 + x1 < 2147483648) ∧ (0 ≤ 112 + x1 ∧ 112 + x1 < 4119) ∧ (0 ≤ 72 + x1 ∧ 72 + x1 < 4119) ∧ (∀ μ10, μ10 = mup μ 184 (72 + x1) (μ 184 (112 + x1)) → (-2147483648 ≤ x1 + 1 ∧ x1 + 1 < 2147483648) ∧ ∀ v12 : Int, v12 = x1 + 1 → WQ mX10_notes d sc (ZV sc Q) 14 [(2, 183), (0, v12)] [] μ10))) :
    WQ mX10_notes d sc (ZV sc Q) 14 [(2, 183), (0, x1)] [] μ := by
  refine WP_iload_n dX10_notes_14 rfl rfl ?_
  refine WP_sipush dX10_notes_15 (by decide +kernel) (by decide) ?_
  refine WQ_icmp_ge (tgt := 45) dX10_notes_18 (by decide) (fun c1 => ?_) (fun c1 => ?_)
  · replace h := h.1 c1
    refine WP_aload_n dX10_notes_45 rfl rfl ⟨Nat.le_of_ble_eq_true rfl, Nat.le_of_ble_eq_true rfl⟩ ?_
    refine WP_getfield (ci := 10) (j := 1) (n := 49) (t := 2) (x := 184) dX10_notes_46 f_X10_13 k_183 rfl rfl ?_
    refine WP_bipush dX10_notes_49 (by decide +kernel) (by decide) ?_
    refine WP_dup2 dX10_notes_51 (by simp) (by simp) ?_
    refine WP_iaload (n := 4119) dX10_notes_52 k_184 ⟨by decide, by decide⟩ ?_
    refine WP_iconst dX10_notes_53 (by decide) ?_
    obtain ⟨g3, h⟩ := h
    refine WP_isub dX10_notes_54 g3 ?_
    refine WQ_iast (n := 4119) dX10_notes_55 k_184 ⟨by decide, by decide⟩ (fun μ5 eμ5 => ?_)
    replace h := h μ5 eμ5
    refine WP_iconst dX10_notes_56 (by decide) ?_
    refine WP_istore_n (L' := [(2, 183), (0, 0)]) dX10_notes_57 rfl (by decide) rfl ?_
    exact h
  · replace h := h.2 c1
    refine WP_aload_n dX10_notes_21 rfl rfl ⟨Nat.le_of_ble_eq_true rfl, Nat.le_of_ble_eq_true rfl⟩ ?_
    refine WP_getfield (ci := 10) (j := 1) (n := 49) (t := 2) (x := 184) dX10_notes_22 f_X10_13 k_183 rfl rfl ?_
    refine WP_bipush dX10_notes_25 (by decide +kernel) (by decide) ?_
    refine WP_iload_n dX10_notes_27 rfl rfl ?_
    obtain ⟨g6, h⟩ := h
    refine WP_iadd dX10_notes_28 g6 ?_
    refine WP_aload_n dX10_notes_29 rfl rfl ⟨Nat.le_of_ble_eq_true rfl, Nat.le_of_ble_eq_true rfl⟩ ?_
    refine WP_getfield (ci := 10) (j := 1) (n := 49) (t := 2) (x := 184) dX10_notes_30 f_X10_13 k_183 rfl rfl ?_
    refine WP_bipush dX10_notes_33 (by decide +kernel) (by decide) ?_
    refine WP_iload_n dX10_notes_35 rfl rfl ?_
    obtain ⟨g7, h⟩ := h
    refine WP_iadd dX10_notes_36 g7 ?_
    obtain ⟨g8, h⟩ := h
    refine WP_iaload (n := 4119) dX10_notes_37 k_184 g8 ?_
    obtain ⟨g9, h⟩ := h
    refine WQ_iast (n := 4119) dX10_notes_38 k_184 g9 (fun μ10 eμ10 => ?_)
    replace h := h μ10 eμ10
    obtain ⟨g11, h⟩ := h
    refine WQ_iinc dX10_notes_39 rfl (by decide) g11 (fun v12 e12 => ?_)
    refine WP_same (L' := [(2, 183), (0, v12)]) rfl ?_
    replace h := h v12 e12
    refine WP_goto (tgt := 14) dX10_notes_42 (by decide) ?_
    exact h

theorem s_X10_notes_58 {d : Nat} {sc : SC} {Q : Mem → Prop} {μ : Mem} {x1 : Int}
    (h : (40 ≤ x1 → (-2147483648 ≤ (μ 184 71) + 1 ∧ (μ 184 71) + 1 < 2147483648) ∧ (∀ μ5, μ5 = mup μ 184 71 ((μ 184 71) + 1) → Q μ5)) ∧ (x1 < 40 → (-2147483648 ≤ 40 * (μ 184 71) ∧ 40 * (μ 184 71) < 2147483648) ∧ (-2147483648 ≤ 72 + (40 * (μ 184 71)) ∧ 72 + (40 * (μ 184 71)) < 2147483648) ∧ (-2147483648 ≤ (72 + (40 * (μ 184 71))) + x1 ∧ (72 + (40 * (μ 184 71))) + x1 < 2147483648) ∧ (0 ≤ x1 ∧ x1 < 40) ∧ (0 ≤ (72 + (40 * (μ 184 71))) + x1 ∧ (72 + (40 * (μ 184 71))) + x1 < 4119) ∧ (∀ μ12, μ12 = mup μ 184 ((72 + (40 * (μ 184 71))) + x1) (μ 205 x1) → (-2147483648 ≤ x1 + 1 ∧ x1 + 1 < 2147483648) ∧ ∀ v14 : Int, v14 = x1 + 1 → WQ mX10_notes d sc (ZV sc Q) 58 [(2, 183), (0, v14)] [] μ12))) :
    WQ mX10_notes d sc (ZV sc Q) 58 [(2, 183), (0, x1)] [] μ := by
  refine WP_iload_n dX10_notes_58 rfl rfl ?_
  refine WP_bipush dX10_notes_59 (by decide +kernel) (by decide) ?_
  refine WQ_icmp_ge (tgt := 96) dX10_notes_61 (by decide) (fun c1 => ?_) (fun c1 => ?_)
  · replace h := h.1 c1
    refine WP_aload_n dX10_notes_96 rfl rfl ⟨Nat.le_of_ble_eq_true rfl, Nat.le_of_ble_eq_true rfl⟩ ?_
    refine WP_getfield (ci := 10) (j := 1) (n := 49) (t := 2) (x := 184) dX10_notes_97 f_X10_13 k_183 rfl rfl ?_
    refine WP_bipush dX10_notes_100 (by decide +kernel) (by decide) ?_
    refine WP_dup2 dX10_notes_102 (by simp) (by simp) ?_
    refine WP_iaload (n := 4119) dX10_notes_103 k_184 ⟨by decide, by decide⟩ ?_
    refine WP_iconst dX10_notes_104 (by decide) ?_
    obtain ⟨g3, h⟩ := h
    refine WP_iadd dX10_notes_105 g3 ?_
    refine WQ_iast (n := 4119) dX10_notes_106 k_184 ⟨by decide, by decide⟩ (fun μ5 eμ5 => ?_)
    replace h := h μ5 eμ5
    exact WQ_return dX10_notes_107 rfl h
  · replace h := h.2 c1
    refine WP_aload_n dX10_notes_64 rfl rfl ⟨Nat.le_of_ble_eq_true rfl, Nat.le_of_ble_eq_true rfl⟩ ?_
    refine WP_getfield (ci := 10) (j := 1) (n := 49) (t := 2) (x := 184) dX10_notes_65 f_X10_13 k_183 rfl rfl ?_
    refine WP_bipush dX10_notes_68 (by decide +kernel) (by decide) ?_
    refine WP_bipush dX10_notes_70 (by decide +kernel) (by decide) ?_
    refine WP_aload_n dX10_notes_72 rfl rfl ⟨Nat.le_of_ble_eq_true rfl, Nat.le_of_ble_eq_true rfl⟩ ?_
    refine WP_getfield (ci := 10) (j := 1) (n := 49) (t := 2) (x := 184) dX10_notes_73 f_X10_13 k_183 rfl rfl ?_
    refine WP_bipush dX10_notes_76 (by decide +kernel) (by decide) ?_
    refine WP_iaload (n := 4119) dX10_notes_78 k_184 ⟨by decide, by decide⟩ ?_
    obtain ⟨g7, h⟩ := h
    refine WP_imul dX10_notes_79 g7 ?_
    obtain ⟨g8, h⟩ := h
    refine WP_iadd dX10_notes_80 g8 ?_
    refine WP_iload_n dX10_notes_81 rfl rfl ?_
    obtain ⟨g9, h⟩ := h
    refine WP_iadd dX10_notes_82 g9 ?_
    refine WP_aload_n dX10_notes_83 rfl rfl ⟨Nat.le_of_ble_eq_true rfl, Nat.le_of_ble_eq_true rfl⟩ ?_
    refine WP_getfield (ci := 10) (j := 37) (n := 49) (t := 2) (x := 205) dX10_notes_84 f_X10_82 k_183 rfl rfl ?_
    refine WP_iload_n dX10_notes_87 rfl rfl ?_
    obtain ⟨g10, h⟩ := h
    refine WP_iaload (n := 40) dX10_notes_88 k_205 g10 ?_
    obtain ⟨g11, h⟩ := h
    refine WQ_iast (n := 4119) dX10_notes_89 k_184 g11 (fun μ12 eμ12 => ?_)
    replace h := h μ12 eμ12
    obtain ⟨g13, h⟩ := h
    refine WQ_iinc dX10_notes_90 rfl (by decide) g13 (fun v14 e14 => ?_)
    refine WP_same (L' := [(2, 183), (0, v14)]) rfl ?_
    replace h := h v14 e14
    refine WP_goto (tgt := 58) dX10_notes_93 (by decide) ?_
    exact h

theorem s_X10_numbers_0 {d : Nat} {sc : SC} {Q : Int → Mem → Prop} {μ : Mem} {a1 a2 a3 : Int}
    (h : ∀ μ1, μ1 = mup μ 183 0 0 → CAi mX10_within d sc [(1, a1), (1, 0), (1, 3)] μ1 (fun r2 μ3 => (r2 = 0 → Q (-2) μ3) ∧ (r2 ≠ 0 → CAi mX10_within d sc [(1, a2), (1, 0), (1, 3)] μ3 (fun r5 μ6 => (r5 ≠ 0 → CAi mX10_within d sc [(1, a3), (1, 0), (1, 40)] μ6 (fun r8 μ9 => (r8 ≠ 0 → (0 ≤ a1 ∧ a1 < 4) ∧ (∀ μ12, μ12 = mup μ9 209 a1 a2 → (0 ≤ a1 ∧ a1 < 4) ∧ (∀ μ14, μ14 = mup μ12 210 a1 a3 → WQ mX10_numbers d sc (ZI sc Q) 64 [(2, 183), (0, a1), (9, 0), (0, a3), (0, 0)] [] μ14))) ∧ (r8 = 0 → Q (-3) μ9))) ∧ (r5 = 0 → Q (-2) μ6))))) :
    WQ mX10_numbers d sc (ZI sc Q) 0 [(2, 183), (0, a1), (0, a2), (0, a3), (9, 0)] [] μ := by
  refine WP_aload_n dX10_numbers_0 rfl rfl ⟨Nat.le_of_ble_eq_true rfl, Nat.le_of_ble_eq_true rfl⟩ ?_
  refine WP_iconst dX10_numbers_1 (by decide) ?_
  refine WQ_put (ci := 10) (j := 0) (n := 49) dX10_numbers_2 f_X10_1 k_183 rfl (fun μ1 eμ1 => ?_)
  replace h := h μ1 eμ1
  refine WP_iload_n dX10_numbers_5 rfl rfl ?_
  refine WP_i2l dX10_numbers_6 ?_
  refine WP_lconst dX10_numbers_7 rfl ?_
  refine WP_ldc2 dX10_numbers_8 c_X10_370 (by decide) ?_
  refine WQ_invSi (as := [(1, a1), (1, 0), (1, 3)]) dX10_numbers_11 l_X10_170 mw_X10_within mt_X10_within mo_X10_within (Nat.le_of_ble_eq_true rfl) h rfl (fun r2 μ3 h => ?_)
  refine WQ_ifeq (tgt := 29) dX10_numbers_14 (by decide) (fun c4 => ?_) (fun c4 => ?_)
  · replace h := h.1 c4
    refine WP_bipush dX10_numbers_29 (by decide +kernel) (by decide) ?_
    exact WQ_ireturn dX10_numbers_31 rfl h
  · replace h := h.2 c4
    refine WP_iload_n dX10_numbers_17 rfl rfl ?_
    refine WP_i2l dX10_numbers_18 ?_
    refine WP_lconst dX10_numbers_19 rfl ?_
    refine WP_ldc2 dX10_numbers_20 c_X10_370 (by decide) ?_
    refine WQ_invSi (as := [(1, a2), (1, 0), (1, 3)]) dX10_numbers_23 l_X10_170 mw_X10_within mt_X10_within mo_X10_within (Nat.le_of_ble_eq_true rfl) h rfl (fun r5 μ6 h => ?_)
    refine WQ_ifne (tgt := 32) dX10_numbers_26 (by decide) (fun c7 => ?_) (fun c7 => ?_)
    · replace h := h.1 c7
      refine WP_iload_n dX10_numbers_32 rfl rfl ?_
      refine WP_i2l dX10_numbers_33 ?_
      refine WP_lconst dX10_numbers_34 rfl ?_
      refine WP_ldc2 dX10_numbers_35 c_X10_391 (by decide) ?_
      refine WQ_invSi (as := [(1, a3), (1, 0), (1, 40)]) dX10_numbers_38 l_X10_170 mw_X10_within mt_X10_within mo_X10_within (Nat.le_of_ble_eq_true rfl) h rfl (fun r8 μ9 h => ?_)
      refine WQ_ifne (tgt := 47) dX10_numbers_41 (by decide) (fun c10 => ?_) (fun c10 => ?_)
      · replace h := h.1 c10
        refine WP_aload_n dX10_numbers_47 rfl rfl ⟨Nat.le_of_ble_eq_true rfl, Nat.le_of_ble_eq_true rfl⟩ ?_
        refine WP_getfield (ci := 10) (j := 46) (n := 49) (t := 2) (x := 209) dX10_numbers_48 f_X10_95 k_183 rfl rfl ?_
        refine WP_iload_n dX10_numbers_51 rfl rfl ?_
        refine WP_iload_n dX10_numbers_52 rfl rfl ?_
        obtain ⟨g11, h⟩ := h
        refine WQ_iast (n := 4) dX10_numbers_53 k_209 g11 (fun μ12 eμ12 => ?_)
        replace h := h μ12 eμ12
        refine WP_aload_n dX10_numbers_54 rfl rfl ⟨Nat.le_of_ble_eq_true rfl, Nat.le_of_ble_eq_true rfl⟩ ?_
        refine WP_getfield (ci := 10) (j := 47) (n := 49) (t := 2) (x := 210) dX10_numbers_55 f_X10_98 k_183 rfl rfl ?_
        refine WP_iload_n dX10_numbers_58 rfl rfl ?_
        refine WP_iload_n dX10_numbers_59 rfl rfl ?_
        obtain ⟨g13, h⟩ := h
        refine WQ_iast (n := 4) dX10_numbers_60 k_210 g13 (fun μ14 eμ14 => ?_)
        replace h := h μ14 eμ14
        refine WP_iconst dX10_numbers_61 (by decide) ?_
        refine WP_istore (L' := [(2, 183), (0, a1), (0, a2), (0, a3), (0, 0)]) dX10_numbers_62 (by decide) rfl ?_
        refine WP_lforget (L' := [(2, 183), (0, a1), (9, 0), (0, a3), (0, 0)]) rfl (fun i hi => ?_) h
        match i, hi with
        | 0, _ => exact Or.inl rfl
        | 1, _ => exact Or.inl rfl
        | 2, _ => exact Or.inr rfl
        | 3, _ => exact Or.inl rfl
        | 4, _ => exact Or.inl rfl
        | i + 5, hi => exact absurd hi (by simp only [List.length_cons, List.length_nil]; omega)
      · replace h := h.2 c10
        refine WP_bipush dX10_numbers_44 (by decide +kernel) (by decide) ?_
        exact WQ_ireturn dX10_numbers_46 rfl h
    · replace h := h.2 c7
      refine WP_bipush dX10_numbers_29 (by decide +kernel) (by decide) ?_
      exact WQ_ireturn dX10_numbers_31 rfl h

theorem s_X10_numbers_64 {d : Nat} {sc : SC} {Q : Int → Mem → Prop} {μ : Mem} {x1 x3 x4 : Int}
    (h : (x3 ≤ x4 → Q 0 μ) ∧ (x4 < x3 → (-2147483648 ≤ 40 * x1 ∧ 40 * x1 < 2147483648) ∧ (-2147483648 ≤ (40 * x1) + x4 ∧ (40 * x1) + x4 < 2147483648) ∧ (0 ≤ (40 * x1) + x4 ∧ (40 * x1) + x4 < 160) ∧ (∀ μ5, μ5 = mup μ 211 ((40 * x1) + x4) 0 → (-2147483648 ≤ x4 + 1 ∧ x4 + 1 < 2147483648) ∧ ∀ v7 : Int, v7 = x4 + 1 → WQ mX10_numbers d sc (ZI sc Q) 64 [(2, 183), (0, x1), (9, 0), (0, x3), (0, v7)] [] μ5))) :
    WQ mX10_numbers d sc (ZI sc Q) 64 [(2, 183), (0, x1), (9, 0), (0, x3), (0, x4)] [] μ := by
  refine WP_iload dX10_numbers_64 rfl ?_
  refine WP_iload_n dX10_numbers_66 rfl rfl ?_
  refine WQ_icmp_ge (tgt := 89) dX10_numbers_67 (by decide) (fun c1 => ?_) (fun c1 => ?_)
  · replace h := h.1 c1
    refine WP_iconst dX10_numbers_89 (by decide) ?_
    exact WQ_ireturn dX10_numbers_90 rfl h
  · replace h := h.2 c1
    refine WP_aload_n dX10_numbers_70 rfl rfl ⟨Nat.le_of_ble_eq_true rfl, Nat.le_of_ble_eq_true rfl⟩ ?_
    refine WP_getfield (ci := 10) (j := 48) (n := 49) (t := 2) (x := 211) dX10_numbers_71 f_X10_101 k_183 rfl rfl ?_
    refine WP_bipush dX10_numbers_74 (by decide +kernel) (by decide) ?_
    refine WP_iload_n dX10_numbers_76 rfl rfl ?_
    obtain ⟨g2, h⟩ := h
    refine WP_imul dX10_numbers_77 g2 ?_
    refine WP_iload dX10_numbers_78 rfl ?_
    obtain ⟨g3, h⟩ := h
    refine WP_iadd dX10_numbers_80 g3 ?_
    refine WP_lconst dX10_numbers_81 rfl ?_
    obtain ⟨g4, h⟩ := h
    refine WQ_last (n := 160) dX10_numbers_82 k_211 g4 (fun μ5 eμ5 => ?_)
    replace h := h μ5 eμ5
    obtain ⟨g6, h⟩ := h
    refine WQ_iinc dX10_numbers_83 rfl (by decide) g6 (fun v7 e7 => ?_)
    refine WP_same (L' := [(2, 183), (0, x1), (9, 0), (0, x3), (0, v7)]) rfl ?_
    replace h := h v7 e7
    refine WP_goto (tgt := 64) dX10_numbers_86 (by decide) ?_
    exact h

theorem s_X10_oneGap_0 {d : Nat} {sc : SC} {Q : Int → Mem → Prop} {μ : Mem} {a1 a2 : Int}
    (h : WQ mX10_oneGap d sc (ZI sc Q) 5 [(2, 183), (0, a1), (0, a2), (0, (-1)), (0, 0), (9, 0)] [] μ) :
    WQ mX10_oneGap d sc (ZI sc Q) 0 [(2, 183), (0, a1), (0, a2), (9, 0), (9, 0), (9, 0)] [] μ := by
  refine WP_iconst dX10_oneGap_0 (by decide) ?_
  refine WP_istore_n (L' := [(2, 183), (0, a1), (0, a2), (0, (-1)), (9, 0), (9, 0)]) dX10_oneGap_1 rfl (by decide) rfl ?_
  refine WP_iconst dX10_oneGap_2 (by decide) ?_
  refine WP_istore (L' := [(2, 183), (0, a1), (0, a2), (0, (-1)), (0, 0), (9, 0)]) dX10_oneGap_3 (by decide) rfl ?_
  exact h

theorem s_X10_oneGap_5 {d : Nat} {sc : SC} {Q : Int → Mem → Prop} {μ : Mem} {x1 x2 x3 x4 : Int}
    (h : (μ 184 3 ≤ x4 → Q x3 μ) ∧ (x4 < μ 184 3 → (x4 = x1 → (-2147483648 ≤ x4 + 1 ∧ x4 + 1 < 2147483648) ∧ ∀ v5 : Int, v5 = x4 + 1 → WQ mX10_oneGap d sc (ZI sc Q) 5 [(2, 183), (0, x1), (0, x2), (0, x3), (0, v5), (9, 0)] [] μ) ∧ (x4 ≠ x1 → CAi mX10_isIn d sc [(1, x2), (0, x4)] μ (fun r6 μ7 => (r6 ≠ 0 → CAi mX10_gapOf d sc [(2, 183), (0, x1), (0, x4)] μ7 (fun r9 μ10 => (x3 = (-1) → (-2147483648 ≤ x4 + 1 ∧ x4 + 1 < 2147483648) ∧ ∀ v13 : Int, v13 = x4 + 1 → WQ mX10_oneGap d sc (ZI sc Q) 5 [(2, 183), (0, x1), (0, x2), (0, r9), (0, v13), (9, 0)] [] μ10) ∧ (x3 ≠ (-1) → (r9 = x3 → (-2147483648 ≤ x4 + 1 ∧ x4 + 1 < 2147483648) ∧ ∀ v16 : Int, v16 = x4 + 1 → WQ mX10_oneGap d sc (ZI sc Q) 5 [(2, 183), (0, x1), (0, x2), (0, r9), (0, v16), (9, 0)] [] μ10) ∧ (r9 ≠ x3 → Q (-1) μ10)))) ∧ (r6 = 0 → (-2147483648 ≤ x4 + 1 ∧ x4 + 1 < 2147483648) ∧ ∀ v18 : Int, v18 = x4 + 1 → WQ mX10_oneGap d sc (ZI sc Q) 5 [(2, 183), (0, x1), (0, x2), (0, x3), (0, v18), (9, 0)] [] μ7))))) :
    WQ mX10_oneGap d sc (ZI sc Q) 5 [(2, 183), (0, x1), (0, x2), (0, x3), (0, x4), (9, 0)] [] μ := by
  refine WP_iload dX10_oneGap_5 rfl ?_
  refine WP_aload_n dX10_oneGap_7 rfl rfl ⟨Nat.le_of_ble_eq_true rfl, Nat.le_of_ble_eq_true rfl⟩ ?_
  refine WP_getfield (ci := 10) (j := 1) (n := 49) (t := 2) (x := 184) dX10_oneGap_8 f_X10_13 k_183 rfl rfl ?_
  refine WP_iconst dX10_oneGap_11 (by decide) ?_
  refine WP_iaload (n := 4119) dX10_oneGap_12 k_184 ⟨by decide, by decide⟩ ?_
  refine WQ_icmp_ge (tgt := 66) dX10_oneGap_13 (by decide) (fun c2 => ?_) (fun c2 => ?_)
  · replace h := h.1 c2
    refine WP_iload_n dX10_oneGap_66 rfl rfl ?_
    exact WQ_ireturn dX10_oneGap_67 rfl h
  · replace h := h.2 c2
    refine WP_iload dX10_oneGap_16 rfl ?_
    refine WP_iload_n dX10_oneGap_18 rfl rfl ?_
    refine WQ_icmp_eq (tgt := 60) dX10_oneGap_19 (by decide) (fun c3 => ?_) (fun c3 => ?_)
    · replace h := h.1 c3
      obtain ⟨g4, h⟩ := h
      refine WQ_iinc dX10_oneGap_60 rfl (by decide) g4 (fun v5 e5 => ?_)
      refine WP_same (L' := [(2, 183), (0, x1), (0, x2), (0, x3), (0, v5), (9, 0)]) rfl ?_
      replace h := h v5 e5
      refine WP_goto (tgt := 5) dX10_oneGap_63 (by decide) ?_
      exact h
    · replace h := h.2 c3
      refine WP_iload_n dX10_oneGap_22 rfl rfl ?_
      refine WP_i2l dX10_oneGap_23 ?_
      refine WP_iload dX10_oneGap_24 rfl ?_
      refine WQ_invSi (as := [(1, x2), (0, x4)]) dX10_oneGap_26 l_X10_276 mw_X10_isIn mt_X10_isIn mo_X10_isIn (Nat.le_of_ble_eq_true rfl) h rfl (fun r6 μ7 h => ?_)
      refine WQ_ifne (tgt := 35) dX10_oneGap_29 (by decide) (fun c8 => ?_) (fun c8 => ?_)
      · replace h := h.1 c8
        refine WP_aload_n dX10_oneGap_35 rfl rfl ⟨Nat.le_of_ble_eq_true rfl, Nat.le_of_ble_eq_true rfl⟩ ?_
        refine WP_iload_n dX10_oneGap_36 rfl rfl ?_
        refine WP_iload dX10_oneGap_37 rfl ?_
        refine WQ_invVi (v := (2, 183)) (as := [(0, x1), (0, x4)]) dX10_oneGap_39 l_X10_263 mw_X10_gapOf mi_X10_gapOf ms_X10_gapOf mo_X10_gapOf (rcv (ci := 10) (n := 49) (r := (RX10, TX10, 49)) k_183 rfl rfl) (Nat.le_of_ble_eq_true rfl) h rfl (fun r9 μ10 h => ?_)
        refine WP_istore (L' := [(2, 183), (0, x1), (0, x2), (0, x3), (0, x4), (0, r9)]) dX10_oneGap_42 (by decide) rfl ?_
        refine WP_iload_n dX10_oneGap_44 rfl rfl ?_
        refine WP_iconst dX10_oneGap_45 (by decide) ?_
        refine WQ_icmp_eq (tgt := 57) dX10_oneGap_46 (by decide) (fun c11 => ?_) (fun c11 => ?_)
        · replace h := h.1 c11
          refine WP_iload dX10_oneGap_57 rfl ?_
          refine WP_istore_n (L' := [(2, 183), (0, x1), (0, x2), (0, r9), (0, x4), (0, r9)]) dX10_oneGap_59 rfl (by decide) rfl ?_
          obtain ⟨g12, h⟩ := h
          refine WQ_iinc dX10_oneGap_60 rfl (by decide) g12 (fun v13 e13 => ?_)
          refine WP_same (L' := [(2, 183), (0, x1), (0, x2), (0, r9), (0, v13), (0, r9)]) rfl ?_
          replace h := h v13 e13
          refine WP_goto (tgt := 5) dX10_oneGap_63 (by decide) ?_
          refine WP_lforget (L' := [(2, 183), (0, x1), (0, x2), (0, r9), (0, v13), (9, 0)]) rfl (fun i hi => ?_) h
          match i, hi with
          | 0, _ => exact Or.inl rfl
          | 1, _ => exact Or.inl rfl
          | 2, _ => exact Or.inl rfl
          | 3, _ => exact Or.inl rfl
          | 4, _ => exact Or.inl rfl
          | 5, _ => exact Or.inr rfl
          | i + 6, hi => exact absurd hi (by simp only [List.length_cons, List.length_nil]; omega)
        · replace h := h.2 c11
          refine WP_iload dX10_oneGap_49 rfl ?_
          refine WP_iload_n dX10_oneGap_51 rfl rfl ?_
          refine WQ_icmp_eq (tgt := 57) dX10_oneGap_52 (by decide) (fun c14 => ?_) (fun c14 => ?_)
          · replace h := h.1 c14
            refine WP_iload dX10_oneGap_57 rfl ?_
            refine WP_istore_n (L' := [(2, 183), (0, x1), (0, x2), (0, r9), (0, x4), (0, r9)]) dX10_oneGap_59 rfl (by decide) rfl ?_
            obtain ⟨g15, h⟩ := h
            refine WQ_iinc dX10_oneGap_60 rfl (by decide) g15 (fun v16 e16 => ?_)
            refine WP_same (L' := [(2, 183), (0, x1), (0, x2), (0, r9), (0, v16), (0, r9)]) rfl ?_
            replace h := h v16 e16
            refine WP_goto (tgt := 5) dX10_oneGap_63 (by decide) ?_
            refine WP_lforget (L' := [(2, 183), (0, x1), (0, x2), (0, r9), (0, v16), (9, 0)]) rfl (fun i hi => ?_) h
            match i, hi with
            | 0, _ => exact Or.inl rfl
            | 1, _ => exact Or.inl rfl
            | 2, _ => exact Or.inl rfl
            | 3, _ => exact Or.inl rfl
            | 4, _ => exact Or.inl rfl
            | 5, _ => exact Or.inr rfl
            | i + 6, hi => exact absurd hi (by simp only [List.length_cons, List.length_nil]; omega)
          · replace h := h.2 c14
            refine WP_iconst dX10_oneGap_55 (by decide) ?_
            exact WQ_ireturn dX10_oneGap_56 rfl h
      · replace h := h.2 c8
        refine WP_goto (tgt := 60) dX10_oneGap_32 (by decide) ?_
        obtain ⟨g17, h⟩ := h
        refine WQ_iinc dX10_oneGap_60 rfl (by decide) g17 (fun v18 e18 => ?_)
        refine WP_same (L' := [(2, 183), (0, x1), (0, x2), (0, x3), (0, v18), (9, 0)]) rfl ?_
        replace h := h v18 e18
        refine WP_goto (tgt := 5) dX10_oneGap_63 (by decide) ?_
        exact h

theorem s_X10_part_0 {d : Nat} {sc : SC} {Q : Int → Mem → Prop} {μ : Mem} {a0 a2 a4 : Int}
    (h : (a4 ≠ 0 → CAl mX10_common d sc [(1, a0), (1, a2)] μ (fun r2 μ3 => (0 ≤ a2 ∧ 0 < r2) ∧ Q (a2 / r2) μ3)) ∧ (a4 = 0 → CAl mX10_common d sc [(1, a0), (1, a2)] μ (fun r5 μ6 => (0 ≤ a0 ∧ 0 < r5) ∧ Q (a0 / r5) μ6))) :
    WQ mX10_part d sc (ZL sc Q) 0 [(1, a0), (9, 0), (1, a2), (9, 0), (0, a4)] [] μ := by
  refine WP_iload dX10_part_0 rfl ?_
  refine WQ_ifne (tgt := 9) dX10_part_2 (by decide) (fun c1 => ?_) (fun c1 => ?_)
  · replace h := h.1 c1
    refine WP_lload_n dX10_part_9 rfl rfl ?_
    refine WP_lload_n dX10_part_10 rfl rfl ?_
    refine WP_lload_n dX10_part_11 rfl rfl ?_
    refine WQ_invSl (as := [(1, a0), (1, a2)]) dX10_part_12 l_X10_458 mw_X10_common mt_X10_common mo_X10_common (Nat.le_of_ble_eq_true rfl) h rfl (fun r2 μ3 h => ?_)
    obtain ⟨g4, h⟩ := h
    refine WP_ldiv dX10_part_15 g4 ?_
    exact WQ_lreturn dX10_part_16 rfl h
  · replace h := h.2 c1
    refine WP_lload_n dX10_part_5 rfl rfl ?_
    refine WP_goto (tgt := 10) dX10_part_6 (by decide) ?_
    refine WP_lload_n dX10_part_10 rfl rfl ?_
    refine WP_lload_n dX10_part_11 rfl rfl ?_
    refine WQ_invSl (as := [(1, a0), (1, a2)]) dX10_part_12 l_X10_458 mw_X10_common mt_X10_common mo_X10_common (Nat.le_of_ble_eq_true rfl) h rfl (fun r5 μ6 h => ?_)
    obtain ⟨g7, h⟩ := h
    refine WP_ldiv dX10_part_15 g7 ?_
    exact WQ_lreturn dX10_part_16 rfl h

theorem s_X10_perform_0 {d : Nat} {sc : SC} {Q : Int → Mem → Prop} {μ : Mem} {a1 : Int}
    (h : ∀ μ1, μ1 = mup μ 183 0 0 → CAi mX10_noTray d sc [(2, 183), (0, a1)] μ1 (fun r2 μ3 => (r2 = 0 → CAv mX10_stores d sc [(2, 183)] μ3 (fun μ6 => CAi mX10_tells d sc [(2, 183), (0, a1)] μ6 (fun r7 μ8 => (r7 ≤ 0 → Q r7 μ8) ∧ (0 < r7 → CAv mX10_notes d sc [(2, 183)] μ8 (fun μ11 => Q r7 μ11))))) ∧ (r2 ≠ 0 → Q r2 μ3))) :
    WQ mX10_perform d sc (ZI sc Q) 0 [(2, 183), (0, a1), (9, 0), (9, 0)] [] μ := by
  refine WP_aload_n dX10_perform_0 rfl rfl ⟨Nat.le_of_ble_eq_true rfl, Nat.le_of_ble_eq_true rfl⟩ ?_
  refine WP_iconst dX10_perform_1 (by decide) ?_
  refine WQ_put (ci := 10) (j := 0) (n := 49) dX10_perform_2 f_X10_1 k_183 rfl (fun μ1 eμ1 => ?_)
  replace h := h μ1 eμ1
  refine WP_aload_n dX10_perform_5 rfl rfl ⟨Nat.le_of_ble_eq_true rfl, Nat.le_of_ble_eq_true rfl⟩ ?_
  refine WP_iload_n dX10_perform_6 rfl rfl ?_
  refine WQ_invVi (v := (2, 183)) (as := [(0, a1)]) dX10_perform_7 l_X10_372 mw_X10_noTray mi_X10_noTray ms_X10_noTray mo_X10_noTray (rcv (ci := 10) (n := 49) (r := (RX10, TX10, 49)) k_183 rfl rfl) (Nat.le_of_ble_eq_true rfl) h rfl (fun r2 μ3 h => ?_)
  refine WP_istore_n (L' := [(2, 183), (0, a1), (0, r2), (9, 0)]) dX10_perform_10 rfl (by decide) rfl ?_
  refine WP_iload_n dX10_perform_11 rfl rfl ?_
  refine WQ_ifeq (tgt := 17) dX10_perform_12 (by decide) (fun c4 => ?_) (fun c4 => ?_)
  · replace h := h.1 c4
    refine WP_aload_n dX10_perform_17 rfl rfl ⟨Nat.le_of_ble_eq_true rfl, Nat.le_of_ble_eq_true rfl⟩ ?_
    refine WQ_invVv (v := (2, 183)) (as := []) dX10_perform_18 l_X10_320 mw_X10_stores mi_X10_stores ms_X10_stores mo_X10_stores (rcv (ci := 10) (n := 49) (r := (RX10, TX10, 49)) k_183 rfl rfl) (Nat.le_of_ble_eq_true rfl) h rfl (fun μ6 h => ?_)
    refine WP_aload_n dX10_perform_21 rfl rfl ⟨Nat.le_of_ble_eq_true rfl, Nat.le_of_ble_eq_true rfl⟩ ?_
    refine WP_iload_n dX10_perform_22 rfl rfl ?_
    refine WQ_invVi (v := (2, 183)) (as := [(0, a1)]) dX10_perform_23 l_X10_375 mw_X10_tells mi_X10_tells ms_X10_tells mo_X10_tells (rcv (ci := 10) (n := 49) (r := (RX10, TX10, 49)) k_183 rfl rfl) (Nat.le_of_ble_eq_true rfl) h rfl (fun r7 μ8 h => ?_)
    refine WP_istore_n (L' := [(2, 183), (0, a1), (0, r2), (0, r7)]) dX10_perform_26 rfl (by decide) rfl ?_
    refine WP_iload_n dX10_perform_27 rfl rfl ?_
    refine WQ_ifle (tgt := 35) dX10_perform_28 (by decide) (fun c9 => ?_) (fun c9 => ?_)
    · replace h := h.1 c9
      refine WP_iload_n dX10_perform_35 rfl rfl ?_
      exact WQ_ireturn dX10_perform_36 rfl h
    · replace h := h.2 c9
      refine WP_aload_n dX10_perform_31 rfl rfl ⟨Nat.le_of_ble_eq_true rfl, Nat.le_of_ble_eq_true rfl⟩ ?_
      refine WQ_invVv (v := (2, 183)) (as := []) dX10_perform_32 l_X10_326 mw_X10_notes mi_X10_notes ms_X10_notes mo_X10_notes (rcv (ci := 10) (n := 49) (r := (RX10, TX10, 49)) k_183 rfl rfl) (Nat.le_of_ble_eq_true rfl) h rfl (fun μ11 h => ?_)
      refine WP_iload_n dX10_perform_35 rfl rfl ?_
      exact WQ_ireturn dX10_perform_36 rfl h
  · replace h := h.2 c4
    refine WP_iload_n dX10_perform_15 rfl rfl ?_
    exact WQ_ireturn dX10_perform_16 rfl h

theorem s_X10_person_0 {d : Nat} {sc : SC} {Q : Int → Mem → Prop} {μ : Mem} {a1 a2 : Int}
    (h : ∀ μ1, μ1 = mup μ 183 0 0 → CAi mX10_isPerson d sc [(2, 183), (1, a1)] μ1 (fun r2 μ3 => (r2 ≠ 0 → (a2 = 0 → (-2147483648 ≤ 64 + a1 ∧ 64 + a1 < 2147483648) ∧ (0 ≤ 64 + a1 ∧ 64 + a1 < 4119) ∧ Q (μ3 184 (64 + a1)) μ3) ∧ (a2 = 1 → (-2147483648 ≤ 13 + a1 ∧ 13 + a1 < 2147483648) ∧ (0 ≤ 13 + a1 ∧ 13 + a1 < 4119) ∧ Q (μ3 184 (13 + a1)) μ3) ∧ (a2 = 2 → (-2147483648 ≤ 19 + a1 ∧ 19 + a1 < 2147483648) ∧ (0 ≤ 19 + a1 ∧ 19 + a1 < 4119) ∧ Q (μ3 184 (19 + a1)) μ3) ∧ (a2 = 3 → (-2147483648 ≤ 25 + a1 ∧ 25 + a1 < 2147483648) ∧ (0 ≤ 25 + a1 ∧ 25 + a1 < 4119) ∧ Q (μ3 184 (25 + a1)) μ3) ∧ ((a2 ≠ 0 ∧ a2 ≠ 1 ∧ a2 ≠ 2 ∧ a2 ≠ 3) → Q (-2) μ3)) ∧ (r2 = 0 → Q (-2) μ3))) :
    WQ mX10_person d sc (ZI sc Q) 0 [(2, 183), (0, a1), (0, a2)] [] μ := by
  refine WP_aload_n dX10_person_0 rfl rfl ⟨Nat.le_of_ble_eq_true rfl, Nat.le_of_ble_eq_true rfl⟩ ?_
  refine WP_iconst dX10_person_1 (by decide) ?_
  refine WQ_put (ci := 10) (j := 0) (n := 49) dX10_person_2 f_X10_1 k_183 rfl (fun μ1 eμ1 => ?_)
  replace h := h μ1 eμ1
  refine WP_aload_n dX10_person_5 rfl rfl ⟨Nat.le_of_ble_eq_true rfl, Nat.le_of_ble_eq_true rfl⟩ ?_
  refine WP_iload_n dX10_person_6 rfl rfl ?_
  refine WP_i2l dX10_person_7 ?_
  refine WQ_invVi (v := (2, 183)) (as := [(1, a1)]) dX10_person_8 l_X10_235 mw_X10_isPerson mi_X10_isPerson ms_X10_isPerson mo_X10_isPerson (rcv (ci := 10) (n := 49) (r := (RX10, TX10, 49)) k_183 rfl rfl) (Nat.le_of_ble_eq_true rfl) h rfl (fun r2 μ3 h => ?_)
  refine WQ_ifne (tgt := 17) dX10_person_11 (by decide) (fun c4 => ?_) (fun c4 => ?_)
  · replace h := h.1 c4
    refine WP_iload_n dX10_person_17 rfl rfl ?_
    have hD : (a2 ≠ 0 ∧ a2 ≠ 1 ∧ a2 ≠ 2 ∧ a2 ≠ 3) → WQ mX10_person d sc (ZI sc Q) 88 [(2, 183), (0, a1), (0, a2)] [] μ3 := by
      intro c5
      replace h := h.2.2.2.2 c5
      refine WP_bipush dX10_person_88 (by decide +kernel) (by decide) ?_
      exact WQ_ireturn dX10_person_90 rfl h
    rcases (show (a2 < 0 ∨ 3 < a2) ∨ a2 = 0 ∨ a2 = 1 ∨ a2 = 2 ∨ a2 = 3 by omega) with c5 | c5 | c5 | c5 | c5
    · exact WP_tableOut (tgt := 88) dX10_person_18 c5 (by decide) (hD (by omega))
    · refine WP_tableIn (tgt := 48) dX10_person_18 (by omega) (by omega) (by rw [c5]; rfl) (by decide) ?_
      replace h := h.1 c5
      refine WP_aload_n dX10_person_48 rfl rfl ⟨Nat.le_of_ble_eq_true rfl, Nat.le_of_ble_eq_true rfl⟩ ?_
      refine WP_getfield (ci := 10) (j := 1) (n := 49) (t := 2) (x := 184) dX10_person_49 f_X10_13 k_183 rfl rfl ?_
      refine WP_bipush dX10_person_52 (by decide +kernel) (by decide) ?_
      refine WP_iload_n dX10_person_54 rfl rfl ?_
      obtain ⟨g6, h⟩ := h
      refine WP_iadd dX10_person_55 g6 ?_
      obtain ⟨g7, h⟩ := h
      refine WP_iaload (n := 4119) dX10_person_56 k_184 g7 ?_
      exact WQ_ireturn dX10_person_57 rfl h
    · refine WP_tableIn (tgt := 58) dX10_person_18 (by omega) (by omega) (by rw [c5]; rfl) (by decide) ?_
      replace h := h.2.1 c5
      refine WP_aload_n dX10_person_58 rfl rfl ⟨Nat.le_of_ble_eq_true rfl, Nat.le_of_ble_eq_true rfl⟩ ?_
      refine WP_getfield (ci := 10) (j := 1) (n := 49) (t := 2) (x := 184) dX10_person_59 f_X10_13 k_183 rfl rfl ?_
      refine WP_bipush dX10_person_62 (by decide +kernel) (by decide) ?_
      refine WP_iload_n dX10_person_64 rfl rfl ?_
      obtain ⟨g8, h⟩ := h
      refine WP_iadd dX10_person_65 g8 ?_
      obtain ⟨g9, h⟩ := h
      refine WP_iaload (n := 4119) dX10_person_66 k_184 g9 ?_
      exact WQ_ireturn dX10_person_67 rfl h
    · refine WP_tableIn (tgt := 68) dX10_person_18 (by omega) (by omega) (by rw [c5]; rfl) (by decide) ?_
      replace h := h.2.2.1 c5
      refine WP_aload_n dX10_person_68 rfl rfl ⟨Nat.le_of_ble_eq_true rfl, Nat.le_of_ble_eq_true rfl⟩ ?_
      refine WP_getfield (ci := 10) (j := 1) (n := 49) (t := 2) (x := 184) dX10_person_69 f_X10_13 k_183 rfl rfl ?_
      refine WP_bipush dX10_person_72 (by decide +kernel) (by decide) ?_
      refine WP_iload_n dX10_person_74 rfl rfl ?_
      obtain ⟨g10, h⟩ := h
      refine WP_iadd dX10_person_75 g10 ?_
      obtain ⟨g11, h⟩ := h
      refine WP_iaload (n := 4119) dX10_person_76 k_184 g11 ?_
      exact WQ_ireturn dX10_person_77 rfl h
    · refine WP_tableIn (tgt := 78) dX10_person_18 (by omega) (by omega) (by rw [c5]; rfl) (by decide) ?_
      replace h := h.2.2.2.1 c5
      refine WP_aload_n dX10_person_78 rfl rfl ⟨Nat.le_of_ble_eq_true rfl, Nat.le_of_ble_eq_true rfl⟩ ?_
      refine WP_getfield (ci := 10) (j := 1) (n := 49) (t := 2) (x := 184) dX10_person_79 f_X10_13 k_183 rfl rfl ?_
      refine WP_bipush dX10_person_82 (by decide +kernel) (by decide) ?_
      refine WP_iload_n dX10_person_84 rfl rfl ?_
      obtain ⟨g12, h⟩ := h
      refine WP_iadd dX10_person_85 g12 ?_
      obtain ⟨g13, h⟩ := h
      refine WP_iaload (n := 4119) dX10_person_86 k_184 g13 ?_
      exact WQ_ireturn dX10_person_87 rfl h
  · replace h := h.2 c4
    refine WP_bipush dX10_person_14 (by decide +kernel) (by decide) ?_
    exact WQ_ireturn dX10_person_16 rfl h

theorem s_X10_pitchOf_0 {d : Nat} {sc : SC} {Q : Int → Mem → Prop} {μ : Mem} {a1 a2 : Int}
    (h : (μ 184 5 ≠ 1 → (-2147483648 ≤ 25 + a1 ∧ 25 + a1 < 2147483648) ∧ (0 ≤ 25 + a1 ∧ 25 + a1 < 4119) ∧ CAi mX10_kept d sc [(0, μ 184 (25 + a1)), (0, 0), (0, 9)] μ (fun r5 μ6 => Q r5 μ6)) ∧ (μ 184 5 = 1 → CAi mX10_reckons d sc [(2, 183), (0, 1), (0, a1), (0, a2)] μ (fun r7 μ8 => CAi mX10_kept d sc [(0, r7), (0, 0), (0, 9)] μ8 (fun r9 μ10 => Q r9 μ10)))) :
    WQ mX10_pitchOf d sc (ZI sc Q) 0 [(2, 183), (0, a1), (0, a2)] [] μ := by
  refine WP_aload_n dX10_pitchOf_0 rfl rfl ⟨Nat.le_of_ble_eq_true rfl, Nat.le_of_ble_eq_true rfl⟩ ?_
  refine WP_getfield (ci := 10) (j := 1) (n := 49) (t := 2) (x := 184) dX10_pitchOf_1 f_X10_13 k_183 rfl rfl ?_
  refine WP_iconst dX10_pitchOf_4 (by decide) ?_
  refine WP_iaload (n := 4119) dX10_pitchOf_5 k_184 ⟨by decide, by decide⟩ ?_
  refine WP_iconst dX10_pitchOf_6 (by decide) ?_
  refine WQ_icmp_ne (tgt := 20) dX10_pitchOf_7 (by decide) (fun c2 => ?_) (fun c2 => ?_)
  · replace h := h.1 c2
    refine WP_aload_n dX10_pitchOf_20 rfl rfl ⟨Nat.le_of_ble_eq_true rfl, Nat.le_of_ble_eq_true rfl⟩ ?_
    refine WP_getfield (ci := 10) (j := 1) (n := 49) (t := 2) (x := 184) dX10_pitchOf_21 f_X10_13 k_183 rfl rfl ?_
    refine WP_bipush dX10_pitchOf_24 (by decide +kernel) (by decide) ?_
    refine WP_iload_n dX10_pitchOf_26 rfl rfl ?_
    obtain ⟨g3, h⟩ := h
    refine WP_iadd dX10_pitchOf_27 g3 ?_
    obtain ⟨g4, h⟩ := h
    refine WP_iaload (n := 4119) dX10_pitchOf_28 k_184 g4 ?_
    refine WP_iconst dX10_pitchOf_29 (by decide) ?_
    refine WP_bipush dX10_pitchOf_30 (by decide +kernel) (by decide) ?_
    refine WQ_invSi (as := [(0, μ 184 (25 + a1)), (0, 0), (0, 9)]) dX10_pitchOf_32 l_X10_256 mw_X10_kept mt_X10_kept mo_X10_kept (Nat.le_of_ble_eq_true rfl) h rfl (fun r5 μ6 h => ?_)
    exact WQ_ireturn dX10_pitchOf_35 rfl h
  · replace h := h.2 c2
    refine WP_aload_n dX10_pitchOf_10 rfl rfl ⟨Nat.le_of_ble_eq_true rfl, Nat.le_of_ble_eq_true rfl⟩ ?_
    refine WP_iconst dX10_pitchOf_11 (by decide) ?_
    refine WP_iload_n dX10_pitchOf_12 rfl rfl ?_
    refine WP_iload_n dX10_pitchOf_13 rfl rfl ?_
    refine WQ_invVi (v := (2, 183)) (as := [(0, 1), (0, a1), (0, a2)]) dX10_pitchOf_14 l_X10_253 mw_X10_reckons mi_X10_reckons ms_X10_reckons mo_X10_reckons (rcv (ci := 10) (n := 49) (r := (RX10, TX10, 49)) k_183 rfl rfl) (Nat.le_of_ble_eq_true rfl) h rfl (fun r7 μ8 h => ?_)
    refine WP_goto (tgt := 29) dX10_pitchOf_17 (by decide) ?_
    refine WP_iconst dX10_pitchOf_29 (by decide) ?_
    refine WP_bipush dX10_pitchOf_30 (by decide +kernel) (by decide) ?_
    refine WQ_invSi (as := [(0, r7), (0, 0), (0, 9)]) dX10_pitchOf_32 l_X10_256 mw_X10_kept mt_X10_kept mo_X10_kept (Nat.le_of_ble_eq_true rfl) h rfl (fun r9 μ10 h => ?_)
    exact WQ_ireturn dX10_pitchOf_35 rfl h

theorem s_X10_plain_0 {d : Nat} {sc : SC} {Q : Mem → Prop} {μ : Mem} {a0 : Int} {n0 : Nat} (ha0 : kd0 a0 = some (0, n0))
    (h : WQ mX10_plain d sc (ZV sc Q) 2 [(2, a0), (0, 0)] [] μ) :
    WQ mX10_plain d sc (ZV sc Q) 0 [(2, a0), (9, 0)] [] μ := by
  refine WP_iconst dX10_plain_0 (by decide) ?_
  refine WP_istore_n (L' := [(2, a0), (0, 0)]) dX10_plain_1 rfl (by decide) rfl ?_
  exact h

theorem s_X10_plain_2 {d : Nat} {sc : SC} {Q : Mem → Prop} {μ : Mem} {x0 x1 : Int} {n0 : Nat} (hx0 : kd0 x0 = some (0, n0))
    (h : (1373 ≤ x1 → ((0 : Int) ≤ 1 ∧ 1 < (n0 : Int)) ∧ (∀ μ3, μ3 = mup μ x0 1 1 → ((0 : Int) ≤ 2 ∧ 2 < (n0 : Int)) ∧ (∀ μ5, μ5 = mup μ3 x0 2 1 → Q μ5))) ∧ (x1 < 1373 → (0 ≤ x1 ∧ x1 < (n0 : Int)) ∧ (∀ μ7, μ7 = mup μ x0 x1 0 → (-2147483648 ≤ x1 + 1 ∧ x1 + 1 < 2147483648) ∧ ∀ v9 : Int, v9 = x1 + 1 → WQ mX10_plain d sc (ZV sc Q) 2 [(2, x0), (0, v9)] [] μ7))) :
    WQ mX10_plain d sc (ZV sc Q) 2 [(2, x0), (0, x1)] [] μ := by
  refine WP_iload_n dX10_plain_2 rfl rfl ?_
  refine WP_sipush dX10_plain_3 (by decide +kernel) (by decide) ?_
  refine WQ_icmp_ge (tgt := 19) dX10_plain_6 (by decide) (fun c1 => ?_) (fun c1 => ?_)
  · replace h := h.1 c1
    refine WP_aload_n dX10_plain_19 rfl rfl ⟨Nat.le_of_ble_eq_true rfl, Nat.le_of_ble_eq_true rfl⟩ ?_
    refine WP_iconst dX10_plain_20 (by decide) ?_
    refine WP_iconst dX10_plain_21 (by decide) ?_
    obtain ⟨g2, h⟩ := h
    refine WQ_iast (n := n0) dX10_plain_22 hx0 g2 (fun μ3 eμ3 => ?_)
    replace h := h μ3 eμ3
    refine WP_aload_n dX10_plain_23 rfl rfl ⟨Nat.le_of_ble_eq_true rfl, Nat.le_of_ble_eq_true rfl⟩ ?_
    refine WP_iconst dX10_plain_24 (by decide) ?_
    refine WP_iconst dX10_plain_25 (by decide) ?_
    obtain ⟨g4, h⟩ := h
    refine WQ_iast (n := n0) dX10_plain_26 hx0 g4 (fun μ5 eμ5 => ?_)
    replace h := h μ5 eμ5
    exact WQ_return dX10_plain_27 rfl h
  · replace h := h.2 c1
    refine WP_aload_n dX10_plain_9 rfl rfl ⟨Nat.le_of_ble_eq_true rfl, Nat.le_of_ble_eq_true rfl⟩ ?_
    refine WP_iload_n dX10_plain_10 rfl rfl ?_
    refine WP_iconst dX10_plain_11 (by decide) ?_
    obtain ⟨g6, h⟩ := h
    refine WQ_iast (n := n0) dX10_plain_12 hx0 g6 (fun μ7 eμ7 => ?_)
    replace h := h μ7 eμ7
    obtain ⟨g8, h⟩ := h
    refine WQ_iinc dX10_plain_13 rfl (by decide) g8 (fun v9 e9 => ?_)
    refine WP_same (L' := [(2, x0), (0, v9)]) rfl ?_
    replace h := h v9 e9
    refine WP_goto (tgt := 2) dX10_plain_16 (by decide) ?_
    exact h

theorem s_X10_quiet_0 {d : Nat} {sc : SC} {Q : Int → Mem → Prop} {μ : Mem} {a1 a2 : Int}
    (h : ∀ μ1, μ1 = mup μ 183 0 0 → CAi mX10_isPerson d sc [(2, 183), (1, a1)] μ1 (fun r2 μ3 => (r2 = 0 → Q (-2) μ3) ∧ (r2 ≠ 0 → CAi mX10_within d sc [(1, a2), (1, 0), (1, 1)] μ3 (fun r5 μ6 => (r5 ≠ 0 → (-2147483648 ≤ 64 + a1 ∧ 64 + a1 < 2147483648) ∧ (0 ≤ 64 + a1 ∧ 64 + a1 < 4119) ∧ (∀ v10 : Int, v10 = μ6 184 (64 + a1) → WQ mX10_quiet d sc (ZI sc Q) 48 [(2, 183), (0, a1), (0, a2), (0, v10), (0, (-1)), (0, 268435456), (0, 0), (9, 0)] [] μ6)) ∧ (r5 = 0 → Q (-2) μ6))))) :
    WQ mX10_quiet d sc (ZI sc Q) 0 [(2, 183), (0, a1), (0, a2), (9, 0), (9, 0), (9, 0), (9, 0), (9, 0)] [] μ := by
  refine WP_aload_n dX10_quiet_0 rfl rfl ⟨Nat.le_of_ble_eq_true rfl, Nat.le_of_ble_eq_true rfl⟩ ?_
  refine WP_iconst dX10_quiet_1 (by decide) ?_
  refine WQ_put (ci := 10) (j := 0) (n := 49) dX10_quiet_2 f_X10_1 k_183 rfl (fun μ1 eμ1 => ?_)
  replace h := h μ1 eμ1
  refine WP_aload_n dX10_quiet_5 rfl rfl ⟨Nat.le_of_ble_eq_true rfl, Nat.le_of_ble_eq_true rfl⟩ ?_
  refine WP_iload_n dX10_quiet_6 rfl rfl ?_
  refine WP_i2l dX10_quiet_7 ?_
  refine WQ_invVi (v := (2, 183)) (as := [(1, a1)]) dX10_quiet_8 l_X10_235 mw_X10_isPerson mi_X10_isPerson ms_X10_isPerson mo_X10_isPerson (rcv (ci := 10) (n := 49) (r := (RX10, TX10, 49)) k_183 rfl rfl) (Nat.le_of_ble_eq_true rfl) h rfl (fun r2 μ3 h => ?_)
  refine WQ_ifeq (tgt := 24) dX10_quiet_11 (by decide) (fun c4 => ?_) (fun c4 => ?_)
  · replace h := h.1 c4
    refine WP_bipush dX10_quiet_24 (by decide +kernel) (by decide) ?_
    exact WQ_ireturn dX10_quiet_26 rfl h
  · replace h := h.2 c4
    refine WP_iload_n dX10_quiet_14 rfl rfl ?_
    refine WP_i2l dX10_quiet_15 ?_
    refine WP_lconst dX10_quiet_16 rfl ?_
    refine WP_lconst dX10_quiet_17 rfl ?_
    refine WQ_invSi (as := [(1, a2), (1, 0), (1, 1)]) dX10_quiet_18 l_X10_170 mw_X10_within mt_X10_within mo_X10_within (Nat.le_of_ble_eq_true rfl) h rfl (fun r5 μ6 h => ?_)
    refine WQ_ifne (tgt := 27) dX10_quiet_21 (by decide) (fun c7 => ?_) (fun c7 => ?_)
    · replace h := h.1 c7
      refine WP_aload_n dX10_quiet_27 rfl rfl ⟨Nat.le_of_ble_eq_true rfl, Nat.le_of_ble_eq_true rfl⟩ ?_
      refine WP_getfield (ci := 10) (j := 1) (n := 49) (t := 2) (x := 184) dX10_quiet_28 f_X10_13 k_183 rfl rfl ?_
      refine WP_bipush dX10_quiet_31 (by decide +kernel) (by decide) ?_
      refine WP_iload_n dX10_quiet_33 rfl rfl ?_
      obtain ⟨g8, h⟩ := h
      refine WP_iadd dX10_quiet_34 g8 ?_
      obtain ⟨g9, h⟩ := h
      refine WP_iaload (n := 4119) dX10_quiet_35 k_184 g9 ?_
      refine WQ_nm0 (fun v10 e10 => ?_)
      replace h := h v10 e10
      refine WP_istore_n (L' := [(2, 183), (0, a1), (0, a2), (0, v10), (9, 0), (9, 0), (9, 0), (9, 0)]) dX10_quiet_36 rfl (by decide) rfl ?_
      refine WP_iconst dX10_quiet_37 (by decide) ?_
      refine WP_istore (L' := [(2, 183), (0, a1), (0, a2), (0, v10), (0, (-1)), (9, 0), (9, 0), (9, 0)]) dX10_quiet_38 (by decide) rfl ?_
      refine WP_ldcw dX10_quiet_40 c_X10_417 (by decide) ?_
      refine WP_istore (L' := [(2, 183), (0, a1), (0, a2), (0, v10), (0, (-1)), (0, 268435456), (9, 0), (9, 0)]) dX10_quiet_43 (by decide) rfl ?_
      refine WP_iconst dX10_quiet_45 (by decide) ?_
      refine WP_istore (L' := [(2, 183), (0, a1), (0, a2), (0, v10), (0, (-1)), (0, 268435456), (0, 0), (9, 0)]) dX10_quiet_46 (by decide) rfl ?_
      exact h
    · replace h := h.2 c7
      refine WP_bipush dX10_quiet_24 (by decide +kernel) (by decide) ?_
      exact WQ_ireturn dX10_quiet_26 rfl h

theorem s_X10_quiet_48 {d : Nat} {sc : SC} {Q : Int → Mem → Prop} {μ : Mem} {x1 x2 x3 x4 x5 x6 : Int}
    (h : CAi mX10_cellMany d sc [(2, 183)] μ (fun r1 μ2 => (r1 ≤ x6 → ∀ μ4, μ4 = mup μ2 183 19 0 → (-2147483648 ≤ 64 + x1 ∧ 64 + x1 < 2147483648) ∧ (0 ≤ 64 + x1 ∧ 64 + x1 < 4119) ∧ (∀ μ7, μ7 = mup μ4 184 (64 + x1) x3 → (x2 ≠ 0 → Q x5 μ7) ∧ (x2 = 0 → Q x4 μ7))) ∧ (x6 < r1 → (-2147483648 ≤ 64 + x1 ∧ 64 + x1 < 2147483648) ∧ (0 ≤ 64 + x1 ∧ 64 + x1 < 4119) ∧ (∀ μ11, μ11 = mup μ2 184 (64 + x1) x6 → (x6 ≤ 0 → ∀ μ13, μ13 = mup μ11 183 19 0 → CAv mX10_laysDay d sc [(2, 183)] μ13 (fun μ15 => CAi mX10_hiccupsOf d sc [(2, 183), (0, x1)] μ15 (fun r16 μ17 => (r16 < x5 → (-2147483648 ≤ x6 + 1 ∧ x6 + 1 < 2147483648) ∧ ∀ v20 : Int, v20 = x6 + 1 → WQ mX10_quiet d sc (ZI sc Q) 48 [(2, 183), (0, x1), (0, x2), (0, x3), (0, x6), (0, r16), (0, v20), (9, 0)] [] μ17) ∧ (x5 ≤ r16 → (-2147483648 ≤ x6 + 1 ∧ x6 + 1 < 2147483648) ∧ ∀ v22 : Int, v22 = x6 + 1 → WQ mX10_quiet d sc (ZI sc Q) 48 [(2, 183), (0, x1), (0, x2), (0, x3), (0, x4), (0, x5), (0, v22), (9, 0)] [] μ17)))) ∧ (0 < x6 → ∀ μ23, μ23 = mup μ11 183 19 1 → CAv mX10_laysDay d sc [(2, 183)] μ23 (fun μ25 => CAi mX10_hiccupsOf d sc [(2, 183), (0, x1)] μ25 (fun r26 μ27 => (r26 < x5 → (-2147483648 ≤ x6 + 1 ∧ x6 + 1 < 2147483648) ∧ ∀ v30 : Int, v30 = x6 + 1 → WQ mX10_quiet d sc (ZI sc Q) 48 [(2, 183), (0, x1), (0, x2), (0, x3), (0, x6), (0, r26), (0, v30), (9, 0)] [] μ27) ∧ (x5 ≤ r26 → (-2147483648 ≤ x6 + 1 ∧ x6 + 1 < 2147483648) ∧ ∀ v32 : Int, v32 = x6 + 1 → WQ mX10_quiet d sc (ZI sc Q) 48 [(2, 183), (0, x1), (0, x2), (0, x3), (0, x4), (0, x5), (0, v32), (9, 0)] [] μ27)))))))) :
    WQ mX10_quiet d sc (ZI sc Q) 48 [(2, 183), (0, x1), (0, x2), (0, x3), (0, x4), (0, x5), (0, x6), (9, 0)] [] μ := by
  refine WP_iload dX10_quiet_48 rfl ?_
  refine WP_aload_n dX10_quiet_50 rfl rfl ⟨Nat.le_of_ble_eq_true rfl, Nat.le_of_ble_eq_true rfl⟩ ?_
  refine WQ_invVi (v := (2, 183)) (as := []) dX10_quiet_51 l_X10_313 mw_X10_cellMany mi_X10_cellMany ms_X10_cellMany mo_X10_cellMany (rcv (ci := 10) (n := 49) (r := (RX10, TX10, 49)) k_183 rfl rfl) (Nat.le_of_ble_eq_true rfl) h rfl (fun r1 μ2 h => ?_)
  refine WQ_icmp_ge (tgt := 117) dX10_quiet_54 (by decide) (fun c3 => ?_) (fun c3 => ?_)
  · replace h := h.1 c3
    refine WP_aload_n dX10_quiet_117 rfl rfl ⟨Nat.le_of_ble_eq_true rfl, Nat.le_of_ble_eq_true rfl⟩ ?_
    refine WP_iconst dX10_quiet_118 (by decide) ?_
    refine WQ_putz (ci := 10) (j := 19) (n := 49) dX10_quiet_119 f_X10_269 k_183 rfl ⟨by decide, by decide⟩ (fun μ4 eμ4 => ?_)
    replace h := h μ4 eμ4
    refine WP_aload_n dX10_quiet_122 rfl rfl ⟨Nat.le_of_ble_eq_true rfl, Nat.le_of_ble_eq_true rfl⟩ ?_
    refine WP_getfield (ci := 10) (j := 1) (n := 49) (t := 2) (x := 184) dX10_quiet_123 f_X10_13 k_183 rfl rfl ?_
    refine WP_bipush dX10_quiet_126 (by decide +kernel) (by decide) ?_
    refine WP_iload_n dX10_quiet_128 rfl rfl ?_
    obtain ⟨g5, h⟩ := h
    refine WP_iadd dX10_quiet_129 g5 ?_
    refine WP_iload_n dX10_quiet_130 rfl rfl ?_
    obtain ⟨g6, h⟩ := h
    refine WQ_iast (n := 4119) dX10_quiet_131 k_184 g6 (fun μ7 eμ7 => ?_)
    replace h := h μ7 eμ7
    refine WP_iload_n dX10_quiet_132 rfl rfl ?_
    refine WQ_ifne (tgt := 141) dX10_quiet_133 (by decide) (fun c8 => ?_) (fun c8 => ?_)
    · replace h := h.1 c8
      refine WP_iload dX10_quiet_141 rfl ?_
      exact WQ_ireturn dX10_quiet_143 rfl h
    · replace h := h.2 c8
      refine WP_iload dX10_quiet_136 rfl ?_
      refine WP_goto (tgt := 143) dX10_quiet_138 (by decide) ?_
      exact WQ_ireturn dX10_quiet_143 rfl h
  · replace h := h.2 c3
    refine WP_aload_n dX10_quiet_57 rfl rfl ⟨Nat.le_of_ble_eq_true rfl, Nat.le_of_ble_eq_true rfl⟩ ?_
    refine WP_getfield (ci := 10) (j := 1) (n := 49) (t := 2) (x := 184) dX10_quiet_58 f_X10_13 k_183 rfl rfl ?_
    refine WP_bipush dX10_quiet_61 (by decide +kernel) (by decide) ?_
    refine WP_iload_n dX10_quiet_63 rfl rfl ?_
    obtain ⟨g9, h⟩ := h
    refine WP_iadd dX10_quiet_64 g9 ?_
    refine WP_iload dX10_quiet_65 rfl ?_
    obtain ⟨g10, h⟩ := h
    refine WQ_iast (n := 4119) dX10_quiet_67 k_184 g10 (fun μ11 eμ11 => ?_)
    replace h := h μ11 eμ11
    refine WP_aload_n dX10_quiet_68 rfl rfl ⟨Nat.le_of_ble_eq_true rfl, Nat.le_of_ble_eq_true rfl⟩ ?_
    refine WP_iload dX10_quiet_69 rfl ?_
    refine WQ_ifle (tgt := 78) dX10_quiet_71 (by decide) (fun c12 => ?_) (fun c12 => ?_)
    · replace h := h.1 c12
      refine WP_iconst dX10_quiet_78 (by decide) ?_
      refine WQ_putz (ci := 10) (j := 19) (n := 49) dX10_quiet_79 f_X10_269 k_183 rfl ⟨by decide, by decide⟩ (fun μ13 eμ13 => ?_)
      replace h := h μ13 eμ13
      refine WP_aload_n dX10_quiet_82 rfl rfl ⟨Nat.le_of_ble_eq_true rfl, Nat.le_of_ble_eq_true rfl⟩ ?_
      refine WQ_invVv (v := (2, 183)) (as := []) dX10_quiet_83 l_X10_308 mw_X10_laysDay mi_X10_laysDay ms_X10_laysDay mo_X10_laysDay (rcv (ci := 10) (n := 49) (r := (RX10, TX10, 49)) k_183 rfl rfl) (Nat.le_of_ble_eq_true rfl) h rfl (fun μ15 h => ?_)
      refine WP_aload_n dX10_quiet_86 rfl rfl ⟨Nat.le_of_ble_eq_true rfl, Nat.le_of_ble_eq_true rfl⟩ ?_
      refine WP_iload_n dX10_quiet_87 rfl rfl ?_
      refine WQ_invVi (v := (2, 183)) (as := [(0, x1)]) dX10_quiet_88 l_X10_396 mw_X10_hiccupsOf mi_X10_hiccupsOf ms_X10_hiccupsOf mo_X10_hiccupsOf (rcv (ci := 10) (n := 49) (r := (RX10, TX10, 49)) k_183 rfl rfl) (Nat.le_of_ble_eq_true rfl) h rfl (fun r16 μ17 h => ?_)
      refine WP_istore (L' := [(2, 183), (0, x1), (0, x2), (0, x3), (0, x4), (0, x5), (0, x6), (0, r16)]) dX10_quiet_91 (by decide) rfl ?_
      refine WP_iload dX10_quiet_93 rfl ?_
      refine WP_iload dX10_quiet_95 rfl ?_
      refine WQ_icmp_lt (tgt := 103) dX10_quiet_97 (by decide) (fun c18 => ?_) (fun c18 => ?_)
      · replace h := h.1 c18
        refine WP_iload dX10_quiet_103 rfl ?_
        refine WP_istore (L' := [(2, 183), (0, x1), (0, x2), (0, x3), (0, x6), (0, x5), (0, x6), (0, r16)]) dX10_quiet_105 (by decide) rfl ?_
        refine WP_iload dX10_quiet_107 rfl ?_
        refine WP_istore (L' := [(2, 183), (0, x1), (0, x2), (0, x3), (0, x6), (0, r16), (0, x6), (0, r16)]) dX10_quiet_109 (by decide) rfl ?_
        obtain ⟨g19, h⟩ := h
        refine WQ_iinc dX10_quiet_111 rfl (by decide) g19 (fun v20 e20 => ?_)
        refine WP_same (L' := [(2, 183), (0, x1), (0, x2), (0, x3), (0, x6), (0, r16), (0, v20), (0, r16)]) rfl ?_
        replace h := h v20 e20
        refine WP_goto (tgt := 48) dX10_quiet_114 (by decide) ?_
        refine WP_lforget (L' := [(2, 183), (0, x1), (0, x2), (0, x3), (0, x6), (0, r16), (0, v20), (9, 0)]) rfl (fun i hi => ?_) h
        match i, hi with
        | 0, _ => exact Or.inl rfl
        | 1, _ => exact Or.inl rfl
        | 2, _ => exact Or.inl rfl
        | 3, _ => exact Or.inl rfl
        | 4, _ => exact Or.inl rfl
        | 5, _ => exact Or.inl rfl
        | 6, _ => exact Or.inl rfl
        | 7, _ => exact Or.inr rfl
        | i + 8, hi => exact absurd hi (by simp only [List.length_cons, List.length_nil]; omega)
      · replace h := h.2 c18
        refine WP_goto (tgt := 111) dX10_quiet_100 (by decide) ?_
        obtain ⟨g21, h⟩ := h
        refine WQ_iinc dX10_quiet_111 rfl (by decide) g21 (fun v22 e22 => ?_)
        refine WP_same (L' := [(2, 183), (0, x1), (0, x2), (0, x3), (0, x4), (0, x5), (0, v22), (0, r16)]) rfl ?_
        replace h := h v22 e22
        refine WP_goto (tgt := 48) dX10_quiet_114 (by decide) ?_
        refine WP_lforget (L' := [(2, 183), (0, x1), (0, x2), (0, x3), (0, x4), (0, x5), (0, v22), (9, 0)]) rfl (fun i hi => ?_) h
        match i, hi with
        | 0, _ => exact Or.inl rfl
        | 1, _ => exact Or.inl rfl
        | 2, _ => exact Or.inl rfl
        | 3, _ => exact Or.inl rfl
        | 4, _ => exact Or.inl rfl
        | 5, _ => exact Or.inl rfl
        | 6, _ => exact Or.inl rfl
        | 7, _ => exact Or.inr rfl
        | i + 8, hi => exact absurd hi (by simp only [List.length_cons, List.length_nil]; omega)
    · replace h := h.2 c12
      refine WP_iconst dX10_quiet_74 (by decide) ?_
      refine WP_goto (tgt := 79) dX10_quiet_75 (by decide) ?_
      refine WQ_putz (ci := 10) (j := 19) (n := 49) dX10_quiet_79 f_X10_269 k_183 rfl ⟨by decide, by decide⟩ (fun μ23 eμ23 => ?_)
      replace h := h μ23 eμ23
      refine WP_aload_n dX10_quiet_82 rfl rfl ⟨Nat.le_of_ble_eq_true rfl, Nat.le_of_ble_eq_true rfl⟩ ?_
      refine WQ_invVv (v := (2, 183)) (as := []) dX10_quiet_83 l_X10_308 mw_X10_laysDay mi_X10_laysDay ms_X10_laysDay mo_X10_laysDay (rcv (ci := 10) (n := 49) (r := (RX10, TX10, 49)) k_183 rfl rfl) (Nat.le_of_ble_eq_true rfl) h rfl (fun μ25 h => ?_)
      refine WP_aload_n dX10_quiet_86 rfl rfl ⟨Nat.le_of_ble_eq_true rfl, Nat.le_of_ble_eq_true rfl⟩ ?_
      refine WP_iload_n dX10_quiet_87 rfl rfl ?_
      refine WQ_invVi (v := (2, 183)) (as := [(0, x1)]) dX10_quiet_88 l_X10_396 mw_X10_hiccupsOf mi_X10_hiccupsOf ms_X10_hiccupsOf mo_X10_hiccupsOf (rcv (ci := 10) (n := 49) (r := (RX10, TX10, 49)) k_183 rfl rfl) (Nat.le_of_ble_eq_true rfl) h rfl (fun r26 μ27 h => ?_)
      refine WP_istore (L' := [(2, 183), (0, x1), (0, x2), (0, x3), (0, x4), (0, x5), (0, x6), (0, r26)]) dX10_quiet_91 (by decide) rfl ?_
      refine WP_iload dX10_quiet_93 rfl ?_
      refine WP_iload dX10_quiet_95 rfl ?_
      refine WQ_icmp_lt (tgt := 103) dX10_quiet_97 (by decide) (fun c28 => ?_) (fun c28 => ?_)
      · replace h := h.1 c28
        refine WP_iload dX10_quiet_103 rfl ?_
        refine WP_istore (L' := [(2, 183), (0, x1), (0, x2), (0, x3), (0, x6), (0, x5), (0, x6), (0, r26)]) dX10_quiet_105 (by decide) rfl ?_
        refine WP_iload dX10_quiet_107 rfl ?_
        refine WP_istore (L' := [(2, 183), (0, x1), (0, x2), (0, x3), (0, x6), (0, r26), (0, x6), (0, r26)]) dX10_quiet_109 (by decide) rfl ?_
        obtain ⟨g29, h⟩ := h
        refine WQ_iinc dX10_quiet_111 rfl (by decide) g29 (fun v30 e30 => ?_)
        refine WP_same (L' := [(2, 183), (0, x1), (0, x2), (0, x3), (0, x6), (0, r26), (0, v30), (0, r26)]) rfl ?_
        replace h := h v30 e30
        refine WP_goto (tgt := 48) dX10_quiet_114 (by decide) ?_
        refine WP_lforget (L' := [(2, 183), (0, x1), (0, x2), (0, x3), (0, x6), (0, r26), (0, v30), (9, 0)]) rfl (fun i hi => ?_) h
        match i, hi with
        | 0, _ => exact Or.inl rfl
        | 1, _ => exact Or.inl rfl
        | 2, _ => exact Or.inl rfl
        | 3, _ => exact Or.inl rfl
        | 4, _ => exact Or.inl rfl
        | 5, _ => exact Or.inl rfl
        | 6, _ => exact Or.inl rfl
        | 7, _ => exact Or.inr rfl
        | i + 8, hi => exact absurd hi (by simp only [List.length_cons, List.length_nil]; omega)
      · replace h := h.2 c28
        refine WP_goto (tgt := 111) dX10_quiet_100 (by decide) ?_
        obtain ⟨g31, h⟩ := h
        refine WQ_iinc dX10_quiet_111 rfl (by decide) g31 (fun v32 e32 => ?_)
        refine WP_same (L' := [(2, 183), (0, x1), (0, x2), (0, x3), (0, x4), (0, x5), (0, v32), (0, r26)]) rfl ?_
        replace h := h v32 e32
        refine WP_goto (tgt := 48) dX10_quiet_114 (by decide) ?_
        refine WP_lforget (L' := [(2, 183), (0, x1), (0, x2), (0, x3), (0, x4), (0, x5), (0, v32), (9, 0)]) rfl (fun i hi => ?_) h
        match i, hi with
        | 0, _ => exact Or.inl rfl
        | 1, _ => exact Or.inl rfl
        | 2, _ => exact Or.inl rfl
        | 3, _ => exact Or.inl rfl
        | 4, _ => exact Or.inl rfl
        | 5, _ => exact Or.inl rfl
        | 6, _ => exact Or.inl rfl
        | 7, _ => exact Or.inr rfl
        | i + 8, hi => exact absurd hi (by simp only [List.length_cons, List.length_nil]; omega)

theorem s_X10_readAtom_0 {d : Nat} {sc : SC} {Q : Mem → Prop} {μ : Mem} {a1 : Int}
    (h : CAi mX10_is d sc [(2, 183), (0, 25)] μ (fun r1 μ2 => (r1 = 0 → (μ2 183 11 ≠ 0 → CAi mX10_is d sc [(2, 183), (0, 35)] μ2 (fun r5 μ6 => (r5 = 0 → CAi mX10_is d sc [(2, 183), (0, 12)] μ6 (fun r8 μ9 => (r8 = 0 → CAv mX10_fails d sc [(2, 183), (0, 2)] μ9 (fun μ12 => Q μ12)) ∧ (r8 ≠ 0 → CAv mX10_readIf d sc [(2, 183), (0, a1)] μ9 (fun μ14 => Q μ14)))) ∧ (r5 ≠ 0 → CAi mX10_goesIn d sc [(2, 183), (0, a1)] μ6 (fun r15 μ16 => (r15 ≠ 0 → (-2147483648 ≤ a1 + 1 ∧ a1 + 1 < 2147483648) ∧ CAv mX10_readSum d sc [(2, 183), (0, a1 + 1)] μ16 (fun μ20 => CAi mX10_eats d sc [(2, 183), (0, 36)] μ20 (fun r21 μ22 => (r21 ≠ 0 → Q μ22) ∧ (r21 = 0 → CAv mX10_fails d sc [(2, 183), (0, 2)] μ22 (fun μ25 => Q μ25))))) ∧ (r15 = 0 → Q μ16))))) ∧ (μ2 183 11 = 0 → CAi mX10_wordOf d sc [(2, 183), (0, μ2 183 9)] μ2 (fun r26 μ27 => (r26 = (-1) → CAi mX10_is d sc [(2, 183), (0, 35)] μ27 (fun r29 μ30 => (r29 = 0 → CAi mX10_is d sc [(2, 183), (0, 12)] μ30 (fun r32 μ33 => (r32 = 0 → CAv mX10_fails d sc [(2, 183), (0, 2)] μ33 (fun μ36 => Q μ36)) ∧ (r32 ≠ 0 → CAv mX10_readIf d sc [(2, 183), (0, a1)] μ33 (fun μ38 => Q μ38)))) ∧ (r29 ≠ 0 → CAi mX10_goesIn d sc [(2, 183), (0, a1)] μ30 (fun r39 μ40 => (r39 ≠ 0 → (-2147483648 ≤ a1 + 1 ∧ a1 + 1 < 2147483648) ∧ CAv mX10_readSum d sc [(2, 183), (0, a1 + 1)] μ40 (fun μ44 => CAi mX10_eats d sc [(2, 183), (0, 36)] μ44 (fun r45 μ46 => (r45 ≠ 0 → Q μ46) ∧ (r45 = 0 → CAv mX10_fails d sc [(2, 183), (0, 2)] μ46 (fun μ49 => Q μ49))))) ∧ (r39 = 0 → Q μ40))))) ∧ (r26 ≠ (-1) → CAi mX10_wordOf d sc [(2, 183), (0, μ27 183 9)] μ27 (fun r50 μ51 => (-2147483648 ≤ 1000 + r50 ∧ 1000 + r50 < 2147483648) ∧ CAv mX10_codes d sc [(2, 183), (0, 1000 + r50)] μ51 (fun μ54 => CAv mX10_next d sc [(2, 183)] μ54 (fun μ56 => Q μ56))))))) ∧ (r1 ≠ 0 → CAv mX10_codes d sc [(2, 183), (0, μ2 183 10)] μ2 (fun μ58 => CAv mX10_next d sc [(2, 183)] μ58 (fun μ60 => Q μ60))))) :
    WQ mX10_readAtom d sc (ZV sc Q) 0 [(2, 183), (0, a1)] [] μ := by
  refine WP_aload_n dX10_readAtom_0 rfl rfl ⟨Nat.le_of_ble_eq_true rfl, Nat.le_of_ble_eq_true rfl⟩ ?_
  refine WP_bipush dX10_readAtom_1 (by decide +kernel) (by decide) ?_
  refine WQ_invVi (v := (2, 183)) (as := [(0, 25)]) dX10_readAtom_3 l_X10_160 mw_X10_is mi_X10_is ms_X10_is mo_X10_is (rcv (ci := 10) (n := 49) (r := (RX10, TX10, 49)) k_183 rfl rfl) (Nat.le_of_ble_eq_true rfl) h rfl (fun r1 μ2 h => ?_)
  refine WQ_ifeq (tgt := 24) dX10_readAtom_6 (by decide) (fun c3 => ?_) (fun c3 => ?_)
  · replace h := h.1 c3
    refine WP_aload_n dX10_readAtom_24 rfl rfl ⟨Nat.le_of_ble_eq_true rfl, Nat.le_of_ble_eq_true rfl⟩ ?_
    refine WP_getfield (ci := 10) (j := 11) (n := 49) (t := 0) (x := μ2 183 11) dX10_readAtom_25 f_X10_154 k_183 rfl rfl ?_
    refine WQ_ifne (tgt := 66) dX10_readAtom_28 (by decide) (fun c4 => ?_) (fun c4 => ?_)
    · replace h := h.1 c4
      refine WP_aload_n dX10_readAtom_66 rfl rfl ⟨Nat.le_of_ble_eq_true rfl, Nat.le_of_ble_eq_true rfl⟩ ?_
      refine WP_bipush dX10_readAtom_67 (by decide +kernel) (by decide) ?_
      refine WQ_invVi (v := (2, 183)) (as := [(0, 35)]) dX10_readAtom_69 l_X10_160 mw_X10_is mi_X10_is ms_X10_is mo_X10_is (rcv (ci := 10) (n := 49) (r := (RX10, TX10, 49)) k_183 rfl rfl) (Nat.le_of_ble_eq_true rfl) h rfl (fun r5 μ6 h => ?_)
      refine WQ_ifeq (tgt := 108) dX10_readAtom_72 (by decide) (fun c7 => ?_) (fun c7 => ?_)
      · replace h := h.1 c7
        refine WP_aload_n dX10_readAtom_108 rfl rfl ⟨Nat.le_of_ble_eq_true rfl, Nat.le_of_ble_eq_true rfl⟩ ?_
        refine WP_bipush dX10_readAtom_109 (by decide +kernel) (by decide) ?_
        refine WQ_invVi (v := (2, 183)) (as := [(0, 12)]) dX10_readAtom_111 l_X10_160 mw_X10_is mi_X10_is ms_X10_is mo_X10_is (rcv (ci := 10) (n := 49) (r := (RX10, TX10, 49)) k_183 rfl rfl) (Nat.le_of_ble_eq_true rfl) h rfl (fun r8 μ9 h => ?_)
        refine WQ_ifeq (tgt := 125) dX10_readAtom_114 (by decide) (fun c10 => ?_) (fun c10 => ?_)
        · replace h := h.1 c10
          refine WP_aload_n dX10_readAtom_125 rfl rfl ⟨Nat.le_of_ble_eq_true rfl, Nat.le_of_ble_eq_true rfl⟩ ?_
          refine WP_iconst dX10_readAtom_126 (by decide) ?_
          refine WQ_invVv (v := (2, 183)) (as := [(0, 2)]) dX10_readAtom_127 l_X10_166 mw_X10_fails mi_X10_fails ms_X10_fails mo_X10_fails (rcv (ci := 10) (n := 49) (r := (RX10, TX10, 49)) k_183 rfl rfl) (Nat.le_of_ble_eq_true rfl) h rfl (fun μ12 h => ?_)
          exact WQ_return dX10_readAtom_130 rfl h
        · replace h := h.2 c10
          refine WP_aload_n dX10_readAtom_117 rfl rfl ⟨Nat.le_of_ble_eq_true rfl, Nat.le_of_ble_eq_true rfl⟩ ?_
          refine WP_iload_n dX10_readAtom_118 rfl rfl ?_
          refine WQ_invVv (v := (2, 183)) (as := [(0, a1)]) dX10_readAtom_119 l_X10_192 mw_X10_readIf mi_X10_readIf ms_X10_readIf mo_X10_readIf (rcv (ci := 10) (n := 49) (r := (RX10, TX10, 49)) k_183 rfl rfl) (Nat.le_of_ble_eq_true rfl) h rfl (fun μ14 h => ?_)
          refine WP_goto (tgt := 130) dX10_readAtom_122 (by decide) ?_
          exact WQ_return dX10_readAtom_130 rfl h
      · replace h := h.2 c7
        refine WP_aload_n dX10_readAtom_75 rfl rfl ⟨Nat.le_of_ble_eq_true rfl, Nat.le_of_ble_eq_true rfl⟩ ?_
        refine WP_iload_n dX10_readAtom_76 rfl rfl ?_
        refine WQ_invVi (v := (2, 183)) (as := [(0, a1)]) dX10_readAtom_77 l_X10_183 mw_X10_goesIn mi_X10_goesIn ms_X10_goesIn mo_X10_goesIn (rcv (ci := 10) (n := 49) (r := (RX10, TX10, 49)) k_183 rfl rfl) (Nat.le_of_ble_eq_true rfl) h rfl (fun r15 μ16 h => ?_)
        refine WQ_ifne (tgt := 84) dX10_readAtom_80 (by decide) (fun c17 => ?_) (fun c17 => ?_)
        · replace h := h.1 c17
          refine WP_aload_n dX10_readAtom_84 rfl rfl ⟨Nat.le_of_ble_eq_true rfl, Nat.le_of_ble_eq_true rfl⟩ ?_
          refine WP_iload_n dX10_readAtom_85 rfl rfl ?_
          refine WP_iconst dX10_readAtom_86 (by decide) ?_
          obtain ⟨g18, h⟩ := h
          refine WP_iadd dX10_readAtom_87 g18 ?_
          refine WQ_invVv (v := (2, 183)) (as := [(0, a1 + 1)]) dX10_readAtom_88 l_X10_186 mw_X10_readSum mi_X10_readSum ms_X10_readSum mo_X10_readSum (rcv (ci := 10) (n := 49) (r := (RX10, TX10, 49)) k_183 rfl rfl) (Nat.le_of_ble_eq_true rfl) h rfl (fun μ20 h => ?_)
          refine WP_aload_n dX10_readAtom_91 rfl rfl ⟨Nat.le_of_ble_eq_true rfl, Nat.le_of_ble_eq_true rfl⟩ ?_
          refine WP_bipush dX10_readAtom_92 (by decide +kernel) (by decide) ?_
          refine WQ_invVi (v := (2, 183)) (as := [(0, 36)]) dX10_readAtom_94 l_X10_189 mw_X10_eats mi_X10_eats ms_X10_eats mo_X10_eats (rcv (ci := 10) (n := 49) (r := (RX10, TX10, 49)) k_183 rfl rfl) (Nat.le_of_ble_eq_true rfl) h rfl (fun r21 μ22 h => ?_)
          refine WQ_ifne (tgt := 130) dX10_readAtom_97 (by decide) (fun c23 => ?_) (fun c23 => ?_)
          · replace h := h.1 c23
            exact WQ_return dX10_readAtom_130 rfl h
          · replace h := h.2 c23
            refine WP_aload_n dX10_readAtom_100 rfl rfl ⟨Nat.le_of_ble_eq_true rfl, Nat.le_of_ble_eq_true rfl⟩ ?_
            refine WP_iconst dX10_readAtom_101 (by decide) ?_
            refine WQ_invVv (v := (2, 183)) (as := [(0, 2)]) dX10_readAtom_102 l_X10_166 mw_X10_fails mi_X10_fails ms_X10_fails mo_X10_fails (rcv (ci := 10) (n := 49) (r := (RX10, TX10, 49)) k_183 rfl rfl) (Nat.le_of_ble_eq_true rfl) h rfl (fun μ25 h => ?_)
            refine WP_goto (tgt := 130) dX10_readAtom_105 (by decide) ?_
            exact WQ_return dX10_readAtom_130 rfl h
        · replace h := h.2 c17
          exact WQ_return dX10_readAtom_83 rfl h
    · replace h := h.2 c4
      refine WP_aload_n dX10_readAtom_31 rfl rfl ⟨Nat.le_of_ble_eq_true rfl, Nat.le_of_ble_eq_true rfl⟩ ?_
      refine WP_aload_n dX10_readAtom_32 rfl rfl ⟨Nat.le_of_ble_eq_true rfl, Nat.le_of_ble_eq_true rfl⟩ ?_
      refine WP_getfield (ci := 10) (j := 9) (n := 49) (t := 0) (x := μ2 183 9) dX10_readAtom_33 f_X10_136 k_183 rfl rfl ?_
      refine WQ_invVi (v := (2, 183)) (as := [(0, μ2 183 9)]) dX10_readAtom_36 l_X10_180 mw_X10_wordOf mi_X10_wordOf ms_X10_wordOf mo_X10_wordOf (rcv (ci := 10) (n := 49) (r := (RX10, TX10, 49)) k_183 rfl rfl) (Nat.le_of_ble_eq_true rfl) h rfl (fun r26 μ27 h => ?_)
      refine WP_iconst dX10_readAtom_39 (by decide) ?_
      refine WQ_icmp_eq (tgt := 66) dX10_readAtom_40 (by decide) (fun c28 => ?_) (fun c28 => ?_)
      · replace h := h.1 c28
        refine WP_aload_n dX10_readAtom_66 rfl rfl ⟨Nat.le_of_ble_eq_true rfl, Nat.le_of_ble_eq_true rfl⟩ ?_
        refine WP_bipush dX10_readAtom_67 (by decide +kernel) (by decide) ?_
        refine WQ_invVi (v := (2, 183)) (as := [(0, 35)]) dX10_readAtom_69 l_X10_160 mw_X10_is mi_X10_is ms_X10_is mo_X10_is (rcv (ci := 10) (n := 49) (r := (RX10, TX10, 49)) k_183 rfl rfl) (Nat.le_of_ble_eq_true rfl) h rfl (fun r29 μ30 h => ?_)
        refine WQ_ifeq (tgt := 108) dX10_readAtom_72 (by decide) (fun c31 => ?_) (fun c31 => ?_)
        · replace h := h.1 c31
          refine WP_aload_n dX10_readAtom_108 rfl rfl ⟨Nat.le_of_ble_eq_true rfl, Nat.le_of_ble_eq_true rfl⟩ ?_
          refine WP_bipush dX10_readAtom_109 (by decide +kernel) (by decide) ?_
          refine WQ_invVi (v := (2, 183)) (as := [(0, 12)]) dX10_readAtom_111 l_X10_160 mw_X10_is mi_X10_is ms_X10_is mo_X10_is (rcv (ci := 10) (n := 49) (r := (RX10, TX10, 49)) k_183 rfl rfl) (Nat.le_of_ble_eq_true rfl) h rfl (fun r32 μ33 h => ?_)
          refine WQ_ifeq (tgt := 125) dX10_readAtom_114 (by decide) (fun c34 => ?_) (fun c34 => ?_)
          · replace h := h.1 c34
            refine WP_aload_n dX10_readAtom_125 rfl rfl ⟨Nat.le_of_ble_eq_true rfl, Nat.le_of_ble_eq_true rfl⟩ ?_
            refine WP_iconst dX10_readAtom_126 (by decide) ?_
            refine WQ_invVv (v := (2, 183)) (as := [(0, 2)]) dX10_readAtom_127 l_X10_166 mw_X10_fails mi_X10_fails ms_X10_fails mo_X10_fails (rcv (ci := 10) (n := 49) (r := (RX10, TX10, 49)) k_183 rfl rfl) (Nat.le_of_ble_eq_true rfl) h rfl (fun μ36 h => ?_)
            exact WQ_return dX10_readAtom_130 rfl h
          · replace h := h.2 c34
            refine WP_aload_n dX10_readAtom_117 rfl rfl ⟨Nat.le_of_ble_eq_true rfl, Nat.le_of_ble_eq_true rfl⟩ ?_
            refine WP_iload_n dX10_readAtom_118 rfl rfl ?_
            refine WQ_invVv (v := (2, 183)) (as := [(0, a1)]) dX10_readAtom_119 l_X10_192 mw_X10_readIf mi_X10_readIf ms_X10_readIf mo_X10_readIf (rcv (ci := 10) (n := 49) (r := (RX10, TX10, 49)) k_183 rfl rfl) (Nat.le_of_ble_eq_true rfl) h rfl (fun μ38 h => ?_)
            refine WP_goto (tgt := 130) dX10_readAtom_122 (by decide) ?_
            exact WQ_return dX10_readAtom_130 rfl h
        · replace h := h.2 c31
          refine WP_aload_n dX10_readAtom_75 rfl rfl ⟨Nat.le_of_ble_eq_true rfl, Nat.le_of_ble_eq_true rfl⟩ ?_
          refine WP_iload_n dX10_readAtom_76 rfl rfl ?_
          refine WQ_invVi (v := (2, 183)) (as := [(0, a1)]) dX10_readAtom_77 l_X10_183 mw_X10_goesIn mi_X10_goesIn ms_X10_goesIn mo_X10_goesIn (rcv (ci := 10) (n := 49) (r := (RX10, TX10, 49)) k_183 rfl rfl) (Nat.le_of_ble_eq_true rfl) h rfl (fun r39 μ40 h => ?_)
          refine WQ_ifne (tgt := 84) dX10_readAtom_80 (by decide) (fun c41 => ?_) (fun c41 => ?_)
          · replace h := h.1 c41
            refine WP_aload_n dX10_readAtom_84 rfl rfl ⟨Nat.le_of_ble_eq_true rfl, Nat.le_of_ble_eq_true rfl⟩ ?_
            refine WP_iload_n dX10_readAtom_85 rfl rfl ?_
            refine WP_iconst dX10_readAtom_86 (by decide) ?_
            obtain ⟨g42, h⟩ := h
            refine WP_iadd dX10_readAtom_87 g42 ?_
            refine WQ_invVv (v := (2, 183)) (as := [(0, a1 + 1)]) dX10_readAtom_88 l_X10_186 mw_X10_readSum mi_X10_readSum ms_X10_readSum mo_X10_readSum (rcv (ci := 10) (n := 49) (r := (RX10, TX10, 49)) k_183 rfl rfl) (Nat.le_of_ble_eq_true rfl) h rfl (fun μ44 h => ?_)
            refine WP_aload_n dX10_readAtom_91 rfl rfl ⟨Nat.le_of_ble_eq_true rfl, Nat.le_of_ble_eq_true rfl⟩ ?_
            refine WP_bipush dX10_readAtom_92 (by decide +kernel) (by decide) ?_
            refine WQ_invVi (v := (2, 183)) (as := [(0, 36)]) dX10_readAtom_94 l_X10_189 mw_X10_eats mi_X10_eats ms_X10_eats mo_X10_eats (rcv (ci := 10) (n := 49) (r := (RX10, TX10, 49)) k_183 rfl rfl) (Nat.le_of_ble_eq_true rfl) h rfl (fun r45 μ46 h => ?_)
            refine WQ_ifne (tgt := 130) dX10_readAtom_97 (by decide) (fun c47 => ?_) (fun c47 => ?_)
            · replace h := h.1 c47
              exact WQ_return dX10_readAtom_130 rfl h
            · replace h := h.2 c47
              refine WP_aload_n dX10_readAtom_100 rfl rfl ⟨Nat.le_of_ble_eq_true rfl, Nat.le_of_ble_eq_true rfl⟩ ?_
              refine WP_iconst dX10_readAtom_101 (by decide) ?_
              refine WQ_invVv (v := (2, 183)) (as := [(0, 2)]) dX10_readAtom_102 l_X10_166 mw_X10_fails mi_X10_fails ms_X10_fails mo_X10_fails (rcv (ci := 10) (n := 49) (r := (RX10, TX10, 49)) k_183 rfl rfl) (Nat.le_of_ble_eq_true rfl) h rfl (fun μ49 h => ?_)
              refine WP_goto (tgt := 130) dX10_readAtom_105 (by decide) ?_
              exact WQ_return dX10_readAtom_130 rfl h
          · replace h := h.2 c41
            exact WQ_return dX10_readAtom_83 rfl h
      · replace h := h.2 c28
        refine WP_aload_n dX10_readAtom_43 rfl rfl ⟨Nat.le_of_ble_eq_true rfl, Nat.le_of_ble_eq_true rfl⟩ ?_
        refine WP_sipush dX10_readAtom_44 (by decide +kernel) (by decide) ?_
        refine WP_aload_n dX10_readAtom_47 rfl rfl ⟨Nat.le_of_ble_eq_true rfl, Nat.le_of_ble_eq_true rfl⟩ ?_
        refine WP_aload_n dX10_readAtom_48 rfl rfl ⟨Nat.le_of_ble_eq_true rfl, Nat.le_of_ble_eq_true rfl⟩ ?_
        refine WP_getfield (ci := 10) (j := 9) (n := 49) (t := 0) (x := μ27 183 9) dX10_readAtom_49 f_X10_136 k_183 rfl rfl ?_
        refine WQ_invVi (v := (2, 183)) (as := [(0, μ27 183 9)]) dX10_readAtom_52 l_X10_180 mw_X10_wordOf mi_X10_wordOf ms_X10_wordOf mo_X10_wordOf (rcv (ci := 10) (n := 49) (r := (RX10, TX10, 49)) k_183 rfl rfl) (Nat.le_of_ble_eq_true rfl) h rfl (fun r50 μ51 h => ?_)
        obtain ⟨g52, h⟩ := h
        refine WP_iadd dX10_readAtom_55 g52 ?_
        refine WQ_invVv (v := (2, 183)) (as := [(0, 1000 + r50)]) dX10_readAtom_56 l_X10_177 mw_X10_codes mi_X10_codes ms_X10_codes mo_X10_codes (rcv (ci := 10) (n := 49) (r := (RX10, TX10, 49)) k_183 rfl rfl) (Nat.le_of_ble_eq_true rfl) h rfl (fun μ54 h => ?_)
        refine WP_aload_n dX10_readAtom_59 rfl rfl ⟨Nat.le_of_ble_eq_true rfl, Nat.le_of_ble_eq_true rfl⟩ ?_
        refine WQ_invVv (v := (2, 183)) (as := []) dX10_readAtom_60 l_X10_163 mw_X10_next mi_X10_next ms_X10_next mo_X10_next (rcv (ci := 10) (n := 49) (r := (RX10, TX10, 49)) k_183 rfl rfl) (Nat.le_of_ble_eq_true rfl) h rfl (fun μ56 h => ?_)
        refine WP_goto (tgt := 130) dX10_readAtom_63 (by decide) ?_
        exact WQ_return dX10_readAtom_130 rfl h
  · replace h := h.2 c3
    refine WP_aload_n dX10_readAtom_9 rfl rfl ⟨Nat.le_of_ble_eq_true rfl, Nat.le_of_ble_eq_true rfl⟩ ?_
    refine WP_aload_n dX10_readAtom_10 rfl rfl ⟨Nat.le_of_ble_eq_true rfl, Nat.le_of_ble_eq_true rfl⟩ ?_
    refine WP_getfield (ci := 10) (j := 10) (n := 49) (t := 0) (x := μ2 183 10) dX10_readAtom_11 f_X10_149 k_183 rfl rfl ?_
    refine WQ_invVv (v := (2, 183)) (as := [(0, μ2 183 10)]) dX10_readAtom_14 l_X10_177 mw_X10_codes mi_X10_codes ms_X10_codes mo_X10_codes (rcv (ci := 10) (n := 49) (r := (RX10, TX10, 49)) k_183 rfl rfl) (Nat.le_of_ble_eq_true rfl) h rfl (fun μ58 h => ?_)
    refine WP_aload_n dX10_readAtom_17 rfl rfl ⟨Nat.le_of_ble_eq_true rfl, Nat.le_of_ble_eq_true rfl⟩ ?_
    refine WQ_invVv (v := (2, 183)) (as := []) dX10_readAtom_18 l_X10_163 mw_X10_next mi_X10_next ms_X10_next mo_X10_next (rcv (ci := 10) (n := 49) (r := (RX10, TX10, 49)) k_183 rfl rfl) (Nat.le_of_ble_eq_true rfl) h rfl (fun μ60 h => ?_)
    refine WP_goto (tgt := 130) dX10_readAtom_21 (by decide) ?_
    exact WQ_return dX10_readAtom_130 rfl h

theorem s_X10_readBoth_0 {d : Nat} {sc : SC} {Q : Mem → Prop} {μ : Mem} {a1 : Int}
    (h : CAv mX10_readUnit d sc [(2, 183), (0, a1)] μ (fun μ2 => WQ mX10_readBoth d sc (ZV sc Q) 5 [(2, 183), (0, a1)] [] μ2)) :
    WQ mX10_readBoth d sc (ZV sc Q) 0 [(2, 183), (0, a1)] [] μ := by
  refine WP_aload_n dX10_readBoth_0 rfl rfl ⟨Nat.le_of_ble_eq_true rfl, Nat.le_of_ble_eq_true rfl⟩ ?_
  refine WP_iload_n dX10_readBoth_1 rfl rfl ?_
  refine WQ_invVv (v := (2, 183)) (as := [(0, a1)]) dX10_readBoth_2 l_X10_204 mw_X10_readUnit mi_X10_readUnit ms_X10_readUnit mo_X10_readUnit (rcv (ci := 10) (n := 49) (r := (RX10, TX10, 49)) k_183 rfl rfl) (Nat.le_of_ble_eq_true rfl) h rfl (fun μ2 h => ?_)
  exact h

theorem s_X10_readBoth_5 {d : Nat} {sc : SC} {Q : Mem → Prop} {μ : Mem} {x1 : Int}
    (h : CAi mX10_eats d sc [(2, 183), (0, 21)] μ (fun r1 μ2 => (r1 = 0 → Q μ2) ∧ (r1 ≠ 0 → CAv mX10_readUnit d sc [(2, 183), (0, x1)] μ2 (fun μ5 => CAv mX10_codes d sc [(2, 183), (0, 3007)] μ5 (fun μ7 => WQ mX10_readBoth d sc (ZV sc Q) 5 [(2, 183), (0, x1)] [] μ7))))) :
    WQ mX10_readBoth d sc (ZV sc Q) 5 [(2, 183), (0, x1)] [] μ := by
  refine WP_aload_n dX10_readBoth_5 rfl rfl ⟨Nat.le_of_ble_eq_true rfl, Nat.le_of_ble_eq_true rfl⟩ ?_
  refine WP_bipush dX10_readBoth_6 (by decide +kernel) (by decide) ?_
  refine WQ_invVi (v := (2, 183)) (as := [(0, 21)]) dX10_readBoth_8 l_X10_189 mw_X10_eats mi_X10_eats ms_X10_eats mo_X10_eats (rcv (ci := 10) (n := 49) (r := (RX10, TX10, 49)) k_183 rfl rfl) (Nat.le_of_ble_eq_true rfl) h rfl (fun r1 μ2 h => ?_)
  refine WQ_ifeq (tgt := 29) dX10_readBoth_11 (by decide) (fun c3 => ?_) (fun c3 => ?_)
  · replace h := h.1 c3
    exact WQ_return dX10_readBoth_29 rfl h
  · replace h := h.2 c3
    refine WP_aload_n dX10_readBoth_14 rfl rfl ⟨Nat.le_of_ble_eq_true rfl, Nat.le_of_ble_eq_true rfl⟩ ?_
    refine WP_iload_n dX10_readBoth_15 rfl rfl ?_
    refine WQ_invVv (v := (2, 183)) (as := [(0, x1)]) dX10_readBoth_16 l_X10_204 mw_X10_readUnit mi_X10_readUnit ms_X10_readUnit mo_X10_readUnit (rcv (ci := 10) (n := 49) (r := (RX10, TX10, 49)) k_183 rfl rfl) (Nat.le_of_ble_eq_true rfl) h rfl (fun μ5 h => ?_)
    refine WP_aload_n dX10_readBoth_19 rfl rfl ⟨Nat.le_of_ble_eq_true rfl, Nat.le_of_ble_eq_true rfl⟩ ?_
    refine WP_sipush dX10_readBoth_20 (by decide +kernel) (by decide) ?_
    refine WQ_invVv (v := (2, 183)) (as := [(0, 3007)]) dX10_readBoth_23 l_X10_177 mw_X10_codes mi_X10_codes ms_X10_codes mo_X10_codes (rcv (ci := 10) (n := 49) (r := (RX10, TX10, 49)) k_183 rfl rfl) (Nat.le_of_ble_eq_true rfl) h rfl (fun μ7 h => ?_)
    refine WP_goto (tgt := 5) dX10_readBoth_26 (by decide) ?_
    exact h

theorem s_X10_readFlag_0 {d : Nat} {sc : SC} {Q : Int → Mem → Prop} {μ : Mem} {a1 : Int}
    (h : CAi mX10_eats d sc [(2, 183), (0, 2)] μ (fun r1 μ2 => (r1 = 0 → CAi mX10_eats d sc [(2, 183), (0, 3)] μ2 (fun r4 μ5 => (r4 = 0 → CAi mX10_eats d sc [(2, 183), (0, 4)] μ5 (fun r7 μ8 => (r7 = 0 → Q 0 μ8) ∧ (r7 ≠ 0 → (-2147483648 ≤ 25 + a1 ∧ 25 + a1 < 2147483648) ∧ CAi mX10_takes d sc [(2, 183), (0, 0), (0, 9)] μ8 (fun r11 μ12 => (0 ≤ 25 + a1 ∧ 25 + a1 < 1373) ∧ (∀ μ14, μ14 = mup μ12 187 (25 + a1) r11 → (μ14 183 11 ≠ 0 → Q 0 μ14) ∧ (μ14 183 11 = 0 → Q 1 μ14)))))) ∧ (r4 ≠ 0 → (-2147483648 ≤ 19 + a1 ∧ 19 + a1 < 2147483648) ∧ CAi mX10_takes d sc [(2, 183), (0, 0), (0, 9)] μ5 (fun r17 μ18 => (0 ≤ 19 + a1 ∧ 19 + a1 < 1373) ∧ (∀ μ20, μ20 = mup μ18 187 (19 + a1) r17 → (μ20 183 11 ≠ 0 → Q 0 μ20) ∧ (μ20 183 11 = 0 → Q 1 μ20)))))) ∧ (r1 ≠ 0 → (-2147483648 ≤ 13 + a1 ∧ 13 + a1 < 2147483648) ∧ CAi mX10_takes d sc [(2, 183), (0, 0), (0, 9)] μ2 (fun r23 μ24 => (0 ≤ 13 + a1 ∧ 13 + a1 < 1373) ∧ (∀ μ26, μ26 = mup μ24 187 (13 + a1) r23 → (μ26 183 11 ≠ 0 → Q 0 μ26) ∧ (μ26 183 11 = 0 → Q 1 μ26)))))) :
    WQ mX10_readFlag d sc (ZI sc Q) 0 [(2, 183), (0, a1)] [] μ := by
  refine WP_aload_n dX10_readFlag_0 rfl rfl ⟨Nat.le_of_ble_eq_true rfl, Nat.le_of_ble_eq_true rfl⟩ ?_
  refine WP_iconst dX10_readFlag_1 (by decide) ?_
  refine WQ_invVi (v := (2, 183)) (as := [(0, 2)]) dX10_readFlag_2 l_X10_189 mw_X10_eats mi_X10_eats ms_X10_eats mo_X10_eats (rcv (ci := 10) (n := 49) (r := (RX10, TX10, 49)) k_183 rfl rfl) (Nat.le_of_ble_eq_true rfl) h rfl (fun r1 μ2 h => ?_)
  refine WQ_ifeq (tgt := 27) dX10_readFlag_5 (by decide) (fun c3 => ?_) (fun c3 => ?_)
  · replace h := h.1 c3
    refine WP_aload_n dX10_readFlag_27 rfl rfl ⟨Nat.le_of_ble_eq_true rfl, Nat.le_of_ble_eq_true rfl⟩ ?_
    refine WP_iconst dX10_readFlag_28 (by decide) ?_
    refine WQ_invVi (v := (2, 183)) (as := [(0, 3)]) dX10_readFlag_29 l_X10_189 mw_X10_eats mi_X10_eats ms_X10_eats mo_X10_eats (rcv (ci := 10) (n := 49) (r := (RX10, TX10, 49)) k_183 rfl rfl) (Nat.le_of_ble_eq_true rfl) h rfl (fun r4 μ5 h => ?_)
    refine WQ_ifeq (tgt := 54) dX10_readFlag_32 (by decide) (fun c6 => ?_) (fun c6 => ?_)
    · replace h := h.1 c6
      refine WP_aload_n dX10_readFlag_54 rfl rfl ⟨Nat.le_of_ble_eq_true rfl, Nat.le_of_ble_eq_true rfl⟩ ?_
      refine WP_iconst dX10_readFlag_55 (by decide) ?_
      refine WQ_invVi (v := (2, 183)) (as := [(0, 4)]) dX10_readFlag_56 l_X10_189 mw_X10_eats mi_X10_eats ms_X10_eats mo_X10_eats (rcv (ci := 10) (n := 49) (r := (RX10, TX10, 49)) k_183 rfl rfl) (Nat.le_of_ble_eq_true rfl) h rfl (fun r7 μ8 h => ?_)
      refine WQ_ifeq (tgt := 81) dX10_readFlag_59 (by decide) (fun c9 => ?_) (fun c9 => ?_)
      · replace h := h.1 c9
        refine WP_iconst dX10_readFlag_81 (by decide) ?_
        exact WQ_zreturn dX10_readFlag_82 rfl ⟨by decide, by decide⟩ h
      · replace h := h.2 c9
        refine WP_aload_n dX10_readFlag_62 rfl rfl ⟨Nat.le_of_ble_eq_true rfl, Nat.le_of_ble_eq_true rfl⟩ ?_
        refine WP_getfield (ci := 10) (j := 4) (n := 49) (t := 2) (x := 187) dX10_readFlag_63 f_X10_24 k_183 rfl rfl ?_
        refine WP_bipush dX10_readFlag_66 (by decide +kernel) (by decide) ?_
        refine WP_iload_n dX10_readFlag_68 rfl rfl ?_
        obtain ⟨g10, h⟩ := h
        refine WP_iadd dX10_readFlag_69 g10 ?_
        refine WP_aload_n dX10_readFlag_70 rfl rfl ⟨Nat.le_of_ble_eq_true rfl, Nat.le_of_ble_eq_true rfl⟩ ?_
        refine WP_iconst dX10_readFlag_71 (by decide) ?_
        refine WP_bipush dX10_readFlag_72 (by decide +kernel) (by decide) ?_
        refine WQ_invVi (v := (2, 183)) (as := [(0, 0), (0, 9)]) dX10_readFlag_74 l_X10_210 mw_X10_takes mi_X10_takes ms_X10_takes mo_X10_takes (rcv (ci := 10) (n := 49) (r := (RX10, TX10, 49)) k_183 rfl rfl) (Nat.le_of_ble_eq_true rfl) h rfl (fun r11 μ12 h => ?_)
        obtain ⟨g13, h⟩ := h
        refine WQ_iast (n := 1373) dX10_readFlag_77 k_187 g13 (fun μ14 eμ14 => ?_)
        replace h := h μ14 eμ14
        refine WP_goto (tgt := 83) dX10_readFlag_78 (by decide) ?_
        refine WP_aload_n dX10_readFlag_83 rfl rfl ⟨Nat.le_of_ble_eq_true rfl, Nat.le_of_ble_eq_true rfl⟩ ?_
        refine WP_getfield (ci := 10) (j := 11) (n := 49) (t := 0) (x := μ14 183 11) dX10_readFlag_84 f_X10_154 k_183 rfl rfl ?_
        refine WQ_ifne (tgt := 94) dX10_readFlag_87 (by decide) (fun c15 => ?_) (fun c15 => ?_)
        · replace h := h.1 c15
          refine WP_iconst dX10_readFlag_94 (by decide) ?_
          exact WQ_zreturn dX10_readFlag_95 rfl ⟨by decide, by decide⟩ h
        · replace h := h.2 c15
          refine WP_iconst dX10_readFlag_90 (by decide) ?_
          refine WP_goto (tgt := 95) dX10_readFlag_91 (by decide) ?_
          exact WQ_zreturn dX10_readFlag_95 rfl ⟨by decide, by decide⟩ h
    · replace h := h.2 c6
      refine WP_aload_n dX10_readFlag_35 rfl rfl ⟨Nat.le_of_ble_eq_true rfl, Nat.le_of_ble_eq_true rfl⟩ ?_
      refine WP_getfield (ci := 10) (j := 4) (n := 49) (t := 2) (x := 187) dX10_readFlag_36 f_X10_24 k_183 rfl rfl ?_
      refine WP_bipush dX10_readFlag_39 (by decide +kernel) (by decide) ?_
      refine WP_iload_n dX10_readFlag_41 rfl rfl ?_
      obtain ⟨g16, h⟩ := h
      refine WP_iadd dX10_readFlag_42 g16 ?_
      refine WP_aload_n dX10_readFlag_43 rfl rfl ⟨Nat.le_of_ble_eq_true rfl, Nat.le_of_ble_eq_true rfl⟩ ?_
      refine WP_iconst dX10_readFlag_44 (by decide) ?_
      refine WP_bipush dX10_readFlag_45 (by decide +kernel) (by decide) ?_
      refine WQ_invVi (v := (2, 183)) (as := [(0, 0), (0, 9)]) dX10_readFlag_47 l_X10_210 mw_X10_takes mi_X10_takes ms_X10_takes mo_X10_takes (rcv (ci := 10) (n := 49) (r := (RX10, TX10, 49)) k_183 rfl rfl) (Nat.le_of_ble_eq_true rfl) h rfl (fun r17 μ18 h => ?_)
      obtain ⟨g19, h⟩ := h
      refine WQ_iast (n := 1373) dX10_readFlag_50 k_187 g19 (fun μ20 eμ20 => ?_)
      replace h := h μ20 eμ20
      refine WP_goto (tgt := 83) dX10_readFlag_51 (by decide) ?_
      refine WP_aload_n dX10_readFlag_83 rfl rfl ⟨Nat.le_of_ble_eq_true rfl, Nat.le_of_ble_eq_true rfl⟩ ?_
      refine WP_getfield (ci := 10) (j := 11) (n := 49) (t := 0) (x := μ20 183 11) dX10_readFlag_84 f_X10_154 k_183 rfl rfl ?_
      refine WQ_ifne (tgt := 94) dX10_readFlag_87 (by decide) (fun c21 => ?_) (fun c21 => ?_)
      · replace h := h.1 c21
        refine WP_iconst dX10_readFlag_94 (by decide) ?_
        exact WQ_zreturn dX10_readFlag_95 rfl ⟨by decide, by decide⟩ h
      · replace h := h.2 c21
        refine WP_iconst dX10_readFlag_90 (by decide) ?_
        refine WP_goto (tgt := 95) dX10_readFlag_91 (by decide) ?_
        exact WQ_zreturn dX10_readFlag_95 rfl ⟨by decide, by decide⟩ h
  · replace h := h.2 c3
    refine WP_aload_n dX10_readFlag_8 rfl rfl ⟨Nat.le_of_ble_eq_true rfl, Nat.le_of_ble_eq_true rfl⟩ ?_
    refine WP_getfield (ci := 10) (j := 4) (n := 49) (t := 2) (x := 187) dX10_readFlag_9 f_X10_24 k_183 rfl rfl ?_
    refine WP_bipush dX10_readFlag_12 (by decide +kernel) (by decide) ?_
    refine WP_iload_n dX10_readFlag_14 rfl rfl ?_
    obtain ⟨g22, h⟩ := h
    refine WP_iadd dX10_readFlag_15 g22 ?_
    refine WP_aload_n dX10_readFlag_16 rfl rfl ⟨Nat.le_of_ble_eq_true rfl, Nat.le_of_ble_eq_true rfl⟩ ?_
    refine WP_iconst dX10_readFlag_17 (by decide) ?_
    refine WP_bipush dX10_readFlag_18 (by decide +kernel) (by decide) ?_
    refine WQ_invVi (v := (2, 183)) (as := [(0, 0), (0, 9)]) dX10_readFlag_20 l_X10_210 mw_X10_takes mi_X10_takes ms_X10_takes mo_X10_takes (rcv (ci := 10) (n := 49) (r := (RX10, TX10, 49)) k_183 rfl rfl) (Nat.le_of_ble_eq_true rfl) h rfl (fun r23 μ24 h => ?_)
    obtain ⟨g25, h⟩ := h
    refine WQ_iast (n := 1373) dX10_readFlag_23 k_187 g25 (fun μ26 eμ26 => ?_)
    replace h := h μ26 eμ26
    refine WP_goto (tgt := 83) dX10_readFlag_24 (by decide) ?_
    refine WP_aload_n dX10_readFlag_83 rfl rfl ⟨Nat.le_of_ble_eq_true rfl, Nat.le_of_ble_eq_true rfl⟩ ?_
    refine WP_getfield (ci := 10) (j := 11) (n := 49) (t := 0) (x := μ26 183 11) dX10_readFlag_84 f_X10_154 k_183 rfl rfl ?_
    refine WQ_ifne (tgt := 94) dX10_readFlag_87 (by decide) (fun c27 => ?_) (fun c27 => ?_)
    · replace h := h.1 c27
      refine WP_iconst dX10_readFlag_94 (by decide) ?_
      exact WQ_zreturn dX10_readFlag_95 rfl ⟨by decide, by decide⟩ h
    · replace h := h.2 c27
      refine WP_iconst dX10_readFlag_90 (by decide) ?_
      refine WP_goto (tgt := 95) dX10_readFlag_91 (by decide) ?_
      exact WQ_zreturn dX10_readFlag_95 rfl ⟨by decide, by decide⟩ h

theorem s_X10_readIf_0 {d : Nat} {sc : SC} {Q : Mem → Prop} {μ : Mem} {a1 : Int}
    (h : CAi mX10_goesIn d sc [(2, 183), (0, a1)] μ (fun r1 μ2 => (r1 ≠ 0 → (-2147483648 ≤ a1 + 1 ∧ a1 + 1 < 2147483648) ∧ CAv mX10_readTruth d sc [(2, 183), (0, a1 + 1)] μ2 (fun μ6 => CAi mX10_eats d sc [(2, 183), (0, 13)] μ6 (fun r7 μ8 => (r7 ≠ 0 → (-2147483648 ≤ a1 + 1 ∧ a1 + 1 < 2147483648) ∧ CAv mX10_readSum d sc [(2, 183), (0, a1 + 1)] μ8 (fun μ12 => CAi mX10_eats d sc [(2, 183), (0, 14)] μ12 (fun r13 μ14 => (r13 ≠ 0 → WQ mX10_readIf d sc (ZV sc Q) 51 [(2, 183), (0, a1)] [] μ14) ∧ (r13 = 0 → CAv mX10_fails d sc [(2, 183), (0, 2)] μ14 (fun μ17 => WQ mX10_readIf d sc (ZV sc Q) 51 [(2, 183), (0, a1)] [] μ17))))) ∧ (r7 = 0 → CAv mX10_fails d sc [(2, 183), (0, 2)] μ8 (fun μ19 => (-2147483648 ≤ a1 + 1 ∧ a1 + 1 < 2147483648) ∧ CAv mX10_readSum d sc [(2, 183), (0, a1 + 1)] μ19 (fun μ22 => CAi mX10_eats d sc [(2, 183), (0, 14)] μ22 (fun r23 μ24 => (r23 ≠ 0 → WQ mX10_readIf d sc (ZV sc Q) 51 [(2, 183), (0, a1)] [] μ24) ∧ (r23 = 0 → CAv mX10_fails d sc [(2, 183), (0, 2)] μ24 (fun μ27 => WQ mX10_readIf d sc (ZV sc Q) 51 [(2, 183), (0, a1)] [] μ27))))))))) ∧ (r1 = 0 → Q μ2))) :
    WQ mX10_readIf d sc (ZV sc Q) 0 [(2, 183), (0, a1)] [] μ := by
  refine WP_aload_n dX10_readIf_0 rfl rfl ⟨Nat.le_of_ble_eq_true rfl, Nat.le_of_ble_eq_true rfl⟩ ?_
  refine WP_iload_n dX10_readIf_1 rfl rfl ?_
  refine WQ_invVi (v := (2, 183)) (as := [(0, a1)]) dX10_readIf_2 l_X10_183 mw_X10_goesIn mi_X10_goesIn ms_X10_goesIn mo_X10_goesIn (rcv (ci := 10) (n := 49) (r := (RX10, TX10, 49)) k_183 rfl rfl) (Nat.le_of_ble_eq_true rfl) h rfl (fun r1 μ2 h => ?_)
  refine WQ_ifne (tgt := 9) dX10_readIf_5 (by decide) (fun c3 => ?_) (fun c3 => ?_)
  · replace h := h.1 c3
    refine WP_aload_n dX10_readIf_9 rfl rfl ⟨Nat.le_of_ble_eq_true rfl, Nat.le_of_ble_eq_true rfl⟩ ?_
    refine WP_iload_n dX10_readIf_10 rfl rfl ?_
    refine WP_iconst dX10_readIf_11 (by decide) ?_
    obtain ⟨g4, h⟩ := h
    refine WP_iadd dX10_readIf_12 g4 ?_
    refine WQ_invVv (v := (2, 183)) (as := [(0, a1 + 1)]) dX10_readIf_13 l_X10_195 mw_X10_readTruth mi_X10_readTruth ms_X10_readTruth mo_X10_readTruth (rcv (ci := 10) (n := 49) (r := (RX10, TX10, 49)) k_183 rfl rfl) (Nat.le_of_ble_eq_true rfl) h rfl (fun μ6 h => ?_)
    refine WP_aload_n dX10_readIf_16 rfl rfl ⟨Nat.le_of_ble_eq_true rfl, Nat.le_of_ble_eq_true rfl⟩ ?_
    refine WP_bipush dX10_readIf_17 (by decide +kernel) (by decide) ?_
    refine WQ_invVi (v := (2, 183)) (as := [(0, 13)]) dX10_readIf_19 l_X10_189 mw_X10_eats mi_X10_eats ms_X10_eats mo_X10_eats (rcv (ci := 10) (n := 49) (r := (RX10, TX10, 49)) k_183 rfl rfl) (Nat.le_of_ble_eq_true rfl) h rfl (fun r7 μ8 h => ?_)
    refine WQ_ifne (tgt := 30) dX10_readIf_22 (by decide) (fun c9 => ?_) (fun c9 => ?_)
    · replace h := h.1 c9
      refine WP_aload_n dX10_readIf_30 rfl rfl ⟨Nat.le_of_ble_eq_true rfl, Nat.le_of_ble_eq_true rfl⟩ ?_
      refine WP_iload_n dX10_readIf_31 rfl rfl ?_
      refine WP_iconst dX10_readIf_32 (by decide) ?_
      obtain ⟨g10, h⟩ := h
      refine WP_iadd dX10_readIf_33 g10 ?_
      refine WQ_invVv (v := (2, 183)) (as := [(0, a1 + 1)]) dX10_readIf_34 l_X10_186 mw_X10_readSum mi_X10_readSum ms_X10_readSum mo_X10_readSum (rcv (ci := 10) (n := 49) (r := (RX10, TX10, 49)) k_183 rfl rfl) (Nat.le_of_ble_eq_true rfl) h rfl (fun μ12 h => ?_)
      refine WP_aload_n dX10_readIf_37 rfl rfl ⟨Nat.le_of_ble_eq_true rfl, Nat.le_of_ble_eq_true rfl⟩ ?_
      refine WP_bipush dX10_readIf_38 (by decide +kernel) (by decide) ?_
      refine WQ_invVi (v := (2, 183)) (as := [(0, 14)]) dX10_readIf_40 l_X10_189 mw_X10_eats mi_X10_eats ms_X10_eats mo_X10_eats (rcv (ci := 10) (n := 49) (r := (RX10, TX10, 49)) k_183 rfl rfl) (Nat.le_of_ble_eq_true rfl) h rfl (fun r13 μ14 h => ?_)
      refine WQ_ifne (tgt := 51) dX10_readIf_43 (by decide) (fun c15 => ?_) (fun c15 => ?_)
      · replace h := h.1 c15
        exact h
      · replace h := h.2 c15
        refine WP_aload_n dX10_readIf_46 rfl rfl ⟨Nat.le_of_ble_eq_true rfl, Nat.le_of_ble_eq_true rfl⟩ ?_
        refine WP_iconst dX10_readIf_47 (by decide) ?_
        refine WQ_invVv (v := (2, 183)) (as := [(0, 2)]) dX10_readIf_48 l_X10_166 mw_X10_fails mi_X10_fails ms_X10_fails mo_X10_fails (rcv (ci := 10) (n := 49) (r := (RX10, TX10, 49)) k_183 rfl rfl) (Nat.le_of_ble_eq_true rfl) h rfl (fun μ17 h => ?_)
        exact h
    · replace h := h.2 c9
      refine WP_aload_n dX10_readIf_25 rfl rfl ⟨Nat.le_of_ble_eq_true rfl, Nat.le_of_ble_eq_true rfl⟩ ?_
      refine WP_iconst dX10_readIf_26 (by decide) ?_
      refine WQ_invVv (v := (2, 183)) (as := [(0, 2)]) dX10_readIf_27 l_X10_166 mw_X10_fails mi_X10_fails ms_X10_fails mo_X10_fails (rcv (ci := 10) (n := 49) (r := (RX10, TX10, 49)) k_183 rfl rfl) (Nat.le_of_ble_eq_true rfl) h rfl (fun μ19 h => ?_)
      refine WP_aload_n dX10_readIf_30 rfl rfl ⟨Nat.le_of_ble_eq_true rfl, Nat.le_of_ble_eq_true rfl⟩ ?_
      refine WP_iload_n dX10_readIf_31 rfl rfl ?_
      refine WP_iconst dX10_readIf_32 (by decide) ?_
      obtain ⟨g20, h⟩ := h
      refine WP_iadd dX10_readIf_33 g20 ?_
      refine WQ_invVv (v := (2, 183)) (as := [(0, a1 + 1)]) dX10_readIf_34 l_X10_186 mw_X10_readSum mi_X10_readSum ms_X10_readSum mo_X10_readSum (rcv (ci := 10) (n := 49) (r := (RX10, TX10, 49)) k_183 rfl rfl) (Nat.le_of_ble_eq_true rfl) h rfl (fun μ22 h => ?_)
      refine WP_aload_n dX10_readIf_37 rfl rfl ⟨Nat.le_of_ble_eq_true rfl, Nat.le_of_ble_eq_true rfl⟩ ?_
      refine WP_bipush dX10_readIf_38 (by decide +kernel) (by decide) ?_
      refine WQ_invVi (v := (2, 183)) (as := [(0, 14)]) dX10_readIf_40 l_X10_189 mw_X10_eats mi_X10_eats ms_X10_eats mo_X10_eats (rcv (ci := 10) (n := 49) (r := (RX10, TX10, 49)) k_183 rfl rfl) (Nat.le_of_ble_eq_true rfl) h rfl (fun r23 μ24 h => ?_)
      refine WQ_ifne (tgt := 51) dX10_readIf_43 (by decide) (fun c25 => ?_) (fun c25 => ?_)
      · replace h := h.1 c25
        exact h
      · replace h := h.2 c25
        refine WP_aload_n dX10_readIf_46 rfl rfl ⟨Nat.le_of_ble_eq_true rfl, Nat.le_of_ble_eq_true rfl⟩ ?_
        refine WP_iconst dX10_readIf_47 (by decide) ?_
        refine WQ_invVv (v := (2, 183)) (as := [(0, 2)]) dX10_readIf_48 l_X10_166 mw_X10_fails mi_X10_fails ms_X10_fails mo_X10_fails (rcv (ci := 10) (n := 49) (r := (RX10, TX10, 49)) k_183 rfl rfl) (Nat.le_of_ble_eq_true rfl) h rfl (fun μ27 h => ?_)
        exact h
  · replace h := h.2 c3
    exact WQ_return dX10_readIf_8 rfl h

theorem s_X10_readIf_51 {d : Nat} {sc : SC} {Q : Mem → Prop} {μ : Mem} {x1 : Int}
    (h : (-2147483648 ≤ x1 + 1 ∧ x1 + 1 < 2147483648) ∧ CAv mX10_readSum d sc [(2, 183), (0, x1 + 1)] μ (fun μ3 => CAi mX10_eats d sc [(2, 183), (0, 15)] μ3 (fun r4 μ5 => (r4 ≠ 0 → CAv mX10_codes d sc [(2, 183), (0, 3009)] μ5 (fun μ8 => Q μ8)) ∧ (r4 = 0 → CAv mX10_fails d sc [(2, 183), (0, 2)] μ5 (fun μ10 => CAv mX10_codes d sc [(2, 183), (0, 3009)] μ10 (fun μ12 => Q μ12)))))) :
    WQ mX10_readIf d sc (ZV sc Q) 51 [(2, 183), (0, x1)] [] μ := by
  refine WP_aload_n dX10_readIf_51 rfl rfl ⟨Nat.le_of_ble_eq_true rfl, Nat.le_of_ble_eq_true rfl⟩ ?_
  refine WP_iload_n dX10_readIf_52 rfl rfl ?_
  refine WP_iconst dX10_readIf_53 (by decide) ?_
  obtain ⟨g1, h⟩ := h
  refine WP_iadd dX10_readIf_54 g1 ?_
  refine WQ_invVv (v := (2, 183)) (as := [(0, x1 + 1)]) dX10_readIf_55 l_X10_186 mw_X10_readSum mi_X10_readSum ms_X10_readSum mo_X10_readSum (rcv (ci := 10) (n := 49) (r := (RX10, TX10, 49)) k_183 rfl rfl) (Nat.le_of_ble_eq_true rfl) h rfl (fun μ3 h => ?_)
  refine WP_aload_n dX10_readIf_58 rfl rfl ⟨Nat.le_of_ble_eq_true rfl, Nat.le_of_ble_eq_true rfl⟩ ?_
  refine WP_bipush dX10_readIf_59 (by decide +kernel) (by decide) ?_
  refine WQ_invVi (v := (2, 183)) (as := [(0, 15)]) dX10_readIf_61 l_X10_189 mw_X10_eats mi_X10_eats ms_X10_eats mo_X10_eats (rcv (ci := 10) (n := 49) (r := (RX10, TX10, 49)) k_183 rfl rfl) (Nat.le_of_ble_eq_true rfl) h rfl (fun r4 μ5 h => ?_)
  refine WQ_ifne (tgt := 72) dX10_readIf_64 (by decide) (fun c6 => ?_) (fun c6 => ?_)
  · replace h := h.1 c6
    refine WP_aload_n dX10_readIf_72 rfl rfl ⟨Nat.le_of_ble_eq_true rfl, Nat.le_of_ble_eq_true rfl⟩ ?_
    refine WP_sipush dX10_readIf_73 (by decide +kernel) (by decide) ?_
    refine WQ_invVv (v := (2, 183)) (as := [(0, 3009)]) dX10_readIf_76 l_X10_177 mw_X10_codes mi_X10_codes ms_X10_codes mo_X10_codes (rcv (ci := 10) (n := 49) (r := (RX10, TX10, 49)) k_183 rfl rfl) (Nat.le_of_ble_eq_true rfl) h rfl (fun μ8 h => ?_)
    exact WQ_return dX10_readIf_79 rfl h
  · replace h := h.2 c6
    refine WP_aload_n dX10_readIf_67 rfl rfl ⟨Nat.le_of_ble_eq_true rfl, Nat.le_of_ble_eq_true rfl⟩ ?_
    refine WP_iconst dX10_readIf_68 (by decide) ?_
    refine WQ_invVv (v := (2, 183)) (as := [(0, 2)]) dX10_readIf_69 l_X10_166 mw_X10_fails mi_X10_fails ms_X10_fails mo_X10_fails (rcv (ci := 10) (n := 49) (r := (RX10, TX10, 49)) k_183 rfl rfl) (Nat.le_of_ble_eq_true rfl) h rfl (fun μ10 h => ?_)
    refine WP_aload_n dX10_readIf_72 rfl rfl ⟨Nat.le_of_ble_eq_true rfl, Nat.le_of_ble_eq_true rfl⟩ ?_
    refine WP_sipush dX10_readIf_73 (by decide +kernel) (by decide) ?_
    refine WQ_invVv (v := (2, 183)) (as := [(0, 3009)]) dX10_readIf_76 l_X10_177 mw_X10_codes mi_X10_codes ms_X10_codes mo_X10_codes (rcv (ci := 10) (n := 49) (r := (RX10, TX10, 49)) k_183 rfl rfl) (Nat.le_of_ble_eq_true rfl) h rfl (fun μ12 h => ?_)
    exact WQ_return dX10_readIf_79 rfl h

theorem s_X10_readLaw_0 {d : Nat} {sc : SC} {Q : Mem → Prop} {μ : Mem} {a1 : Int}
    (h : CAv mX10_next d sc [(2, 183)] μ (fun μ2 => CAi mX10_eats d sc [(2, 183), (0, 31)] μ2 (fun r3 μ4 => (r3 ≠ 0 → ∀ v7 : Int, v7 = μ4 187 472 → ∀ μ8, μ8 = mup μ4 183 15 a1 → (a1 ≠ 2 → CAv mX10_readSum d sc [(2, 183), (0, 0)] μ8 (fun μ11 => WQ mX10_readLaw d sc (ZV sc Q) 50 [(2, 183), (0, a1), (0, v7)] [] μ11)) ∧ (a1 = 2 → CAv mX10_readTruth d sc [(2, 183), (0, 0)] μ8 (fun μ13 => WQ mX10_readLaw d sc (ZV sc Q) 50 [(2, 183), (0, a1), (0, v7)] [] μ13))) ∧ (r3 = 0 → CAv mX10_fails d sc [(2, 183), (0, 2)] μ4 (fun μ15 => ∀ v17 : Int, v17 = μ15 187 472 → ∀ μ18, μ18 = mup μ15 183 15 a1 → (a1 ≠ 2 → CAv mX10_readSum d sc [(2, 183), (0, 0)] μ18 (fun μ21 => WQ mX10_readLaw d sc (ZV sc Q) 50 [(2, 183), (0, a1), (0, v17)] [] μ21)) ∧ (a1 = 2 → CAv mX10_readTruth d sc [(2, 183), (0, 0)] μ18 (fun μ23 => WQ mX10_readLaw d sc (ZV sc Q) 50 [(2, 183), (0, a1), (0, v17)] [] μ23))))))) :
    WQ mX10_readLaw d sc (ZV sc Q) 0 [(2, 183), (0, a1), (9, 0)] [] μ := by
  refine WP_aload_n dX10_readLaw_0 rfl rfl ⟨Nat.le_of_ble_eq_true rfl, Nat.le_of_ble_eq_true rfl⟩ ?_
  refine WQ_invVv (v := (2, 183)) (as := []) dX10_readLaw_1 l_X10_163 mw_X10_next mi_X10_next ms_X10_next mo_X10_next (rcv (ci := 10) (n := 49) (r := (RX10, TX10, 49)) k_183 rfl rfl) (Nat.le_of_ble_eq_true rfl) h rfl (fun μ2 h => ?_)
  refine WP_aload_n dX10_readLaw_4 rfl rfl ⟨Nat.le_of_ble_eq_true rfl, Nat.le_of_ble_eq_true rfl⟩ ?_
  refine WP_bipush dX10_readLaw_5 (by decide +kernel) (by decide) ?_
  refine WQ_invVi (v := (2, 183)) (as := [(0, 31)]) dX10_readLaw_7 l_X10_189 mw_X10_eats mi_X10_eats ms_X10_eats mo_X10_eats (rcv (ci := 10) (n := 49) (r := (RX10, TX10, 49)) k_183 rfl rfl) (Nat.le_of_ble_eq_true rfl) h rfl (fun r3 μ4 h => ?_)
  refine WQ_ifne (tgt := 18) dX10_readLaw_10 (by decide) (fun c5 => ?_) (fun c5 => ?_)
  · replace h := h.1 c5
    refine WP_aload_n dX10_readLaw_18 rfl rfl ⟨Nat.le_of_ble_eq_true rfl, Nat.le_of_ble_eq_true rfl⟩ ?_
    refine WP_getfield (ci := 10) (j := 4) (n := 49) (t := 2) (x := 187) dX10_readLaw_19 f_X10_24 k_183 rfl rfl ?_
    refine WP_sipush dX10_readLaw_22 (by decide +kernel) (by decide) ?_
    refine WP_iaload (n := 1373) dX10_readLaw_25 k_187 ⟨by decide, by decide⟩ ?_
    refine WQ_nm0 (fun v7 e7 => ?_)
    replace h := h v7 e7
    refine WP_istore_n (L' := [(2, 183), (0, a1), (0, v7)]) dX10_readLaw_26 rfl (by decide) rfl ?_
    refine WP_aload_n dX10_readLaw_27 rfl rfl ⟨Nat.le_of_ble_eq_true rfl, Nat.le_of_ble_eq_true rfl⟩ ?_
    refine WP_iload_n dX10_readLaw_28 rfl rfl ?_
    refine WQ_put (ci := 10) (j := 15) (n := 49) dX10_readLaw_29 f_X10_174 k_183 rfl (fun μ8 eμ8 => ?_)
    replace h := h μ8 eμ8
    refine WP_iload_n dX10_readLaw_32 rfl rfl ?_
    refine WP_iconst dX10_readLaw_33 (by decide) ?_
    refine WQ_icmp_ne (tgt := 45) dX10_readLaw_34 (by decide) (fun c9 => ?_) (fun c9 => ?_)
    · replace h := h.1 c9
      refine WP_aload_n dX10_readLaw_45 rfl rfl ⟨Nat.le_of_ble_eq_true rfl, Nat.le_of_ble_eq_true rfl⟩ ?_
      refine WP_iconst dX10_readLaw_46 (by decide) ?_
      refine WQ_invVv (v := (2, 183)) (as := [(0, 0)]) dX10_readLaw_47 l_X10_186 mw_X10_readSum mi_X10_readSum ms_X10_readSum mo_X10_readSum (rcv (ci := 10) (n := 49) (r := (RX10, TX10, 49)) k_183 rfl rfl) (Nat.le_of_ble_eq_true rfl) h rfl (fun μ11 h => ?_)
      exact h
    · replace h := h.2 c9
      refine WP_aload_n dX10_readLaw_37 rfl rfl ⟨Nat.le_of_ble_eq_true rfl, Nat.le_of_ble_eq_true rfl⟩ ?_
      refine WP_iconst dX10_readLaw_38 (by decide) ?_
      refine WQ_invVv (v := (2, 183)) (as := [(0, 0)]) dX10_readLaw_39 l_X10_195 mw_X10_readTruth mi_X10_readTruth ms_X10_readTruth mo_X10_readTruth (rcv (ci := 10) (n := 49) (r := (RX10, TX10, 49)) k_183 rfl rfl) (Nat.le_of_ble_eq_true rfl) h rfl (fun μ13 h => ?_)
      refine WP_goto (tgt := 50) dX10_readLaw_42 (by decide) ?_
      exact h
  · replace h := h.2 c5
    refine WP_aload_n dX10_readLaw_13 rfl rfl ⟨Nat.le_of_ble_eq_true rfl, Nat.le_of_ble_eq_true rfl⟩ ?_
    refine WP_iconst dX10_readLaw_14 (by decide) ?_
    refine WQ_invVv (v := (2, 183)) (as := [(0, 2)]) dX10_readLaw_15 l_X10_166 mw_X10_fails mi_X10_fails ms_X10_fails mo_X10_fails (rcv (ci := 10) (n := 49) (r := (RX10, TX10, 49)) k_183 rfl rfl) (Nat.le_of_ble_eq_true rfl) h rfl (fun μ15 h => ?_)
    refine WP_aload_n dX10_readLaw_18 rfl rfl ⟨Nat.le_of_ble_eq_true rfl, Nat.le_of_ble_eq_true rfl⟩ ?_
    refine WP_getfield (ci := 10) (j := 4) (n := 49) (t := 2) (x := 187) dX10_readLaw_19 f_X10_24 k_183 rfl rfl ?_
    refine WP_sipush dX10_readLaw_22 (by decide +kernel) (by decide) ?_
    refine WP_iaload (n := 1373) dX10_readLaw_25 k_187 ⟨by decide, by decide⟩ ?_
    refine WQ_nm0 (fun v17 e17 => ?_)
    replace h := h v17 e17
    refine WP_istore_n (L' := [(2, 183), (0, a1), (0, v17)]) dX10_readLaw_26 rfl (by decide) rfl ?_
    refine WP_aload_n dX10_readLaw_27 rfl rfl ⟨Nat.le_of_ble_eq_true rfl, Nat.le_of_ble_eq_true rfl⟩ ?_
    refine WP_iload_n dX10_readLaw_28 rfl rfl ?_
    refine WQ_put (ci := 10) (j := 15) (n := 49) dX10_readLaw_29 f_X10_174 k_183 rfl (fun μ18 eμ18 => ?_)
    replace h := h μ18 eμ18
    refine WP_iload_n dX10_readLaw_32 rfl rfl ?_
    refine WP_iconst dX10_readLaw_33 (by decide) ?_
    refine WQ_icmp_ne (tgt := 45) dX10_readLaw_34 (by decide) (fun c19 => ?_) (fun c19 => ?_)
    · replace h := h.1 c19
      refine WP_aload_n dX10_readLaw_45 rfl rfl ⟨Nat.le_of_ble_eq_true rfl, Nat.le_of_ble_eq_true rfl⟩ ?_
      refine WP_iconst dX10_readLaw_46 (by decide) ?_
      refine WQ_invVv (v := (2, 183)) (as := [(0, 0)]) dX10_readLaw_47 l_X10_186 mw_X10_readSum mi_X10_readSum ms_X10_readSum mo_X10_readSum (rcv (ci := 10) (n := 49) (r := (RX10, TX10, 49)) k_183 rfl rfl) (Nat.le_of_ble_eq_true rfl) h rfl (fun μ21 h => ?_)
      exact h
    · replace h := h.2 c19
      refine WP_aload_n dX10_readLaw_37 rfl rfl ⟨Nat.le_of_ble_eq_true rfl, Nat.le_of_ble_eq_true rfl⟩ ?_
      refine WP_iconst dX10_readLaw_38 (by decide) ?_
      refine WQ_invVv (v := (2, 183)) (as := [(0, 0)]) dX10_readLaw_39 l_X10_195 mw_X10_readTruth mi_X10_readTruth ms_X10_readTruth mo_X10_readTruth (rcv (ci := 10) (n := 49) (r := (RX10, TX10, 49)) k_183 rfl rfl) (Nat.le_of_ble_eq_true rfl) h rfl (fun μ23 h => ?_)
      refine WP_goto (tgt := 50) dX10_readLaw_42 (by decide) ?_
      exact h

theorem s_X10_readLaw_50 {d : Nat} {sc : SC} {Q : Mem → Prop} {μ : Mem} {x1 x2 : Int}
    (h : (μ 183 11 = 0 → (-2147483648 ≤ 4 + x1 ∧ 4 + x1 < 2147483648) ∧ (0 ≤ 4 + x1 ∧ 4 + x1 < 1373) ∧ (∀ μ4, μ4 = mup μ 187 (4 + x1) 1 → (-2147483648 ≤ 7 + x1 ∧ 7 + x1 < 2147483648) ∧ (0 ≤ 7 + x1 ∧ 7 + x1 < 1373) ∧ (∀ μ7, μ7 = mup μ4 187 (7 + x1) x2 → (-2147483648 ≤ 10 + x1 ∧ 10 + x1 < 2147483648) ∧ (-2147483648 ≤ (μ7 187 472) - x2 ∧ (μ7 187 472) - x2 < 2147483648) ∧ (0 ≤ 10 + x1 ∧ 10 + x1 < 1373) ∧ (∀ μ12, μ12 = mup μ7 187 (10 + x1) ((μ7 187 472) - x2) → Q μ12)))) ∧ (μ 183 11 ≠ 0 → Q μ)) :
    WQ mX10_readLaw d sc (ZV sc Q) 50 [(2, 183), (0, x1), (0, x2)] [] μ := by
  refine WP_aload_n dX10_readLaw_50 rfl rfl ⟨Nat.le_of_ble_eq_true rfl, Nat.le_of_ble_eq_true rfl⟩ ?_
  refine WP_getfield (ci := 10) (j := 11) (n := 49) (t := 0) (x := μ 183 11) dX10_readLaw_51 f_X10_154 k_183 rfl rfl ?_
  refine WQ_ifeq (tgt := 58) dX10_readLaw_54 (by decide) (fun c1 => ?_) (fun c1 => ?_)
  · replace h := h.1 c1
    refine WP_aload_n dX10_readLaw_58 rfl rfl ⟨Nat.le_of_ble_eq_true rfl, Nat.le_of_ble_eq_true rfl⟩ ?_
    refine WP_getfield (ci := 10) (j := 4) (n := 49) (t := 2) (x := 187) dX10_readLaw_59 f_X10_24 k_183 rfl rfl ?_
    refine WP_iconst dX10_readLaw_62 (by decide) ?_
    refine WP_iload_n dX10_readLaw_63 rfl rfl ?_
    obtain ⟨g2, h⟩ := h
    refine WP_iadd dX10_readLaw_64 g2 ?_
    refine WP_iconst dX10_readLaw_65 (by decide) ?_
    obtain ⟨g3, h⟩ := h
    refine WQ_iast (n := 1373) dX10_readLaw_66 k_187 g3 (fun μ4 eμ4 => ?_)
    replace h := h μ4 eμ4
    refine WP_aload_n dX10_readLaw_67 rfl rfl ⟨Nat.le_of_ble_eq_true rfl, Nat.le_of_ble_eq_true rfl⟩ ?_
    refine WP_getfield (ci := 10) (j := 4) (n := 49) (t := 2) (x := 187) dX10_readLaw_68 f_X10_24 k_183 rfl rfl ?_
    refine WP_bipush dX10_readLaw_71 (by decide +kernel) (by decide) ?_
    refine WP_iload_n dX10_readLaw_73 rfl rfl ?_
    obtain ⟨g5, h⟩ := h
    refine WP_iadd dX10_readLaw_74 g5 ?_
    refine WP_iload_n dX10_readLaw_75 rfl rfl ?_
    obtain ⟨g6, h⟩ := h
    refine WQ_iast (n := 1373) dX10_readLaw_76 k_187 g6 (fun μ7 eμ7 => ?_)
    replace h := h μ7 eμ7
    refine WP_aload_n dX10_readLaw_77 rfl rfl ⟨Nat.le_of_ble_eq_true rfl, Nat.le_of_ble_eq_true rfl⟩ ?_
    refine WP_getfield (ci := 10) (j := 4) (n := 49) (t := 2) (x := 187) dX10_readLaw_78 f_X10_24 k_183 rfl rfl ?_
    refine WP_bipush dX10_readLaw_81 (by decide +kernel) (by decide) ?_
    refine WP_iload_n dX10_readLaw_83 rfl rfl ?_
    obtain ⟨g8, h⟩ := h
    refine WP_iadd dX10_readLaw_84 g8 ?_
    refine WP_aload_n dX10_readLaw_85 rfl rfl ⟨Nat.le_of_ble_eq_true rfl, Nat.le_of_ble_eq_true rfl⟩ ?_
    refine WP_getfield (ci := 10) (j := 4) (n := 49) (t := 2) (x := 187) dX10_readLaw_86 f_X10_24 k_183 rfl rfl ?_
    refine WP_sipush dX10_readLaw_89 (by decide +kernel) (by decide) ?_
    refine WP_iaload (n := 1373) dX10_readLaw_92 k_187 ⟨by decide, by decide⟩ ?_
    refine WP_iload_n dX10_readLaw_93 rfl rfl ?_
    obtain ⟨g10, h⟩ := h
    refine WP_isub dX10_readLaw_94 g10 ?_
    obtain ⟨g11, h⟩ := h
    refine WQ_iast (n := 1373) dX10_readLaw_95 k_187 g11 (fun μ12 eμ12 => ?_)
    replace h := h μ12 eμ12
    exact WQ_return dX10_readLaw_96 rfl h
  · replace h := h.2 c1
    exact WQ_return dX10_readLaw_57 rfl h

theorem s_X10_readLine_0 {d : Nat} {sc : SC} {Q : Mem → Prop} {μ : Mem}
    (h : (μ 183 11 = 0 → CAi mX10_is d sc [(2, 183), (0, 1)] μ (fun r2 μ3 => (r2 = 0 → CAi mX10_is d sc [(2, 183), (0, 5)] μ3 (fun r5 μ6 => (r5 = 0 → CAi mX10_eats d sc [(2, 183), (0, 8)] μ6 (fun r8 μ9 => (r8 = 0 → CAi mX10_is d sc [(2, 183), (0, 9)] μ9 (fun r11 μ12 => (r11 ≠ 0 → (-2147483648 ≤ (μ12 183 9) - 9 ∧ (μ12 183 9) - 9 < 2147483648) ∧ CAv mX10_readLaw d sc [(2, 183), (0, (μ12 183 9) - 9)] μ12 (fun μ16 => Q μ16)) ∧ (r11 = 0 → CAi mX10_is d sc [(2, 183), (0, 10)] μ12 (fun r17 μ18 => (r17 ≠ 0 → (-2147483648 ≤ (μ18 183 9) - 9 ∧ (μ18 183 9) - 9 < 2147483648) ∧ CAv mX10_readLaw d sc [(2, 183), (0, (μ18 183 9) - 9)] μ18 (fun μ22 => Q μ22)) ∧ (r17 = 0 → CAi mX10_is d sc [(2, 183), (0, 11)] μ18 (fun r23 μ24 => (r23 = 0 → CAv mX10_fails d sc [(2, 183), (0, 2)] μ24 (fun μ27 => Q μ27)) ∧ (r23 ≠ 0 → (-2147483648 ≤ (μ24 183 9) - 9 ∧ (μ24 183 9) - 9 < 2147483648) ∧ CAv mX10_readLaw d sc [(2, 183), (0, (μ24 183 9) - 9)] μ24 (fun μ30 => Q μ30)))))))) ∧ (r8 ≠ 0 → CAi mX10_takes d sc [(2, 183), (0, 0), (0, 9)] μ9 (fun r31 μ32 => ∀ μ34, μ34 = mup μ32 187 70 r31 → Q μ34)))) ∧ (r5 ≠ 0 → CAv mX10_readNames d sc [(2, 183)] μ6 (fun μ36 => Q μ36)))) ∧ (r2 ≠ 0 → CAv mX10_readPerson d sc [(2, 183)] μ3 (fun μ38 => Q μ38)))) ∧ (μ 183 11 ≠ 0 → Q μ)) :
    WQ mX10_readLine d sc (ZV sc Q) 0 [(2, 183)] [] μ := by
  refine WP_aload_n dX10_readLine_0 rfl rfl ⟨Nat.le_of_ble_eq_true rfl, Nat.le_of_ble_eq_true rfl⟩ ?_
  refine WP_getfield (ci := 10) (j := 11) (n := 49) (t := 0) (x := μ 183 11) dX10_readLine_1 f_X10_154 k_183 rfl rfl ?_
  refine WQ_ifeq (tgt := 8) dX10_readLine_4 (by decide) (fun c1 => ?_) (fun c1 => ?_)
  · replace h := h.1 c1
    refine WP_aload_n dX10_readLine_8 rfl rfl ⟨Nat.le_of_ble_eq_true rfl, Nat.le_of_ble_eq_true rfl⟩ ?_
    refine WP_iconst dX10_readLine_9 (by decide) ?_
    refine WQ_invVi (v := (2, 183)) (as := [(0, 1)]) dX10_readLine_10 l_X10_160 mw_X10_is mi_X10_is ms_X10_is mo_X10_is (rcv (ci := 10) (n := 49) (r := (RX10, TX10, 49)) k_183 rfl rfl) (Nat.le_of_ble_eq_true rfl) h rfl (fun r2 μ3 h => ?_)
    refine WQ_ifeq (tgt := 23) dX10_readLine_13 (by decide) (fun c4 => ?_) (fun c4 => ?_)
    · replace h := h.1 c4
      refine WP_aload_n dX10_readLine_23 rfl rfl ⟨Nat.le_of_ble_eq_true rfl, Nat.le_of_ble_eq_true rfl⟩ ?_
      refine WP_iconst dX10_readLine_24 (by decide) ?_
      refine WQ_invVi (v := (2, 183)) (as := [(0, 5)]) dX10_readLine_25 l_X10_160 mw_X10_is mi_X10_is ms_X10_is mo_X10_is (rcv (ci := 10) (n := 49) (r := (RX10, TX10, 49)) k_183 rfl rfl) (Nat.le_of_ble_eq_true rfl) h rfl (fun r5 μ6 h => ?_)
      refine WQ_ifeq (tgt := 38) dX10_readLine_28 (by decide) (fun c7 => ?_) (fun c7 => ?_)
      · replace h := h.1 c7
        refine WP_aload_n dX10_readLine_38 rfl rfl ⟨Nat.le_of_ble_eq_true rfl, Nat.le_of_ble_eq_true rfl⟩ ?_
        refine WP_bipush dX10_readLine_39 (by decide +kernel) (by decide) ?_
        refine WQ_invVi (v := (2, 183)) (as := [(0, 8)]) dX10_readLine_41 l_X10_189 mw_X10_eats mi_X10_eats ms_X10_eats mo_X10_eats (rcv (ci := 10) (n := 49) (r := (RX10, TX10, 49)) k_183 rfl rfl) (Nat.le_of_ble_eq_true rfl) h rfl (fun r8 μ9 h => ?_)
        refine WQ_ifeq (tgt := 64) dX10_readLine_44 (by decide) (fun c10 => ?_) (fun c10 => ?_)
        · replace h := h.1 c10
          refine WP_aload_n dX10_readLine_64 rfl rfl ⟨Nat.le_of_ble_eq_true rfl, Nat.le_of_ble_eq_true rfl⟩ ?_
          refine WP_bipush dX10_readLine_65 (by decide +kernel) (by decide) ?_
          refine WQ_invVi (v := (2, 183)) (as := [(0, 9)]) dX10_readLine_67 l_X10_160 mw_X10_is mi_X10_is ms_X10_is mo_X10_is (rcv (ci := 10) (n := 49) (r := (RX10, TX10, 49)) k_183 rfl rfl) (Nat.le_of_ble_eq_true rfl) h rfl (fun r11 μ12 h => ?_)
          refine WQ_ifne (tgt := 91) dX10_readLine_70 (by decide) (fun c13 => ?_) (fun c13 => ?_)
          · replace h := h.1 c13
            refine WP_aload_n dX10_readLine_91 rfl rfl ⟨Nat.le_of_ble_eq_true rfl, Nat.le_of_ble_eq_true rfl⟩ ?_
            refine WP_aload_n dX10_readLine_92 rfl rfl ⟨Nat.le_of_ble_eq_true rfl, Nat.le_of_ble_eq_true rfl⟩ ?_
            refine WP_getfield (ci := 10) (j := 9) (n := 49) (t := 0) (x := μ12 183 9) dX10_readLine_93 f_X10_136 k_183 rfl rfl ?_
            refine WP_bipush dX10_readLine_96 (by decide +kernel) (by decide) ?_
            obtain ⟨g14, h⟩ := h
            refine WP_isub dX10_readLine_98 g14 ?_
            refine WQ_invVv (v := (2, 183)) (as := [(0, (μ12 183 9) - 9)]) dX10_readLine_99 l_X10_223 mw_X10_readLaw mi_X10_readLaw ms_X10_readLaw mo_X10_readLaw (rcv (ci := 10) (n := 49) (r := (RX10, TX10, 49)) k_183 rfl rfl) (Nat.le_of_ble_eq_true rfl) h rfl (fun μ16 h => ?_)
            refine WP_goto (tgt := 110) dX10_readLine_102 (by decide) ?_
            exact WQ_return dX10_readLine_110 rfl h
          · replace h := h.2 c13
            refine WP_aload_n dX10_readLine_73 rfl rfl ⟨Nat.le_of_ble_eq_true rfl, Nat.le_of_ble_eq_true rfl⟩ ?_
            refine WP_bipush dX10_readLine_74 (by decide +kernel) (by decide) ?_
            refine WQ_invVi (v := (2, 183)) (as := [(0, 10)]) dX10_readLine_76 l_X10_160 mw_X10_is mi_X10_is ms_X10_is mo_X10_is (rcv (ci := 10) (n := 49) (r := (RX10, TX10, 49)) k_183 rfl rfl) (Nat.le_of_ble_eq_true rfl) h rfl (fun r17 μ18 h => ?_)
            refine WQ_ifne (tgt := 91) dX10_readLine_79 (by decide) (fun c19 => ?_) (fun c19 => ?_)
            · replace h := h.1 c19
              refine WP_aload_n dX10_readLine_91 rfl rfl ⟨Nat.le_of_ble_eq_true rfl, Nat.le_of_ble_eq_true rfl⟩ ?_
              refine WP_aload_n dX10_readLine_92 rfl rfl ⟨Nat.le_of_ble_eq_true rfl, Nat.le_of_ble_eq_true rfl⟩ ?_
              refine WP_getfield (ci := 10) (j := 9) (n := 49) (t := 0) (x := μ18 183 9) dX10_readLine_93 f_X10_136 k_183 rfl rfl ?_
              refine WP_bipush dX10_readLine_96 (by decide +kernel) (by decide) ?_
              obtain ⟨g20, h⟩ := h
              refine WP_isub dX10_readLine_98 g20 ?_
              refine WQ_invVv (v := (2, 183)) (as := [(0, (μ18 183 9) - 9)]) dX10_readLine_99 l_X10_223 mw_X10_readLaw mi_X10_readLaw ms_X10_readLaw mo_X10_readLaw (rcv (ci := 10) (n := 49) (r := (RX10, TX10, 49)) k_183 rfl rfl) (Nat.le_of_ble_eq_true rfl) h rfl (fun μ22 h => ?_)
              refine WP_goto (tgt := 110) dX10_readLine_102 (by decide) ?_
              exact WQ_return dX10_readLine_110 rfl h
            · replace h := h.2 c19
              refine WP_aload_n dX10_readLine_82 rfl rfl ⟨Nat.le_of_ble_eq_true rfl, Nat.le_of_ble_eq_true rfl⟩ ?_
              refine WP_bipush dX10_readLine_83 (by decide +kernel) (by decide) ?_
              refine WQ_invVi (v := (2, 183)) (as := [(0, 11)]) dX10_readLine_85 l_X10_160 mw_X10_is mi_X10_is ms_X10_is mo_X10_is (rcv (ci := 10) (n := 49) (r := (RX10, TX10, 49)) k_183 rfl rfl) (Nat.le_of_ble_eq_true rfl) h rfl (fun r23 μ24 h => ?_)
              refine WQ_ifeq (tgt := 105) dX10_readLine_88 (by decide) (fun c25 => ?_) (fun c25 => ?_)
              · replace h := h.1 c25
                refine WP_aload_n dX10_readLine_105 rfl rfl ⟨Nat.le_of_ble_eq_true rfl, Nat.le_of_ble_eq_true rfl⟩ ?_
                refine WP_iconst dX10_readLine_106 (by decide) ?_
                refine WQ_invVv (v := (2, 183)) (as := [(0, 2)]) dX10_readLine_107 l_X10_166 mw_X10_fails mi_X10_fails ms_X10_fails mo_X10_fails (rcv (ci := 10) (n := 49) (r := (RX10, TX10, 49)) k_183 rfl rfl) (Nat.le_of_ble_eq_true rfl) h rfl (fun μ27 h => ?_)
                exact WQ_return dX10_readLine_110 rfl h
              · replace h := h.2 c25
                refine WP_aload_n dX10_readLine_91 rfl rfl ⟨Nat.le_of_ble_eq_true rfl, Nat.le_of_ble_eq_true rfl⟩ ?_
                refine WP_aload_n dX10_readLine_92 rfl rfl ⟨Nat.le_of_ble_eq_true rfl, Nat.le_of_ble_eq_true rfl⟩ ?_
                refine WP_getfield (ci := 10) (j := 9) (n := 49) (t := 0) (x := μ24 183 9) dX10_readLine_93 f_X10_136 k_183 rfl rfl ?_
                refine WP_bipush dX10_readLine_96 (by decide +kernel) (by decide) ?_
                obtain ⟨g28, h⟩ := h
                refine WP_isub dX10_readLine_98 g28 ?_
                refine WQ_invVv (v := (2, 183)) (as := [(0, (μ24 183 9) - 9)]) dX10_readLine_99 l_X10_223 mw_X10_readLaw mi_X10_readLaw ms_X10_readLaw mo_X10_readLaw (rcv (ci := 10) (n := 49) (r := (RX10, TX10, 49)) k_183 rfl rfl) (Nat.le_of_ble_eq_true rfl) h rfl (fun μ30 h => ?_)
                refine WP_goto (tgt := 110) dX10_readLine_102 (by decide) ?_
                exact WQ_return dX10_readLine_110 rfl h
        · replace h := h.2 c10
          refine WP_aload_n dX10_readLine_47 rfl rfl ⟨Nat.le_of_ble_eq_true rfl, Nat.le_of_ble_eq_true rfl⟩ ?_
          refine WP_getfield (ci := 10) (j := 4) (n := 49) (t := 2) (x := 187) dX10_readLine_48 f_X10_24 k_183 rfl rfl ?_
          refine WP_bipush dX10_readLine_51 (by decide +kernel) (by decide) ?_
          refine WP_aload_n dX10_readLine_53 rfl rfl ⟨Nat.le_of_ble_eq_true rfl, Nat.le_of_ble_eq_true rfl⟩ ?_
          refine WP_iconst dX10_readLine_54 (by decide) ?_
          refine WP_bipush dX10_readLine_55 (by decide +kernel) (by decide) ?_
          refine WQ_invVi (v := (2, 183)) (as := [(0, 0), (0, 9)]) dX10_readLine_57 l_X10_210 mw_X10_takes mi_X10_takes ms_X10_takes mo_X10_takes (rcv (ci := 10) (n := 49) (r := (RX10, TX10, 49)) k_183 rfl rfl) (Nat.le_of_ble_eq_true rfl) h rfl (fun r31 μ32 h => ?_)
          refine WQ_iast (n := 1373) dX10_readLine_60 k_187 ⟨by decide, by decide⟩ (fun μ34 eμ34 => ?_)
          replace h := h μ34 eμ34
          refine WP_goto (tgt := 110) dX10_readLine_61 (by decide) ?_
          exact WQ_return dX10_readLine_110 rfl h
      · replace h := h.2 c7
        refine WP_aload_n dX10_readLine_31 rfl rfl ⟨Nat.le_of_ble_eq_true rfl, Nat.le_of_ble_eq_true rfl⟩ ?_
        refine WQ_invVv (v := (2, 183)) (as := []) dX10_readLine_32 l_X10_220 mw_X10_readNames mi_X10_readNames ms_X10_readNames mo_X10_readNames (rcv (ci := 10) (n := 49) (r := (RX10, TX10, 49)) k_183 rfl rfl) (Nat.le_of_ble_eq_true rfl) h rfl (fun μ36 h => ?_)
        refine WP_goto (tgt := 110) dX10_readLine_35 (by decide) ?_
        exact WQ_return dX10_readLine_110 rfl h
    · replace h := h.2 c4
      refine WP_aload_n dX10_readLine_16 rfl rfl ⟨Nat.le_of_ble_eq_true rfl, Nat.le_of_ble_eq_true rfl⟩ ?_
      refine WQ_invVv (v := (2, 183)) (as := []) dX10_readLine_17 l_X10_217 mw_X10_readPerson mi_X10_readPerson ms_X10_readPerson mo_X10_readPerson (rcv (ci := 10) (n := 49) (r := (RX10, TX10, 49)) k_183 rfl rfl) (Nat.le_of_ble_eq_true rfl) h rfl (fun μ38 h => ?_)
      refine WP_goto (tgt := 110) dX10_readLine_20 (by decide) ?_
      exact WQ_return dX10_readLine_110 rfl h
  · replace h := h.2 c1
    exact WQ_return dX10_readLine_7 rfl h

theorem s_X10_readNames_0 {d : Nat} {sc : SC} {Q : Mem → Prop} {μ : Mem}
    (h : ∀ v2 : Int, v2 = μ 187 31 → (v2 ≠ 8 → (μ 183 11 = 0 → CAv mX10_next d sc [(2, 183)] μ (fun μ6 => (-2147483648 ≤ 4 * v2 ∧ 4 * v2 < 2147483648) ∧ (-2147483648 ≤ 32 + (4 * v2) ∧ 32 + (4 * v2) < 2147483648) ∧ (∀ v9 : Int, v9 = 32 + (4 * v2) → (-2147483648 ≤ (μ6 187 3) - 1 ∧ (μ6 187 3) - 1 < 2147483648) ∧ CAi mX10_takes d sc [(2, 183), (0, 0), (0, (μ6 187 3) - 1)] μ6 (fun r12 μ13 => (0 ≤ v9 ∧ v9 < 1373) ∧ (∀ μ15, μ15 = mup μ13 187 v9 r12 → CAi mX10_is d sc [(2, 183), (0, 25)] μ15 (fun r16 μ17 => (r16 = 0 → WQ mX10_readNames d sc (ZV sc Q) 84 [(2, 183), (9, 0), (0, v9)] [] μ17) ∧ (r16 ≠ 0 → (0 ≤ v9 ∧ v9 < 1373) ∧ (μ17 183 10 ≠ μ17 187 v9 → WQ mX10_readNames d sc (ZV sc Q) 84 [(2, 183), (9, 0), (0, v9)] [] μ17) ∧ (μ17 183 10 = μ17 187 v9 → CAv mX10_fails d sc [(2, 183), (0, 3)] μ17 (fun μ22 => WQ mX10_readNames d sc (ZV sc Q) 84 [(2, 183), (9, 0), (0, v9)] [] μ22))))))))) ∧ (μ 183 11 ≠ 0 → Q μ)) ∧ (v2 = 8 → CAv mX10_fails d sc [(2, 183), (0, 4)] μ (fun μ24 => (μ24 183 11 = 0 → CAv mX10_next d sc [(2, 183)] μ24 (fun μ27 => (-2147483648 ≤ 4 * v2 ∧ 4 * v2 < 2147483648) ∧ (-2147483648 ≤ 32 + (4 * v2) ∧ 32 + (4 * v2) < 2147483648) ∧ (∀ v30 : Int, v30 = 32 + (4 * v2) → (-2147483648 ≤ (μ27 187 3) - 1 ∧ (μ27 187 3) - 1 < 2147483648) ∧ CAi mX10_takes d sc [(2, 183), (0, 0), (0, (μ27 187 3) - 1)] μ27 (fun r33 μ34 => (0 ≤ v30 ∧ v30 < 1373) ∧ (∀ μ36, μ36 = mup μ34 187 v30 r33 → CAi mX10_is d sc [(2, 183), (0, 25)] μ36 (fun r37 μ38 => (r37 = 0 → WQ mX10_readNames d sc (ZV sc Q) 84 [(2, 183), (9, 0), (0, v30)] [] μ38) ∧ (r37 ≠ 0 → (0 ≤ v30 ∧ v30 < 1373) ∧ (μ38 183 10 ≠ μ38 187 v30 → WQ mX10_readNames d sc (ZV sc Q) 84 [(2, 183), (9, 0), (0, v30)] [] μ38) ∧ (μ38 183 10 = μ38 187 v30 → CAv mX10_fails d sc [(2, 183), (0, 3)] μ38 (fun μ43 => WQ mX10_readNames d sc (ZV sc Q) 84 [(2, 183), (9, 0), (0, v30)] [] μ43))))))))) ∧ (μ24 183 11 ≠ 0 → Q μ24)))) :
    WQ mX10_readNames d sc (ZV sc Q) 0 [(2, 183), (9, 0), (9, 0)] [] μ := by
  refine WP_aload_n dX10_readNames_0 rfl rfl ⟨Nat.le_of_ble_eq_true rfl, Nat.le_of_ble_eq_true rfl⟩ ?_
  refine WP_getfield (ci := 10) (j := 4) (n := 49) (t := 2) (x := 187) dX10_readNames_1 f_X10_24 k_183 rfl rfl ?_
  refine WP_bipush dX10_readNames_4 (by decide +kernel) (by decide) ?_
  refine WP_iaload (n := 1373) dX10_readNames_6 k_187 ⟨by decide, by decide⟩ ?_
  refine WQ_nm0 (fun v2 e2 => ?_)
  replace h := h v2 e2
  refine WP_istore_n (L' := [(2, 183), (0, v2), (9, 0)]) dX10_readNames_7 rfl (by decide) rfl ?_
  refine WP_iload_n dX10_readNames_8 rfl rfl ?_
  refine WP_bipush dX10_readNames_9 (by decide +kernel) (by decide) ?_
  refine WQ_icmp_ne (tgt := 19) dX10_readNames_11 (by decide) (fun c3 => ?_) (fun c3 => ?_)
  · replace h := h.1 c3
    refine WP_aload_n dX10_readNames_19 rfl rfl ⟨Nat.le_of_ble_eq_true rfl, Nat.le_of_ble_eq_true rfl⟩ ?_
    refine WP_getfield (ci := 10) (j := 11) (n := 49) (t := 0) (x := μ 183 11) dX10_readNames_20 f_X10_154 k_183 rfl rfl ?_
    refine WQ_ifeq (tgt := 27) dX10_readNames_23 (by decide) (fun c4 => ?_) (fun c4 => ?_)
    · replace h := h.1 c4
      refine WP_aload_n dX10_readNames_27 rfl rfl ⟨Nat.le_of_ble_eq_true rfl, Nat.le_of_ble_eq_true rfl⟩ ?_
      refine WQ_invVv (v := (2, 183)) (as := []) dX10_readNames_28 l_X10_163 mw_X10_next mi_X10_next ms_X10_next mo_X10_next (rcv (ci := 10) (n := 49) (r := (RX10, TX10, 49)) k_183 rfl rfl) (Nat.le_of_ble_eq_true rfl) h rfl (fun μ6 h => ?_)
      refine WP_bipush dX10_readNames_31 (by decide +kernel) (by decide) ?_
      refine WP_iconst dX10_readNames_33 (by decide) ?_
      refine WP_iload_n dX10_readNames_34 rfl rfl ?_
      obtain ⟨g7, h⟩ := h
      refine WP_imul dX10_readNames_35 g7 ?_
      obtain ⟨g8, h⟩ := h
      refine WP_iadd dX10_readNames_36 g8 ?_
      refine WQ_nm0 (fun v9 e9 => ?_)
      replace h := h v9 e9
      refine WP_istore_n (L' := [(2, 183), (0, v2), (0, v9)]) dX10_readNames_37 rfl (by decide) rfl ?_
      refine WP_aload_n dX10_readNames_38 rfl rfl ⟨Nat.le_of_ble_eq_true rfl, Nat.le_of_ble_eq_true rfl⟩ ?_
      refine WP_getfield (ci := 10) (j := 4) (n := 49) (t := 2) (x := 187) dX10_readNames_39 f_X10_24 k_183 rfl rfl ?_
      refine WP_iload_n dX10_readNames_42 rfl rfl ?_
      refine WP_aload_n dX10_readNames_43 rfl rfl ⟨Nat.le_of_ble_eq_true rfl, Nat.le_of_ble_eq_true rfl⟩ ?_
      refine WP_iconst dX10_readNames_44 (by decide) ?_
      refine WP_aload_n dX10_readNames_45 rfl rfl ⟨Nat.le_of_ble_eq_true rfl, Nat.le_of_ble_eq_true rfl⟩ ?_
      refine WP_getfield (ci := 10) (j := 4) (n := 49) (t := 2) (x := 187) dX10_readNames_46 f_X10_24 k_183 rfl rfl ?_
      refine WP_iconst dX10_readNames_49 (by decide) ?_
      refine WP_iaload (n := 1373) dX10_readNames_50 k_187 ⟨by decide, by decide⟩ ?_
      refine WP_iconst dX10_readNames_51 (by decide) ?_
      obtain ⟨g11, h⟩ := h
      refine WP_isub dX10_readNames_52 g11 ?_
      refine WQ_invVi (v := (2, 183)) (as := [(0, 0), (0, (μ6 187 3) - 1)]) dX10_readNames_53 l_X10_210 mw_X10_takes mi_X10_takes ms_X10_takes mo_X10_takes (rcv (ci := 10) (n := 49) (r := (RX10, TX10, 49)) k_183 rfl rfl) (Nat.le_of_ble_eq_true rfl) h rfl (fun r12 μ13 h => ?_)
      obtain ⟨g14, h⟩ := h
      refine WQ_iast (n := 1373) dX10_readNames_56 k_187 g14 (fun μ15 eμ15 => ?_)
      replace h := h μ15 eμ15
      refine WP_aload_n dX10_readNames_57 rfl rfl ⟨Nat.le_of_ble_eq_true rfl, Nat.le_of_ble_eq_true rfl⟩ ?_
      refine WP_bipush dX10_readNames_58 (by decide +kernel) (by decide) ?_
      refine WQ_invVi (v := (2, 183)) (as := [(0, 25)]) dX10_readNames_60 l_X10_160 mw_X10_is mi_X10_is ms_X10_is mo_X10_is (rcv (ci := 10) (n := 49) (r := (RX10, TX10, 49)) k_183 rfl rfl) (Nat.le_of_ble_eq_true rfl) h rfl (fun r16 μ17 h => ?_)
      refine WQ_ifeq (tgt := 84) dX10_readNames_63 (by decide) (fun c18 => ?_) (fun c18 => ?_)
      · replace h := h.1 c18
        refine WP_lforget (L' := [(2, 183), (9, 0), (0, v9)]) rfl (fun i hi => ?_) h
        match i, hi with
        | 0, _ => exact Or.inl rfl
        | 1, _ => exact Or.inr rfl
        | 2, _ => exact Or.inl rfl
        | i + 3, hi => exact absurd hi (by simp only [List.length_cons, List.length_nil]; omega)
      · replace h := h.2 c18
        refine WP_aload_n dX10_readNames_66 rfl rfl ⟨Nat.le_of_ble_eq_true rfl, Nat.le_of_ble_eq_true rfl⟩ ?_
        refine WP_getfield (ci := 10) (j := 10) (n := 49) (t := 0) (x := μ17 183 10) dX10_readNames_67 f_X10_149 k_183 rfl rfl ?_
        refine WP_aload_n dX10_readNames_70 rfl rfl ⟨Nat.le_of_ble_eq_true rfl, Nat.le_of_ble_eq_true rfl⟩ ?_
        refine WP_getfield (ci := 10) (j := 4) (n := 49) (t := 2) (x := 187) dX10_readNames_71 f_X10_24 k_183 rfl rfl ?_
        refine WP_iload_n dX10_readNames_74 rfl rfl ?_
        obtain ⟨g19, h⟩ := h
        refine WP_iaload (n := 1373) dX10_readNames_75 k_187 g19 ?_
        refine WQ_icmp_ne (tgt := 84) dX10_readNames_76 (by decide) (fun c20 => ?_) (fun c20 => ?_)
        · replace h := h.1 c20
          refine WP_lforget (L' := [(2, 183), (9, 0), (0, v9)]) rfl (fun i hi => ?_) h
          match i, hi with
          | 0, _ => exact Or.inl rfl
          | 1, _ => exact Or.inr rfl
          | 2, _ => exact Or.inl rfl
          | i + 3, hi => exact absurd hi (by simp only [List.length_cons, List.length_nil]; omega)
        · replace h := h.2 c20
          refine WP_aload_n dX10_readNames_79 rfl rfl ⟨Nat.le_of_ble_eq_true rfl, Nat.le_of_ble_eq_true rfl⟩ ?_
          refine WP_iconst dX10_readNames_80 (by decide) ?_
          refine WQ_invVv (v := (2, 183)) (as := [(0, 3)]) dX10_readNames_81 l_X10_166 mw_X10_fails mi_X10_fails ms_X10_fails mo_X10_fails (rcv (ci := 10) (n := 49) (r := (RX10, TX10, 49)) k_183 rfl rfl) (Nat.le_of_ble_eq_true rfl) h rfl (fun μ22 h => ?_)
          refine WP_lforget (L' := [(2, 183), (9, 0), (0, v9)]) rfl (fun i hi => ?_) h
          match i, hi with
          | 0, _ => exact Or.inl rfl
          | 1, _ => exact Or.inr rfl
          | 2, _ => exact Or.inl rfl
          | i + 3, hi => exact absurd hi (by simp only [List.length_cons, List.length_nil]; omega)
    · replace h := h.2 c4
      exact WQ_return dX10_readNames_26 rfl h
  · replace h := h.2 c3
    refine WP_aload_n dX10_readNames_14 rfl rfl ⟨Nat.le_of_ble_eq_true rfl, Nat.le_of_ble_eq_true rfl⟩ ?_
    refine WP_iconst dX10_readNames_15 (by decide) ?_
    refine WQ_invVv (v := (2, 183)) (as := [(0, 4)]) dX10_readNames_16 l_X10_166 mw_X10_fails mi_X10_fails ms_X10_fails mo_X10_fails (rcv (ci := 10) (n := 49) (r := (RX10, TX10, 49)) k_183 rfl rfl) (Nat.le_of_ble_eq_true rfl) h rfl (fun μ24 h => ?_)
    refine WP_aload_n dX10_readNames_19 rfl rfl ⟨Nat.le_of_ble_eq_true rfl, Nat.le_of_ble_eq_true rfl⟩ ?_
    refine WP_getfield (ci := 10) (j := 11) (n := 49) (t := 0) (x := μ24 183 11) dX10_readNames_20 f_X10_154 k_183 rfl rfl ?_
    refine WQ_ifeq (tgt := 27) dX10_readNames_23 (by decide) (fun c25 => ?_) (fun c25 => ?_)
    · replace h := h.1 c25
      refine WP_aload_n dX10_readNames_27 rfl rfl ⟨Nat.le_of_ble_eq_true rfl, Nat.le_of_ble_eq_true rfl⟩ ?_
      refine WQ_invVv (v := (2, 183)) (as := []) dX10_readNames_28 l_X10_163 mw_X10_next mi_X10_next ms_X10_next mo_X10_next (rcv (ci := 10) (n := 49) (r := (RX10, TX10, 49)) k_183 rfl rfl) (Nat.le_of_ble_eq_true rfl) h rfl (fun μ27 h => ?_)
      refine WP_bipush dX10_readNames_31 (by decide +kernel) (by decide) ?_
      refine WP_iconst dX10_readNames_33 (by decide) ?_
      refine WP_iload_n dX10_readNames_34 rfl rfl ?_
      obtain ⟨g28, h⟩ := h
      refine WP_imul dX10_readNames_35 g28 ?_
      obtain ⟨g29, h⟩ := h
      refine WP_iadd dX10_readNames_36 g29 ?_
      refine WQ_nm0 (fun v30 e30 => ?_)
      replace h := h v30 e30
      refine WP_istore_n (L' := [(2, 183), (0, v2), (0, v30)]) dX10_readNames_37 rfl (by decide) rfl ?_
      refine WP_aload_n dX10_readNames_38 rfl rfl ⟨Nat.le_of_ble_eq_true rfl, Nat.le_of_ble_eq_true rfl⟩ ?_
      refine WP_getfield (ci := 10) (j := 4) (n := 49) (t := 2) (x := 187) dX10_readNames_39 f_X10_24 k_183 rfl rfl ?_
      refine WP_iload_n dX10_readNames_42 rfl rfl ?_
      refine WP_aload_n dX10_readNames_43 rfl rfl ⟨Nat.le_of_ble_eq_true rfl, Nat.le_of_ble_eq_true rfl⟩ ?_
      refine WP_iconst dX10_readNames_44 (by decide) ?_
      refine WP_aload_n dX10_readNames_45 rfl rfl ⟨Nat.le_of_ble_eq_true rfl, Nat.le_of_ble_eq_true rfl⟩ ?_
      refine WP_getfield (ci := 10) (j := 4) (n := 49) (t := 2) (x := 187) dX10_readNames_46 f_X10_24 k_183 rfl rfl ?_
      refine WP_iconst dX10_readNames_49 (by decide) ?_
      refine WP_iaload (n := 1373) dX10_readNames_50 k_187 ⟨by decide, by decide⟩ ?_
      refine WP_iconst dX10_readNames_51 (by decide) ?_
      obtain ⟨g32, h⟩ := h
      refine WP_isub dX10_readNames_52 g32 ?_
      refine WQ_invVi (v := (2, 183)) (as := [(0, 0), (0, (μ27 187 3) - 1)]) dX10_readNames_53 l_X10_210 mw_X10_takes mi_X10_takes ms_X10_takes mo_X10_takes (rcv (ci := 10) (n := 49) (r := (RX10, TX10, 49)) k_183 rfl rfl) (Nat.le_of_ble_eq_true rfl) h rfl (fun r33 μ34 h => ?_)
      obtain ⟨g35, h⟩ := h
      refine WQ_iast (n := 1373) dX10_readNames_56 k_187 g35 (fun μ36 eμ36 => ?_)
      replace h := h μ36 eμ36
      refine WP_aload_n dX10_readNames_57 rfl rfl ⟨Nat.le_of_ble_eq_true rfl, Nat.le_of_ble_eq_true rfl⟩ ?_
      refine WP_bipush dX10_readNames_58 (by decide +kernel) (by decide) ?_
      refine WQ_invVi (v := (2, 183)) (as := [(0, 25)]) dX10_readNames_60 l_X10_160 mw_X10_is mi_X10_is ms_X10_is mo_X10_is (rcv (ci := 10) (n := 49) (r := (RX10, TX10, 49)) k_183 rfl rfl) (Nat.le_of_ble_eq_true rfl) h rfl (fun r37 μ38 h => ?_)
      refine WQ_ifeq (tgt := 84) dX10_readNames_63 (by decide) (fun c39 => ?_) (fun c39 => ?_)
      · replace h := h.1 c39
        refine WP_lforget (L' := [(2, 183), (9, 0), (0, v30)]) rfl (fun i hi => ?_) h
        match i, hi with
        | 0, _ => exact Or.inl rfl
        | 1, _ => exact Or.inr rfl
        | 2, _ => exact Or.inl rfl
        | i + 3, hi => exact absurd hi (by simp only [List.length_cons, List.length_nil]; omega)
      · replace h := h.2 c39
        refine WP_aload_n dX10_readNames_66 rfl rfl ⟨Nat.le_of_ble_eq_true rfl, Nat.le_of_ble_eq_true rfl⟩ ?_
        refine WP_getfield (ci := 10) (j := 10) (n := 49) (t := 0) (x := μ38 183 10) dX10_readNames_67 f_X10_149 k_183 rfl rfl ?_
        refine WP_aload_n dX10_readNames_70 rfl rfl ⟨Nat.le_of_ble_eq_true rfl, Nat.le_of_ble_eq_true rfl⟩ ?_
        refine WP_getfield (ci := 10) (j := 4) (n := 49) (t := 2) (x := 187) dX10_readNames_71 f_X10_24 k_183 rfl rfl ?_
        refine WP_iload_n dX10_readNames_74 rfl rfl ?_
        obtain ⟨g40, h⟩ := h
        refine WP_iaload (n := 1373) dX10_readNames_75 k_187 g40 ?_
        refine WQ_icmp_ne (tgt := 84) dX10_readNames_76 (by decide) (fun c41 => ?_) (fun c41 => ?_)
        · replace h := h.1 c41
          refine WP_lforget (L' := [(2, 183), (9, 0), (0, v30)]) rfl (fun i hi => ?_) h
          match i, hi with
          | 0, _ => exact Or.inl rfl
          | 1, _ => exact Or.inr rfl
          | 2, _ => exact Or.inl rfl
          | i + 3, hi => exact absurd hi (by simp only [List.length_cons, List.length_nil]; omega)
        · replace h := h.2 c41
          refine WP_aload_n dX10_readNames_79 rfl rfl ⟨Nat.le_of_ble_eq_true rfl, Nat.le_of_ble_eq_true rfl⟩ ?_
          refine WP_iconst dX10_readNames_80 (by decide) ?_
          refine WQ_invVv (v := (2, 183)) (as := [(0, 3)]) dX10_readNames_81 l_X10_166 mw_X10_fails mi_X10_fails ms_X10_fails mo_X10_fails (rcv (ci := 10) (n := 49) (r := (RX10, TX10, 49)) k_183 rfl rfl) (Nat.le_of_ble_eq_true rfl) h rfl (fun μ43 h => ?_)
          refine WP_lforget (L' := [(2, 183), (9, 0), (0, v30)]) rfl (fun i hi => ?_) h
          match i, hi with
          | 0, _ => exact Or.inl rfl
          | 1, _ => exact Or.inr rfl
          | 2, _ => exact Or.inl rfl
          | i + 3, hi => exact absurd hi (by simp only [List.length_cons, List.length_nil]; omega)
    · replace h := h.2 c25
      exact WQ_return dX10_readNames_26 rfl h

theorem s_X10_readNames_84 {d : Nat} {sc : SC} {Q : Mem → Prop} {μ : Mem} {x2 : Int}
    (h : (-2147483648 ≤ x2 + 1 ∧ x2 + 1 < 2147483648) ∧ (-2147483648 ≤ (μ 187 3) - 1 ∧ (μ 187 3) - 1 < 2147483648) ∧ CAi mX10_takes d sc [(2, 183), (0, 0), (0, (μ 187 3) - 1)] μ (fun r4 μ5 => (0 ≤ x2 + 1 ∧ x2 + 1 < 1373) ∧ (∀ μ7, μ7 = mup μ5 187 (x2 + 1) r4 → CAi mX10_eats d sc [(2, 183), (0, 6)] μ7 (fun r8 μ9 => (r8 ≠ 0 → (-2147483648 ≤ x2 + 2 ∧ x2 + 2 < 2147483648) ∧ CAi mX10_takes d sc [(2, 183), (0, 0), (0, 99)] μ9 (fun r12 μ13 => (0 ≤ x2 + 2 ∧ x2 + 2 < 1373) ∧ (∀ μ15, μ15 = mup μ13 187 (x2 + 2) r12 → (-2147483648 ≤ x2 + 3 ∧ x2 + 3 < 2147483648) ∧ (0 ≤ x2 + 3 ∧ x2 + 3 < 1373) ∧ (∀ μ18, μ18 = mup μ15 187 (x2 + 3) 10 → WQ mX10_readNames d sc (ZV sc Q) 144 [(2, 183), (9, 0), (0, x2)] [] μ18)))) ∧ (r8 = 0 → CAv mX10_fails d sc [(2, 183), (0, 2)] μ9 (fun μ20 => (-2147483648 ≤ x2 + 2 ∧ x2 + 2 < 2147483648) ∧ CAi mX10_takes d sc [(2, 183), (0, 0), (0, 99)] μ20 (fun r22 μ23 => (0 ≤ x2 + 2 ∧ x2 + 2 < 1373) ∧ (∀ μ25, μ25 = mup μ23 187 (x2 + 2) r22 → (-2147483648 ≤ x2 + 3 ∧ x2 + 3 < 2147483648) ∧ (0 ≤ x2 + 3 ∧ x2 + 3 < 1373) ∧ (∀ μ28, μ28 = mup μ25 187 (x2 + 3) 10 → WQ mX10_readNames d sc (ZV sc Q) 144 [(2, 183), (9, 0), (0, x2)] [] μ28))))))))) :
    WQ mX10_readNames d sc (ZV sc Q) 84 [(2, 183), (9, 0), (0, x2)] [] μ := by
  refine WP_aload_n dX10_readNames_84 rfl rfl ⟨Nat.le_of_ble_eq_true rfl, Nat.le_of_ble_eq_true rfl⟩ ?_
  refine WP_getfield (ci := 10) (j := 4) (n := 49) (t := 2) (x := 187) dX10_readNames_85 f_X10_24 k_183 rfl rfl ?_
  refine WP_iload_n dX10_readNames_88 rfl rfl ?_
  refine WP_iconst dX10_readNames_89 (by decide) ?_
  obtain ⟨g1, h⟩ := h
  refine WP_iadd dX10_readNames_90 g1 ?_
  refine WP_aload_n dX10_readNames_91 rfl rfl ⟨Nat.le_of_ble_eq_true rfl, Nat.le_of_ble_eq_true rfl⟩ ?_
  refine WP_iconst dX10_readNames_92 (by decide) ?_
  refine WP_aload_n dX10_readNames_93 rfl rfl ⟨Nat.le_of_ble_eq_true rfl, Nat.le_of_ble_eq_true rfl⟩ ?_
  refine WP_getfield (ci := 10) (j := 4) (n := 49) (t := 2) (x := 187) dX10_readNames_94 f_X10_24 k_183 rfl rfl ?_
  refine WP_iconst dX10_readNames_97 (by decide) ?_
  refine WP_iaload (n := 1373) dX10_readNames_98 k_187 ⟨by decide, by decide⟩ ?_
  refine WP_iconst dX10_readNames_99 (by decide) ?_
  obtain ⟨g3, h⟩ := h
  refine WP_isub dX10_readNames_100 g3 ?_
  refine WQ_invVi (v := (2, 183)) (as := [(0, 0), (0, (μ 187 3) - 1)]) dX10_readNames_101 l_X10_210 mw_X10_takes mi_X10_takes ms_X10_takes mo_X10_takes (rcv (ci := 10) (n := 49) (r := (RX10, TX10, 49)) k_183 rfl rfl) (Nat.le_of_ble_eq_true rfl) h rfl (fun r4 μ5 h => ?_)
  obtain ⟨g6, h⟩ := h
  refine WQ_iast (n := 1373) dX10_readNames_104 k_187 g6 (fun μ7 eμ7 => ?_)
  replace h := h μ7 eμ7
  refine WP_aload_n dX10_readNames_105 rfl rfl ⟨Nat.le_of_ble_eq_true rfl, Nat.le_of_ble_eq_true rfl⟩ ?_
  refine WP_bipush dX10_readNames_106 (by decide +kernel) (by decide) ?_
  refine WQ_invVi (v := (2, 183)) (as := [(0, 6)]) dX10_readNames_108 l_X10_189 mw_X10_eats mi_X10_eats ms_X10_eats mo_X10_eats (rcv (ci := 10) (n := 49) (r := (RX10, TX10, 49)) k_183 rfl rfl) (Nat.le_of_ble_eq_true rfl) h rfl (fun r8 μ9 h => ?_)
  refine WQ_ifne (tgt := 119) dX10_readNames_111 (by decide) (fun c10 => ?_) (fun c10 => ?_)
  · replace h := h.1 c10
    refine WP_aload_n dX10_readNames_119 rfl rfl ⟨Nat.le_of_ble_eq_true rfl, Nat.le_of_ble_eq_true rfl⟩ ?_
    refine WP_getfield (ci := 10) (j := 4) (n := 49) (t := 2) (x := 187) dX10_readNames_120 f_X10_24 k_183 rfl rfl ?_
    refine WP_iload_n dX10_readNames_123 rfl rfl ?_
    refine WP_iconst dX10_readNames_124 (by decide) ?_
    obtain ⟨g11, h⟩ := h
    refine WP_iadd dX10_readNames_125 g11 ?_
    refine WP_aload_n dX10_readNames_126 rfl rfl ⟨Nat.le_of_ble_eq_true rfl, Nat.le_of_ble_eq_true rfl⟩ ?_
    refine WP_iconst dX10_readNames_127 (by decide) ?_
    refine WP_bipush dX10_readNames_128 (by decide +kernel) (by decide) ?_
    refine WQ_invVi (v := (2, 183)) (as := [(0, 0), (0, 99)]) dX10_readNames_130 l_X10_210 mw_X10_takes mi_X10_takes ms_X10_takes mo_X10_takes (rcv (ci := 10) (n := 49) (r := (RX10, TX10, 49)) k_183 rfl rfl) (Nat.le_of_ble_eq_true rfl) h rfl (fun r12 μ13 h => ?_)
    obtain ⟨g14, h⟩ := h
    refine WQ_iast (n := 1373) dX10_readNames_133 k_187 g14 (fun μ15 eμ15 => ?_)
    replace h := h μ15 eμ15
    refine WP_aload_n dX10_readNames_134 rfl rfl ⟨Nat.le_of_ble_eq_true rfl, Nat.le_of_ble_eq_true rfl⟩ ?_
    refine WP_getfield (ci := 10) (j := 4) (n := 49) (t := 2) (x := 187) dX10_readNames_135 f_X10_24 k_183 rfl rfl ?_
    refine WP_iload_n dX10_readNames_138 rfl rfl ?_
    refine WP_iconst dX10_readNames_139 (by decide) ?_
    obtain ⟨g16, h⟩ := h
    refine WP_iadd dX10_readNames_140 g16 ?_
    refine WP_bipush dX10_readNames_141 (by decide +kernel) (by decide) ?_
    obtain ⟨g17, h⟩ := h
    refine WQ_iast (n := 1373) dX10_readNames_143 k_187 g17 (fun μ18 eμ18 => ?_)
    replace h := h μ18 eμ18
    exact h
  · replace h := h.2 c10
    refine WP_aload_n dX10_readNames_114 rfl rfl ⟨Nat.le_of_ble_eq_true rfl, Nat.le_of_ble_eq_true rfl⟩ ?_
    refine WP_iconst dX10_readNames_115 (by decide) ?_
    refine WQ_invVv (v := (2, 183)) (as := [(0, 2)]) dX10_readNames_116 l_X10_166 mw_X10_fails mi_X10_fails ms_X10_fails mo_X10_fails (rcv (ci := 10) (n := 49) (r := (RX10, TX10, 49)) k_183 rfl rfl) (Nat.le_of_ble_eq_true rfl) h rfl (fun μ20 h => ?_)
    refine WP_aload_n dX10_readNames_119 rfl rfl ⟨Nat.le_of_ble_eq_true rfl, Nat.le_of_ble_eq_true rfl⟩ ?_
    refine WP_getfield (ci := 10) (j := 4) (n := 49) (t := 2) (x := 187) dX10_readNames_120 f_X10_24 k_183 rfl rfl ?_
    refine WP_iload_n dX10_readNames_123 rfl rfl ?_
    refine WP_iconst dX10_readNames_124 (by decide) ?_
    obtain ⟨g21, h⟩ := h
    refine WP_iadd dX10_readNames_125 g21 ?_
    refine WP_aload_n dX10_readNames_126 rfl rfl ⟨Nat.le_of_ble_eq_true rfl, Nat.le_of_ble_eq_true rfl⟩ ?_
    refine WP_iconst dX10_readNames_127 (by decide) ?_
    refine WP_bipush dX10_readNames_128 (by decide +kernel) (by decide) ?_
    refine WQ_invVi (v := (2, 183)) (as := [(0, 0), (0, 99)]) dX10_readNames_130 l_X10_210 mw_X10_takes mi_X10_takes ms_X10_takes mo_X10_takes (rcv (ci := 10) (n := 49) (r := (RX10, TX10, 49)) k_183 rfl rfl) (Nat.le_of_ble_eq_true rfl) h rfl (fun r22 μ23 h => ?_)
    obtain ⟨g24, h⟩ := h
    refine WQ_iast (n := 1373) dX10_readNames_133 k_187 g24 (fun μ25 eμ25 => ?_)
    replace h := h μ25 eμ25
    refine WP_aload_n dX10_readNames_134 rfl rfl ⟨Nat.le_of_ble_eq_true rfl, Nat.le_of_ble_eq_true rfl⟩ ?_
    refine WP_getfield (ci := 10) (j := 4) (n := 49) (t := 2) (x := 187) dX10_readNames_135 f_X10_24 k_183 rfl rfl ?_
    refine WP_iload_n dX10_readNames_138 rfl rfl ?_
    refine WP_iconst dX10_readNames_139 (by decide) ?_
    obtain ⟨g26, h⟩ := h
    refine WP_iadd dX10_readNames_140 g26 ?_
    refine WP_bipush dX10_readNames_141 (by decide +kernel) (by decide) ?_
    obtain ⟨g27, h⟩ := h
    refine WQ_iast (n := 1373) dX10_readNames_143 k_187 g27 (fun μ28 eμ28 => ?_)
    replace h := h μ28 eμ28
    exact h

theorem s_X10_readNames_144 {d : Nat} {sc : SC} {Q : Mem → Prop} {μ : Mem} {x2 : Int}
    (h : (μ 183 11 ≠ 0 → (μ 183 11 ≠ 0 → Q μ) ∧ (μ 183 11 = 0 → (-2147483648 ≤ (μ 187 31) + 1 ∧ (μ 187 31) + 1 < 2147483648) ∧ (∀ μ6, μ6 = mup μ 187 31 ((μ 187 31) + 1) → Q μ6))) ∧ (μ 183 11 = 0 → CAi mX10_eats d sc [(2, 183), (0, 7)] μ (fun r7 μ8 => (r7 = 0 → (μ8 183 11 ≠ 0 → Q μ8) ∧ (μ8 183 11 = 0 → (-2147483648 ≤ (μ8 187 31) + 1 ∧ (μ8 187 31) + 1 < 2147483648) ∧ (∀ μ14, μ14 = mup μ8 187 31 ((μ8 187 31) + 1) → Q μ14))) ∧ (r7 ≠ 0 → (-2147483648 ≤ x2 + 3 ∧ x2 + 3 < 2147483648) ∧ CAi mX10_takes d sc [(2, 183), (0, 0), (0, 10)] μ8 (fun r16 μ17 => (0 ≤ x2 + 3 ∧ x2 + 3 < 1373) ∧ (∀ μ19, μ19 = mup μ17 187 (x2 + 3) r16 → WQ mX10_readNames d sc (ZV sc Q) 144 [(2, 183), (9, 0), (0, x2)] [] μ19)))))) :
    WQ mX10_readNames d sc (ZV sc Q) 144 [(2, 183), (9, 0), (0, x2)] [] μ := by
  refine WP_aload_n dX10_readNames_144 rfl rfl ⟨Nat.le_of_ble_eq_true rfl, Nat.le_of_ble_eq_true rfl⟩ ?_
  refine WP_getfield (ci := 10) (j := 11) (n := 49) (t := 0) (x := μ 183 11) dX10_readNames_145 f_X10_154 k_183 rfl rfl ?_
  refine WQ_ifne (tgt := 178) dX10_readNames_148 (by decide) (fun c1 => ?_) (fun c1 => ?_)
  · replace h := h.1 c1
    refine WP_aload_n dX10_readNames_178 rfl rfl ⟨Nat.le_of_ble_eq_true rfl, Nat.le_of_ble_eq_true rfl⟩ ?_
    refine WP_getfield (ci := 10) (j := 11) (n := 49) (t := 0) (x := μ 183 11) dX10_readNames_179 f_X10_154 k_183 rfl rfl ?_
    refine WQ_ifne (tgt := 196) dX10_readNames_182 (by decide) (fun c2 => ?_) (fun c2 => ?_)
    · replace h := h.1 c2
      exact WQ_return dX10_readNames_196 rfl h
    · replace h := h.2 c2
      refine WP_aload_n dX10_readNames_185 rfl rfl ⟨Nat.le_of_ble_eq_true rfl, Nat.le_of_ble_eq_true rfl⟩ ?_
      refine WP_getfield (ci := 10) (j := 4) (n := 49) (t := 2) (x := 187) dX10_readNames_186 f_X10_24 k_183 rfl rfl ?_
      refine WP_bipush dX10_readNames_189 (by decide +kernel) (by decide) ?_
      refine WP_dup2 dX10_readNames_191 (by simp) (by simp) ?_
      refine WP_iaload (n := 1373) dX10_readNames_192 k_187 ⟨by decide, by decide⟩ ?_
      refine WP_iconst dX10_readNames_193 (by decide) ?_
      obtain ⟨g4, h⟩ := h
      refine WP_iadd dX10_readNames_194 g4 ?_
      refine WQ_iast (n := 1373) dX10_readNames_195 k_187 ⟨by decide, by decide⟩ (fun μ6 eμ6 => ?_)
      replace h := h μ6 eμ6
      exact WQ_return dX10_readNames_196 rfl h
  · replace h := h.2 c1
    refine WP_aload_n dX10_readNames_151 rfl rfl ⟨Nat.le_of_ble_eq_true rfl, Nat.le_of_ble_eq_true rfl⟩ ?_
    refine WP_bipush dX10_readNames_152 (by decide +kernel) (by decide) ?_
    refine WQ_invVi (v := (2, 183)) (as := [(0, 7)]) dX10_readNames_154 l_X10_189 mw_X10_eats mi_X10_eats ms_X10_eats mo_X10_eats (rcv (ci := 10) (n := 49) (r := (RX10, TX10, 49)) k_183 rfl rfl) (Nat.le_of_ble_eq_true rfl) h rfl (fun r7 μ8 h => ?_)
    refine WQ_ifeq (tgt := 178) dX10_readNames_157 (by decide) (fun c9 => ?_) (fun c9 => ?_)
    · replace h := h.1 c9
      refine WP_aload_n dX10_readNames_178 rfl rfl ⟨Nat.le_of_ble_eq_true rfl, Nat.le_of_ble_eq_true rfl⟩ ?_
      refine WP_getfield (ci := 10) (j := 11) (n := 49) (t := 0) (x := μ8 183 11) dX10_readNames_179 f_X10_154 k_183 rfl rfl ?_
      refine WQ_ifne (tgt := 196) dX10_readNames_182 (by decide) (fun c10 => ?_) (fun c10 => ?_)
      · replace h := h.1 c10
        exact WQ_return dX10_readNames_196 rfl h
      · replace h := h.2 c10
        refine WP_aload_n dX10_readNames_185 rfl rfl ⟨Nat.le_of_ble_eq_true rfl, Nat.le_of_ble_eq_true rfl⟩ ?_
        refine WP_getfield (ci := 10) (j := 4) (n := 49) (t := 2) (x := 187) dX10_readNames_186 f_X10_24 k_183 rfl rfl ?_
        refine WP_bipush dX10_readNames_189 (by decide +kernel) (by decide) ?_
        refine WP_dup2 dX10_readNames_191 (by simp) (by simp) ?_
        refine WP_iaload (n := 1373) dX10_readNames_192 k_187 ⟨by decide, by decide⟩ ?_
        refine WP_iconst dX10_readNames_193 (by decide) ?_
        obtain ⟨g12, h⟩ := h
        refine WP_iadd dX10_readNames_194 g12 ?_
        refine WQ_iast (n := 1373) dX10_readNames_195 k_187 ⟨by decide, by decide⟩ (fun μ14 eμ14 => ?_)
        replace h := h μ14 eμ14
        exact WQ_return dX10_readNames_196 rfl h
    · replace h := h.2 c9
      refine WP_aload_n dX10_readNames_160 rfl rfl ⟨Nat.le_of_ble_eq_true rfl, Nat.le_of_ble_eq_true rfl⟩ ?_
      refine WP_getfield (ci := 10) (j := 4) (n := 49) (t := 2) (x := 187) dX10_readNames_161 f_X10_24 k_183 rfl rfl ?_
      refine WP_iload_n dX10_readNames_164 rfl rfl ?_
      refine WP_iconst dX10_readNames_165 (by decide) ?_
      obtain ⟨g15, h⟩ := h
      refine WP_iadd dX10_readNames_166 g15 ?_
      refine WP_aload_n dX10_readNames_167 rfl rfl ⟨Nat.le_of_ble_eq_true rfl, Nat.le_of_ble_eq_true rfl⟩ ?_
      refine WP_iconst dX10_readNames_168 (by decide) ?_
      refine WP_bipush dX10_readNames_169 (by decide +kernel) (by decide) ?_
      refine WQ_invVi (v := (2, 183)) (as := [(0, 0), (0, 10)]) dX10_readNames_171 l_X10_210 mw_X10_takes mi_X10_takes ms_X10_takes mo_X10_takes (rcv (ci := 10) (n := 49) (r := (RX10, TX10, 49)) k_183 rfl rfl) (Nat.le_of_ble_eq_true rfl) h rfl (fun r16 μ17 h => ?_)
      obtain ⟨g18, h⟩ := h
      refine WQ_iast (n := 1373) dX10_readNames_174 k_187 g18 (fun μ19 eμ19 => ?_)
      replace h := h μ19 eμ19
      refine WP_goto (tgt := 144) dX10_readNames_175 (by decide) ?_
      exact h

theorem s_X10_readPerson_0 {d : Nat} {sc : SC} {Q : Mem → Prop} {μ : Mem}
    (h : ∀ v2 : Int, v2 = μ 187 3 → (v2 ≠ 6 → (μ 183 11 = 0 → CAv mX10_next d sc [(2, 183)] μ (fun μ6 => (-2147483648 ≤ 64 + v2 ∧ 64 + v2 < 2147483648) ∧ (-2147483648 ≤ (μ6 187 1) * (μ6 187 2) ∧ (μ6 187 1) * (μ6 187 2) < 2147483648) ∧ (-2147483648 ≤ ((μ6 187 1) * (μ6 187 2)) - 1 ∧ ((μ6 187 1) * (μ6 187 2)) - 1 < 2147483648) ∧ CAi mX10_takes d sc [(2, 183), (0, 0), (0, ((μ6 187 1) * (μ6 187 2)) - 1)] μ6 (fun r12 μ13 => (0 ≤ 64 + v2 ∧ 64 + v2 < 1373) ∧ (∀ μ15, μ15 = mup μ13 187 (64 + v2) r12 → WQ mX10_readPerson d sc (ZV sc Q) 59 [(2, 183), (0, v2)] [] μ15)))) ∧ (μ 183 11 ≠ 0 → Q μ)) ∧ (v2 = 6 → CAv mX10_fails d sc [(2, 183), (0, 4)] μ (fun μ17 => (μ17 183 11 = 0 → CAv mX10_next d sc [(2, 183)] μ17 (fun μ20 => (-2147483648 ≤ 64 + v2 ∧ 64 + v2 < 2147483648) ∧ (-2147483648 ≤ (μ20 187 1) * (μ20 187 2) ∧ (μ20 187 1) * (μ20 187 2) < 2147483648) ∧ (-2147483648 ≤ ((μ20 187 1) * (μ20 187 2)) - 1 ∧ ((μ20 187 1) * (μ20 187 2)) - 1 < 2147483648) ∧ CAi mX10_takes d sc [(2, 183), (0, 0), (0, ((μ20 187 1) * (μ20 187 2)) - 1)] μ20 (fun r26 μ27 => (0 ≤ 64 + v2 ∧ 64 + v2 < 1373) ∧ (∀ μ29, μ29 = mup μ27 187 (64 + v2) r26 → WQ mX10_readPerson d sc (ZV sc Q) 59 [(2, 183), (0, v2)] [] μ29)))) ∧ (μ17 183 11 ≠ 0 → Q μ17)))) :
    WQ mX10_readPerson d sc (ZV sc Q) 0 [(2, 183), (9, 0)] [] μ := by
  refine WP_aload_n dX10_readPerson_0 rfl rfl ⟨Nat.le_of_ble_eq_true rfl, Nat.le_of_ble_eq_true rfl⟩ ?_
  refine WP_getfield (ci := 10) (j := 4) (n := 49) (t := 2) (x := 187) dX10_readPerson_1 f_X10_24 k_183 rfl rfl ?_
  refine WP_iconst dX10_readPerson_4 (by decide) ?_
  refine WP_iaload (n := 1373) dX10_readPerson_5 k_187 ⟨by decide, by decide⟩ ?_
  refine WQ_nm0 (fun v2 e2 => ?_)
  replace h := h v2 e2
  refine WP_istore_n (L' := [(2, 183), (0, v2)]) dX10_readPerson_6 rfl (by decide) rfl ?_
  refine WP_iload_n dX10_readPerson_7 rfl rfl ?_
  refine WP_bipush dX10_readPerson_8 (by decide +kernel) (by decide) ?_
  refine WQ_icmp_ne (tgt := 18) dX10_readPerson_10 (by decide) (fun c3 => ?_) (fun c3 => ?_)
  · replace h := h.1 c3
    refine WP_aload_n dX10_readPerson_18 rfl rfl ⟨Nat.le_of_ble_eq_true rfl, Nat.le_of_ble_eq_true rfl⟩ ?_
    refine WP_getfield (ci := 10) (j := 11) (n := 49) (t := 0) (x := μ 183 11) dX10_readPerson_19 f_X10_154 k_183 rfl rfl ?_
    refine WQ_ifeq (tgt := 26) dX10_readPerson_22 (by decide) (fun c4 => ?_) (fun c4 => ?_)
    · replace h := h.1 c4
      refine WP_aload_n dX10_readPerson_26 rfl rfl ⟨Nat.le_of_ble_eq_true rfl, Nat.le_of_ble_eq_true rfl⟩ ?_
      refine WQ_invVv (v := (2, 183)) (as := []) dX10_readPerson_27 l_X10_163 mw_X10_next mi_X10_next ms_X10_next mo_X10_next (rcv (ci := 10) (n := 49) (r := (RX10, TX10, 49)) k_183 rfl rfl) (Nat.le_of_ble_eq_true rfl) h rfl (fun μ6 h => ?_)
      refine WP_aload_n dX10_readPerson_30 rfl rfl ⟨Nat.le_of_ble_eq_true rfl, Nat.le_of_ble_eq_true rfl⟩ ?_
      refine WP_getfield (ci := 10) (j := 4) (n := 49) (t := 2) (x := 187) dX10_readPerson_31 f_X10_24 k_183 rfl rfl ?_
      refine WP_bipush dX10_readPerson_34 (by decide +kernel) (by decide) ?_
      refine WP_iload_n dX10_readPerson_36 rfl rfl ?_
      obtain ⟨g7, h⟩ := h
      refine WP_iadd dX10_readPerson_37 g7 ?_
      refine WP_aload_n dX10_readPerson_38 rfl rfl ⟨Nat.le_of_ble_eq_true rfl, Nat.le_of_ble_eq_true rfl⟩ ?_
      refine WP_iconst dX10_readPerson_39 (by decide) ?_
      refine WP_aload_n dX10_readPerson_40 rfl rfl ⟨Nat.le_of_ble_eq_true rfl, Nat.le_of_ble_eq_true rfl⟩ ?_
      refine WP_getfield (ci := 10) (j := 4) (n := 49) (t := 2) (x := 187) dX10_readPerson_41 f_X10_24 k_183 rfl rfl ?_
      refine WP_iconst dX10_readPerson_44 (by decide) ?_
      refine WP_iaload (n := 1373) dX10_readPerson_45 k_187 ⟨by decide, by decide⟩ ?_
      refine WP_aload_n dX10_readPerson_46 rfl rfl ⟨Nat.le_of_ble_eq_true rfl, Nat.le_of_ble_eq_true rfl⟩ ?_
      refine WP_getfield (ci := 10) (j := 4) (n := 49) (t := 2) (x := 187) dX10_readPerson_47 f_X10_24 k_183 rfl rfl ?_
      refine WP_iconst dX10_readPerson_50 (by decide) ?_
      refine WP_iaload (n := 1373) dX10_readPerson_51 k_187 ⟨by decide, by decide⟩ ?_
      obtain ⟨g10, h⟩ := h
      refine WP_imul dX10_readPerson_52 g10 ?_
      refine WP_iconst dX10_readPerson_53 (by decide) ?_
      obtain ⟨g11, h⟩ := h
      refine WP_isub dX10_readPerson_54 g11 ?_
      refine WQ_invVi (v := (2, 183)) (as := [(0, 0), (0, ((μ6 187 1) * (μ6 187 2)) - 1)]) dX10_readPerson_55 l_X10_210 mw_X10_takes mi_X10_takes ms_X10_takes mo_X10_takes (rcv (ci := 10) (n := 49) (r := (RX10, TX10, 49)) k_183 rfl rfl) (Nat.le_of_ble_eq_true rfl) h rfl (fun r12 μ13 h => ?_)
      obtain ⟨g14, h⟩ := h
      refine WQ_iast (n := 1373) dX10_readPerson_58 k_187 g14 (fun μ15 eμ15 => ?_)
      replace h := h μ15 eμ15
      exact h
    · replace h := h.2 c4
      exact WQ_return dX10_readPerson_25 rfl h
  · replace h := h.2 c3
    refine WP_aload_n dX10_readPerson_13 rfl rfl ⟨Nat.le_of_ble_eq_true rfl, Nat.le_of_ble_eq_true rfl⟩ ?_
    refine WP_iconst dX10_readPerson_14 (by decide) ?_
    refine WQ_invVv (v := (2, 183)) (as := [(0, 4)]) dX10_readPerson_15 l_X10_166 mw_X10_fails mi_X10_fails ms_X10_fails mo_X10_fails (rcv (ci := 10) (n := 49) (r := (RX10, TX10, 49)) k_183 rfl rfl) (Nat.le_of_ble_eq_true rfl) h rfl (fun μ17 h => ?_)
    refine WP_aload_n dX10_readPerson_18 rfl rfl ⟨Nat.le_of_ble_eq_true rfl, Nat.le_of_ble_eq_true rfl⟩ ?_
    refine WP_getfield (ci := 10) (j := 11) (n := 49) (t := 0) (x := μ17 183 11) dX10_readPerson_19 f_X10_154 k_183 rfl rfl ?_
    refine WQ_ifeq (tgt := 26) dX10_readPerson_22 (by decide) (fun c18 => ?_) (fun c18 => ?_)
    · replace h := h.1 c18
      refine WP_aload_n dX10_readPerson_26 rfl rfl ⟨Nat.le_of_ble_eq_true rfl, Nat.le_of_ble_eq_true rfl⟩ ?_
      refine WQ_invVv (v := (2, 183)) (as := []) dX10_readPerson_27 l_X10_163 mw_X10_next mi_X10_next ms_X10_next mo_X10_next (rcv (ci := 10) (n := 49) (r := (RX10, TX10, 49)) k_183 rfl rfl) (Nat.le_of_ble_eq_true rfl) h rfl (fun μ20 h => ?_)
      refine WP_aload_n dX10_readPerson_30 rfl rfl ⟨Nat.le_of_ble_eq_true rfl, Nat.le_of_ble_eq_true rfl⟩ ?_
      refine WP_getfield (ci := 10) (j := 4) (n := 49) (t := 2) (x := 187) dX10_readPerson_31 f_X10_24 k_183 rfl rfl ?_
      refine WP_bipush dX10_readPerson_34 (by decide +kernel) (by decide) ?_
      refine WP_iload_n dX10_readPerson_36 rfl rfl ?_
      obtain ⟨g21, h⟩ := h
      refine WP_iadd dX10_readPerson_37 g21 ?_
      refine WP_aload_n dX10_readPerson_38 rfl rfl ⟨Nat.le_of_ble_eq_true rfl, Nat.le_of_ble_eq_true rfl⟩ ?_
      refine WP_iconst dX10_readPerson_39 (by decide) ?_
      refine WP_aload_n dX10_readPerson_40 rfl rfl ⟨Nat.le_of_ble_eq_true rfl, Nat.le_of_ble_eq_true rfl⟩ ?_
      refine WP_getfield (ci := 10) (j := 4) (n := 49) (t := 2) (x := 187) dX10_readPerson_41 f_X10_24 k_183 rfl rfl ?_
      refine WP_iconst dX10_readPerson_44 (by decide) ?_
      refine WP_iaload (n := 1373) dX10_readPerson_45 k_187 ⟨by decide, by decide⟩ ?_
      refine WP_aload_n dX10_readPerson_46 rfl rfl ⟨Nat.le_of_ble_eq_true rfl, Nat.le_of_ble_eq_true rfl⟩ ?_
      refine WP_getfield (ci := 10) (j := 4) (n := 49) (t := 2) (x := 187) dX10_readPerson_47 f_X10_24 k_183 rfl rfl ?_
      refine WP_iconst dX10_readPerson_50 (by decide) ?_
      refine WP_iaload (n := 1373) dX10_readPerson_51 k_187 ⟨by decide, by decide⟩ ?_
      obtain ⟨g24, h⟩ := h
      refine WP_imul dX10_readPerson_52 g24 ?_
      refine WP_iconst dX10_readPerson_53 (by decide) ?_
      obtain ⟨g25, h⟩ := h
      refine WP_isub dX10_readPerson_54 g25 ?_
      refine WQ_invVi (v := (2, 183)) (as := [(0, 0), (0, ((μ20 187 1) * (μ20 187 2)) - 1)]) dX10_readPerson_55 l_X10_210 mw_X10_takes mi_X10_takes ms_X10_takes mo_X10_takes (rcv (ci := 10) (n := 49) (r := (RX10, TX10, 49)) k_183 rfl rfl) (Nat.le_of_ble_eq_true rfl) h rfl (fun r26 μ27 h => ?_)
      obtain ⟨g28, h⟩ := h
      refine WQ_iast (n := 1373) dX10_readPerson_58 k_187 g28 (fun μ29 eμ29 => ?_)
      replace h := h μ29 eμ29
      exact h
    · replace h := h.2 c18
      exact WQ_return dX10_readPerson_25 rfl h

theorem s_X10_readPerson_59 {d : Nat} {sc : SC} {Q : Mem → Prop} {μ : Mem} {x1 : Int}
    (h : (μ 183 11 ≠ 0 → (μ 183 11 ≠ 0 → Q μ) ∧ (μ 183 11 = 0 → (-2147483648 ≤ (μ 187 3) + 1 ∧ (μ 187 3) + 1 < 2147483648) ∧ (∀ μ6, μ6 = mup μ 187 3 ((μ 187 3) + 1) → Q μ6))) ∧ (μ 183 11 = 0 → CAi mX10_readFlag d sc [(2, 183), (0, x1)] μ (fun r7 μ8 => (r7 = 0 → (μ8 183 11 ≠ 0 → Q μ8) ∧ (μ8 183 11 = 0 → (-2147483648 ≤ (μ8 187 3) + 1 ∧ (μ8 187 3) + 1 < 2147483648) ∧ (∀ μ14, μ14 = mup μ8 187 3 ((μ8 187 3) + 1) → Q μ14))) ∧ (r7 ≠ 0 → WQ mX10_readPerson d sc (ZV sc Q) 59 [(2, 183), (0, x1)] [] μ8)))) :
    WQ mX10_readPerson d sc (ZV sc Q) 59 [(2, 183), (0, x1)] [] μ := by
  refine WP_aload_n dX10_readPerson_59 rfl rfl ⟨Nat.le_of_ble_eq_true rfl, Nat.le_of_ble_eq_true rfl⟩ ?_
  refine WP_getfield (ci := 10) (j := 11) (n := 49) (t := 0) (x := μ 183 11) dX10_readPerson_60 f_X10_154 k_183 rfl rfl ?_
  refine WQ_ifne (tgt := 77) dX10_readPerson_63 (by decide) (fun c1 => ?_) (fun c1 => ?_)
  · replace h := h.1 c1
    refine WP_aload_n dX10_readPerson_77 rfl rfl ⟨Nat.le_of_ble_eq_true rfl, Nat.le_of_ble_eq_true rfl⟩ ?_
    refine WP_getfield (ci := 10) (j := 11) (n := 49) (t := 0) (x := μ 183 11) dX10_readPerson_78 f_X10_154 k_183 rfl rfl ?_
    refine WQ_ifne (tgt := 94) dX10_readPerson_81 (by decide) (fun c2 => ?_) (fun c2 => ?_)
    · replace h := h.1 c2
      exact WQ_return dX10_readPerson_94 rfl h
    · replace h := h.2 c2
      refine WP_aload_n dX10_readPerson_84 rfl rfl ⟨Nat.le_of_ble_eq_true rfl, Nat.le_of_ble_eq_true rfl⟩ ?_
      refine WP_getfield (ci := 10) (j := 4) (n := 49) (t := 2) (x := 187) dX10_readPerson_85 f_X10_24 k_183 rfl rfl ?_
      refine WP_iconst dX10_readPerson_88 (by decide) ?_
      refine WP_dup2 dX10_readPerson_89 (by simp) (by simp) ?_
      refine WP_iaload (n := 1373) dX10_readPerson_90 k_187 ⟨by decide, by decide⟩ ?_
      refine WP_iconst dX10_readPerson_91 (by decide) ?_
      obtain ⟨g4, h⟩ := h
      refine WP_iadd dX10_readPerson_92 g4 ?_
      refine WQ_iast (n := 1373) dX10_readPerson_93 k_187 ⟨by decide, by decide⟩ (fun μ6 eμ6 => ?_)
      replace h := h μ6 eμ6
      exact WQ_return dX10_readPerson_94 rfl h
  · replace h := h.2 c1
    refine WP_aload_n dX10_readPerson_66 rfl rfl ⟨Nat.le_of_ble_eq_true rfl, Nat.le_of_ble_eq_true rfl⟩ ?_
    refine WP_iload_n dX10_readPerson_67 rfl rfl ?_
    refine WQ_invVi (v := (2, 183)) (as := [(0, x1)]) dX10_readPerson_68 l_X10_214 mw_X10_readFlag mi_X10_readFlag ms_X10_readFlag mo_X10_readFlag (rcv (ci := 10) (n := 49) (r := (RX10, TX10, 49)) k_183 rfl rfl) (Nat.le_of_ble_eq_true rfl) h rfl (fun r7 μ8 h => ?_)
    refine WQ_ifeq (tgt := 77) dX10_readPerson_71 (by decide) (fun c9 => ?_) (fun c9 => ?_)
    · replace h := h.1 c9
      refine WP_aload_n dX10_readPerson_77 rfl rfl ⟨Nat.le_of_ble_eq_true rfl, Nat.le_of_ble_eq_true rfl⟩ ?_
      refine WP_getfield (ci := 10) (j := 11) (n := 49) (t := 0) (x := μ8 183 11) dX10_readPerson_78 f_X10_154 k_183 rfl rfl ?_
      refine WQ_ifne (tgt := 94) dX10_readPerson_81 (by decide) (fun c10 => ?_) (fun c10 => ?_)
      · replace h := h.1 c10
        exact WQ_return dX10_readPerson_94 rfl h
      · replace h := h.2 c10
        refine WP_aload_n dX10_readPerson_84 rfl rfl ⟨Nat.le_of_ble_eq_true rfl, Nat.le_of_ble_eq_true rfl⟩ ?_
        refine WP_getfield (ci := 10) (j := 4) (n := 49) (t := 2) (x := 187) dX10_readPerson_85 f_X10_24 k_183 rfl rfl ?_
        refine WP_iconst dX10_readPerson_88 (by decide) ?_
        refine WP_dup2 dX10_readPerson_89 (by simp) (by simp) ?_
        refine WP_iaload (n := 1373) dX10_readPerson_90 k_187 ⟨by decide, by decide⟩ ?_
        refine WP_iconst dX10_readPerson_91 (by decide) ?_
        obtain ⟨g12, h⟩ := h
        refine WP_iadd dX10_readPerson_92 g12 ?_
        refine WQ_iast (n := 1373) dX10_readPerson_93 k_187 ⟨by decide, by decide⟩ (fun μ14 eμ14 => ?_)
        replace h := h μ14 eμ14
        exact WQ_return dX10_readPerson_94 rfl h
    · replace h := h.2 c9
      refine WP_goto (tgt := 59) dX10_readPerson_74 (by decide) ?_
      exact h

theorem s_X10_readSum_0 {d : Nat} {sc : SC} {Q : Mem → Prop} {μ : Mem} {a1 : Int}
    (h : CAv mX10_readTerm d sc [(2, 183), (0, a1)] μ (fun μ2 => WQ mX10_readSum d sc (ZV sc Q) 5 [(2, 183), (0, a1), (9, 0)] [] μ2)) :
    WQ mX10_readSum d sc (ZV sc Q) 0 [(2, 183), (0, a1), (9, 0)] [] μ := by
  refine WP_aload_n dX10_readSum_0 rfl rfl ⟨Nat.le_of_ble_eq_true rfl, Nat.le_of_ble_eq_true rfl⟩ ?_
  refine WP_iload_n dX10_readSum_1 rfl rfl ?_
  refine WQ_invVv (v := (2, 183)) (as := [(0, a1)]) dX10_readSum_2 l_X10_201 mw_X10_readTerm mi_X10_readTerm ms_X10_readTerm mo_X10_readTerm (rcv (ci := 10) (n := 49) (r := (RX10, TX10, 49)) k_183 rfl rfl) (Nat.le_of_ble_eq_true rfl) h rfl (fun μ2 h => ?_)
  exact h

theorem s_X10_readSum_5 {d : Nat} {sc : SC} {Q : Mem → Prop} {μ : Mem} {x1 : Int}
    (h : CAi mX10_is d sc [(2, 183), (0, 32)] μ (fun r1 μ2 => (r1 ≠ 0 → (μ2 183 9 ≠ 32 → CAv mX10_next d sc [(2, 183)] μ2 (fun μ6 => CAv mX10_readTerm d sc [(2, 183), (0, x1)] μ6 (fun μ8 => CAv mX10_codes d sc [(2, 183), (0, 3001)] μ8 (fun μ10 => WQ mX10_readSum d sc (ZV sc Q) 5 [(2, 183), (0, x1), (9, 0)] [] μ10)))) ∧ (μ2 183 9 = 32 → CAv mX10_next d sc [(2, 183)] μ2 (fun μ12 => CAv mX10_readTerm d sc [(2, 183), (0, x1)] μ12 (fun μ14 => CAv mX10_codes d sc [(2, 183), (0, 3000)] μ14 (fun μ16 => WQ mX10_readSum d sc (ZV sc Q) 5 [(2, 183), (0, x1), (9, 0)] [] μ16))))) ∧ (r1 = 0 → CAi mX10_is d sc [(2, 183), (0, 33)] μ2 (fun r17 μ18 => (r17 = 0 → Q μ18) ∧ (r17 ≠ 0 → (μ18 183 9 ≠ 32 → CAv mX10_next d sc [(2, 183)] μ18 (fun μ22 => CAv mX10_readTerm d sc [(2, 183), (0, x1)] μ22 (fun μ24 => CAv mX10_codes d sc [(2, 183), (0, 3001)] μ24 (fun μ26 => WQ mX10_readSum d sc (ZV sc Q) 5 [(2, 183), (0, x1), (9, 0)] [] μ26)))) ∧ (μ18 183 9 = 32 → CAv mX10_next d sc [(2, 183)] μ18 (fun μ28 => CAv mX10_readTerm d sc [(2, 183), (0, x1)] μ28 (fun μ30 => CAv mX10_codes d sc [(2, 183), (0, 3000)] μ30 (fun μ32 => WQ mX10_readSum d sc (ZV sc Q) 5 [(2, 183), (0, x1), (9, 0)] [] μ32))))))))) :
    WQ mX10_readSum d sc (ZV sc Q) 5 [(2, 183), (0, x1), (9, 0)] [] μ := by
  refine WP_aload_n dX10_readSum_5 rfl rfl ⟨Nat.le_of_ble_eq_true rfl, Nat.le_of_ble_eq_true rfl⟩ ?_
  refine WP_bipush dX10_readSum_6 (by decide +kernel) (by decide) ?_
  refine WQ_invVi (v := (2, 183)) (as := [(0, 32)]) dX10_readSum_8 l_X10_160 mw_X10_is mi_X10_is ms_X10_is mo_X10_is (rcv (ci := 10) (n := 49) (r := (RX10, TX10, 49)) k_183 rfl rfl) (Nat.le_of_ble_eq_true rfl) h rfl (fun r1 μ2 h => ?_)
  refine WQ_ifne (tgt := 23) dX10_readSum_11 (by decide) (fun c3 => ?_) (fun c3 => ?_)
  · replace h := h.1 c3
    refine WP_aload_n dX10_readSum_23 rfl rfl ⟨Nat.le_of_ble_eq_true rfl, Nat.le_of_ble_eq_true rfl⟩ ?_
    refine WP_getfield (ci := 10) (j := 9) (n := 49) (t := 0) (x := μ2 183 9) dX10_readSum_24 f_X10_136 k_183 rfl rfl ?_
    refine WP_bipush dX10_readSum_27 (by decide +kernel) (by decide) ?_
    refine WQ_icmp_ne (tgt := 38) dX10_readSum_29 (by decide) (fun c4 => ?_) (fun c4 => ?_)
    · replace h := h.1 c4
      refine WP_sipush dX10_readSum_38 (by decide +kernel) (by decide) ?_
      refine WP_istore_n (L' := [(2, 183), (0, x1), (0, 3001)]) dX10_readSum_41 rfl (by decide) rfl ?_
      refine WP_aload_n dX10_readSum_42 rfl rfl ⟨Nat.le_of_ble_eq_true rfl, Nat.le_of_ble_eq_true rfl⟩ ?_
      refine WQ_invVv (v := (2, 183)) (as := []) dX10_readSum_43 l_X10_163 mw_X10_next mi_X10_next ms_X10_next mo_X10_next (rcv (ci := 10) (n := 49) (r := (RX10, TX10, 49)) k_183 rfl rfl) (Nat.le_of_ble_eq_true rfl) h rfl (fun μ6 h => ?_)
      refine WP_aload_n dX10_readSum_46 rfl rfl ⟨Nat.le_of_ble_eq_true rfl, Nat.le_of_ble_eq_true rfl⟩ ?_
      refine WP_iload_n dX10_readSum_47 rfl rfl ?_
      refine WQ_invVv (v := (2, 183)) (as := [(0, x1)]) dX10_readSum_48 l_X10_201 mw_X10_readTerm mi_X10_readTerm ms_X10_readTerm mo_X10_readTerm (rcv (ci := 10) (n := 49) (r := (RX10, TX10, 49)) k_183 rfl rfl) (Nat.le_of_ble_eq_true rfl) h rfl (fun μ8 h => ?_)
      refine WP_aload_n dX10_readSum_51 rfl rfl ⟨Nat.le_of_ble_eq_true rfl, Nat.le_of_ble_eq_true rfl⟩ ?_
      refine WP_iload_n dX10_readSum_52 rfl rfl ?_
      refine WQ_invVv (v := (2, 183)) (as := [(0, 3001)]) dX10_readSum_53 l_X10_177 mw_X10_codes mi_X10_codes ms_X10_codes mo_X10_codes (rcv (ci := 10) (n := 49) (r := (RX10, TX10, 49)) k_183 rfl rfl) (Nat.le_of_ble_eq_true rfl) h rfl (fun μ10 h => ?_)
      refine WP_goto (tgt := 5) dX10_readSum_56 (by decide) ?_
      refine WP_lforget (L' := [(2, 183), (0, x1), (9, 0)]) rfl (fun i hi => ?_) h
      match i, hi with
      | 0, _ => exact Or.inl rfl
      | 1, _ => exact Or.inl rfl
      | 2, _ => exact Or.inr rfl
      | i + 3, hi => exact absurd hi (by simp only [List.length_cons, List.length_nil]; omega)
    · replace h := h.2 c4
      refine WP_sipush dX10_readSum_32 (by decide +kernel) (by decide) ?_
      refine WP_goto (tgt := 41) dX10_readSum_35 (by decide) ?_
      refine WP_istore_n (L' := [(2, 183), (0, x1), (0, 3000)]) dX10_readSum_41 rfl (by decide) rfl ?_
      refine WP_aload_n dX10_readSum_42 rfl rfl ⟨Nat.le_of_ble_eq_true rfl, Nat.le_of_ble_eq_true rfl⟩ ?_
      refine WQ_invVv (v := (2, 183)) (as := []) dX10_readSum_43 l_X10_163 mw_X10_next mi_X10_next ms_X10_next mo_X10_next (rcv (ci := 10) (n := 49) (r := (RX10, TX10, 49)) k_183 rfl rfl) (Nat.le_of_ble_eq_true rfl) h rfl (fun μ12 h => ?_)
      refine WP_aload_n dX10_readSum_46 rfl rfl ⟨Nat.le_of_ble_eq_true rfl, Nat.le_of_ble_eq_true rfl⟩ ?_
      refine WP_iload_n dX10_readSum_47 rfl rfl ?_
      refine WQ_invVv (v := (2, 183)) (as := [(0, x1)]) dX10_readSum_48 l_X10_201 mw_X10_readTerm mi_X10_readTerm ms_X10_readTerm mo_X10_readTerm (rcv (ci := 10) (n := 49) (r := (RX10, TX10, 49)) k_183 rfl rfl) (Nat.le_of_ble_eq_true rfl) h rfl (fun μ14 h => ?_)
      refine WP_aload_n dX10_readSum_51 rfl rfl ⟨Nat.le_of_ble_eq_true rfl, Nat.le_of_ble_eq_true rfl⟩ ?_
      refine WP_iload_n dX10_readSum_52 rfl rfl ?_
      refine WQ_invVv (v := (2, 183)) (as := [(0, 3000)]) dX10_readSum_53 l_X10_177 mw_X10_codes mi_X10_codes ms_X10_codes mo_X10_codes (rcv (ci := 10) (n := 49) (r := (RX10, TX10, 49)) k_183 rfl rfl) (Nat.le_of_ble_eq_true rfl) h rfl (fun μ16 h => ?_)
      refine WP_goto (tgt := 5) dX10_readSum_56 (by decide) ?_
      refine WP_lforget (L' := [(2, 183), (0, x1), (9, 0)]) rfl (fun i hi => ?_) h
      match i, hi with
      | 0, _ => exact Or.inl rfl
      | 1, _ => exact Or.inl rfl
      | 2, _ => exact Or.inr rfl
      | i + 3, hi => exact absurd hi (by simp only [List.length_cons, List.length_nil]; omega)
  · replace h := h.2 c3
    refine WP_aload_n dX10_readSum_14 rfl rfl ⟨Nat.le_of_ble_eq_true rfl, Nat.le_of_ble_eq_true rfl⟩ ?_
    refine WP_bipush dX10_readSum_15 (by decide +kernel) (by decide) ?_
    refine WQ_invVi (v := (2, 183)) (as := [(0, 33)]) dX10_readSum_17 l_X10_160 mw_X10_is mi_X10_is ms_X10_is mo_X10_is (rcv (ci := 10) (n := 49) (r := (RX10, TX10, 49)) k_183 rfl rfl) (Nat.le_of_ble_eq_true rfl) h rfl (fun r17 μ18 h => ?_)
    refine WQ_ifeq (tgt := 59) dX10_readSum_20 (by decide) (fun c19 => ?_) (fun c19 => ?_)
    · replace h := h.1 c19
      exact WQ_return dX10_readSum_59 rfl h
    · replace h := h.2 c19
      refine WP_aload_n dX10_readSum_23 rfl rfl ⟨Nat.le_of_ble_eq_true rfl, Nat.le_of_ble_eq_true rfl⟩ ?_
      refine WP_getfield (ci := 10) (j := 9) (n := 49) (t := 0) (x := μ18 183 9) dX10_readSum_24 f_X10_136 k_183 rfl rfl ?_
      refine WP_bipush dX10_readSum_27 (by decide +kernel) (by decide) ?_
      refine WQ_icmp_ne (tgt := 38) dX10_readSum_29 (by decide) (fun c20 => ?_) (fun c20 => ?_)
      · replace h := h.1 c20
        refine WP_sipush dX10_readSum_38 (by decide +kernel) (by decide) ?_
        refine WP_istore_n (L' := [(2, 183), (0, x1), (0, 3001)]) dX10_readSum_41 rfl (by decide) rfl ?_
        refine WP_aload_n dX10_readSum_42 rfl rfl ⟨Nat.le_of_ble_eq_true rfl, Nat.le_of_ble_eq_true rfl⟩ ?_
        refine WQ_invVv (v := (2, 183)) (as := []) dX10_readSum_43 l_X10_163 mw_X10_next mi_X10_next ms_X10_next mo_X10_next (rcv (ci := 10) (n := 49) (r := (RX10, TX10, 49)) k_183 rfl rfl) (Nat.le_of_ble_eq_true rfl) h rfl (fun μ22 h => ?_)
        refine WP_aload_n dX10_readSum_46 rfl rfl ⟨Nat.le_of_ble_eq_true rfl, Nat.le_of_ble_eq_true rfl⟩ ?_
        refine WP_iload_n dX10_readSum_47 rfl rfl ?_
        refine WQ_invVv (v := (2, 183)) (as := [(0, x1)]) dX10_readSum_48 l_X10_201 mw_X10_readTerm mi_X10_readTerm ms_X10_readTerm mo_X10_readTerm (rcv (ci := 10) (n := 49) (r := (RX10, TX10, 49)) k_183 rfl rfl) (Nat.le_of_ble_eq_true rfl) h rfl (fun μ24 h => ?_)
        refine WP_aload_n dX10_readSum_51 rfl rfl ⟨Nat.le_of_ble_eq_true rfl, Nat.le_of_ble_eq_true rfl⟩ ?_
        refine WP_iload_n dX10_readSum_52 rfl rfl ?_
        refine WQ_invVv (v := (2, 183)) (as := [(0, 3001)]) dX10_readSum_53 l_X10_177 mw_X10_codes mi_X10_codes ms_X10_codes mo_X10_codes (rcv (ci := 10) (n := 49) (r := (RX10, TX10, 49)) k_183 rfl rfl) (Nat.le_of_ble_eq_true rfl) h rfl (fun μ26 h => ?_)
        refine WP_goto (tgt := 5) dX10_readSum_56 (by decide) ?_
        refine WP_lforget (L' := [(2, 183), (0, x1), (9, 0)]) rfl (fun i hi => ?_) h
        match i, hi with
        | 0, _ => exact Or.inl rfl
        | 1, _ => exact Or.inl rfl
        | 2, _ => exact Or.inr rfl
        | i + 3, hi => exact absurd hi (by simp only [List.length_cons, List.length_nil]; omega)
      · replace h := h.2 c20
        refine WP_sipush dX10_readSum_32 (by decide +kernel) (by decide) ?_
        refine WP_goto (tgt := 41) dX10_readSum_35 (by decide) ?_
        refine WP_istore_n (L' := [(2, 183), (0, x1), (0, 3000)]) dX10_readSum_41 rfl (by decide) rfl ?_
        refine WP_aload_n dX10_readSum_42 rfl rfl ⟨Nat.le_of_ble_eq_true rfl, Nat.le_of_ble_eq_true rfl⟩ ?_
        refine WQ_invVv (v := (2, 183)) (as := []) dX10_readSum_43 l_X10_163 mw_X10_next mi_X10_next ms_X10_next mo_X10_next (rcv (ci := 10) (n := 49) (r := (RX10, TX10, 49)) k_183 rfl rfl) (Nat.le_of_ble_eq_true rfl) h rfl (fun μ28 h => ?_)
        refine WP_aload_n dX10_readSum_46 rfl rfl ⟨Nat.le_of_ble_eq_true rfl, Nat.le_of_ble_eq_true rfl⟩ ?_
        refine WP_iload_n dX10_readSum_47 rfl rfl ?_
        refine WQ_invVv (v := (2, 183)) (as := [(0, x1)]) dX10_readSum_48 l_X10_201 mw_X10_readTerm mi_X10_readTerm ms_X10_readTerm mo_X10_readTerm (rcv (ci := 10) (n := 49) (r := (RX10, TX10, 49)) k_183 rfl rfl) (Nat.le_of_ble_eq_true rfl) h rfl (fun μ30 h => ?_)
        refine WP_aload_n dX10_readSum_51 rfl rfl ⟨Nat.le_of_ble_eq_true rfl, Nat.le_of_ble_eq_true rfl⟩ ?_
        refine WP_iload_n dX10_readSum_52 rfl rfl ?_
        refine WQ_invVv (v := (2, 183)) (as := [(0, 3000)]) dX10_readSum_53 l_X10_177 mw_X10_codes mi_X10_codes ms_X10_codes mo_X10_codes (rcv (ci := 10) (n := 49) (r := (RX10, TX10, 49)) k_183 rfl rfl) (Nat.le_of_ble_eq_true rfl) h rfl (fun μ32 h => ?_)
        refine WP_goto (tgt := 5) dX10_readSum_56 (by decide) ?_
        refine WP_lforget (L' := [(2, 183), (0, x1), (9, 0)]) rfl (fun i hi => ?_) h
        match i, hi with
        | 0, _ => exact Or.inl rfl
        | 1, _ => exact Or.inl rfl
        | 2, _ => exact Or.inr rfl
        | i + 3, hi => exact absurd hi (by simp only [List.length_cons, List.length_nil]; omega)

theorem s_X10_readTerm_0 {d : Nat} {sc : SC} {Q : Mem → Prop} {μ : Mem} {a1 : Int}
    (h : CAv mX10_readAtom d sc [(2, 183), (0, a1)] μ (fun μ2 => WQ mX10_readTerm d sc (ZV sc Q) 5 [(2, 183), (0, a1)] [] μ2)) :
    WQ mX10_readTerm d sc (ZV sc Q) 0 [(2, 183), (0, a1)] [] μ := by
  refine WP_aload_n dX10_readTerm_0 rfl rfl ⟨Nat.le_of_ble_eq_true rfl, Nat.le_of_ble_eq_true rfl⟩ ?_
  refine WP_iload_n dX10_readTerm_1 rfl rfl ?_
  refine WQ_invVv (v := (2, 183)) (as := [(0, a1)]) dX10_readTerm_2 l_X10_198 mw_X10_readAtom mi_X10_readAtom ms_X10_readAtom mo_X10_readAtom (rcv (ci := 10) (n := 49) (r := (RX10, TX10, 49)) k_183 rfl rfl) (Nat.le_of_ble_eq_true rfl) h rfl (fun μ2 h => ?_)
  exact h

theorem s_X10_readTerm_5 {d : Nat} {sc : SC} {Q : Mem → Prop} {μ : Mem} {x1 : Int}
    (h : CAi mX10_eats d sc [(2, 183), (0, 34)] μ (fun r1 μ2 => (r1 = 0 → Q μ2) ∧ (r1 ≠ 0 → CAv mX10_readAtom d sc [(2, 183), (0, x1)] μ2 (fun μ5 => CAv mX10_codes d sc [(2, 183), (0, 3002)] μ5 (fun μ7 => WQ mX10_readTerm d sc (ZV sc Q) 5 [(2, 183), (0, x1)] [] μ7))))) :
    WQ mX10_readTerm d sc (ZV sc Q) 5 [(2, 183), (0, x1)] [] μ := by
  refine WP_aload_n dX10_readTerm_5 rfl rfl ⟨Nat.le_of_ble_eq_true rfl, Nat.le_of_ble_eq_true rfl⟩ ?_
  refine WP_bipush dX10_readTerm_6 (by decide +kernel) (by decide) ?_
  refine WQ_invVi (v := (2, 183)) (as := [(0, 34)]) dX10_readTerm_8 l_X10_189 mw_X10_eats mi_X10_eats ms_X10_eats mo_X10_eats (rcv (ci := 10) (n := 49) (r := (RX10, TX10, 49)) k_183 rfl rfl) (Nat.le_of_ble_eq_true rfl) h rfl (fun r1 μ2 h => ?_)
  refine WQ_ifeq (tgt := 29) dX10_readTerm_11 (by decide) (fun c3 => ?_) (fun c3 => ?_)
  · replace h := h.1 c3
    exact WQ_return dX10_readTerm_29 rfl h
  · replace h := h.2 c3
    refine WP_aload_n dX10_readTerm_14 rfl rfl ⟨Nat.le_of_ble_eq_true rfl, Nat.le_of_ble_eq_true rfl⟩ ?_
    refine WP_iload_n dX10_readTerm_15 rfl rfl ?_
    refine WQ_invVv (v := (2, 183)) (as := [(0, x1)]) dX10_readTerm_16 l_X10_198 mw_X10_readAtom mi_X10_readAtom ms_X10_readAtom mo_X10_readAtom (rcv (ci := 10) (n := 49) (r := (RX10, TX10, 49)) k_183 rfl rfl) (Nat.le_of_ble_eq_true rfl) h rfl (fun μ5 h => ?_)
    refine WP_aload_n dX10_readTerm_19 rfl rfl ⟨Nat.le_of_ble_eq_true rfl, Nat.le_of_ble_eq_true rfl⟩ ?_
    refine WP_sipush dX10_readTerm_20 (by decide +kernel) (by decide) ?_
    refine WQ_invVv (v := (2, 183)) (as := [(0, 3002)]) dX10_readTerm_23 l_X10_177 mw_X10_codes mi_X10_codes ms_X10_codes mo_X10_codes (rcv (ci := 10) (n := 49) (r := (RX10, TX10, 49)) k_183 rfl rfl) (Nat.le_of_ble_eq_true rfl) h rfl (fun μ7 h => ?_)
    refine WP_goto (tgt := 5) dX10_readTerm_26 (by decide) ?_
    exact h

theorem s_X10_readTruth_0 {d : Nat} {sc : SC} {Q : Mem → Prop} {μ : Mem} {a1 : Int}
    (h : CAv mX10_readBoth d sc [(2, 183), (0, a1)] μ (fun μ2 => WQ mX10_readTruth d sc (ZV sc Q) 5 [(2, 183), (0, a1)] [] μ2)) :
    WQ mX10_readTruth d sc (ZV sc Q) 0 [(2, 183), (0, a1)] [] μ := by
  refine WP_aload_n dX10_readTruth_0 rfl rfl ⟨Nat.le_of_ble_eq_true rfl, Nat.le_of_ble_eq_true rfl⟩ ?_
  refine WP_iload_n dX10_readTruth_1 rfl rfl ?_
  refine WQ_invVv (v := (2, 183)) (as := [(0, a1)]) dX10_readTruth_2 l_X10_207 mw_X10_readBoth mi_X10_readBoth ms_X10_readBoth mo_X10_readBoth (rcv (ci := 10) (n := 49) (r := (RX10, TX10, 49)) k_183 rfl rfl) (Nat.le_of_ble_eq_true rfl) h rfl (fun μ2 h => ?_)
  exact h

theorem s_X10_readTruth_5 {d : Nat} {sc : SC} {Q : Mem → Prop} {μ : Mem} {x1 : Int}
    (h : CAi mX10_eats d sc [(2, 183), (0, 22)] μ (fun r1 μ2 => (r1 = 0 → Q μ2) ∧ (r1 ≠ 0 → CAv mX10_readBoth d sc [(2, 183), (0, x1)] μ2 (fun μ5 => CAv mX10_codes d sc [(2, 183), (0, 3008)] μ5 (fun μ7 => WQ mX10_readTruth d sc (ZV sc Q) 5 [(2, 183), (0, x1)] [] μ7))))) :
    WQ mX10_readTruth d sc (ZV sc Q) 5 [(2, 183), (0, x1)] [] μ := by
  refine WP_aload_n dX10_readTruth_5 rfl rfl ⟨Nat.le_of_ble_eq_true rfl, Nat.le_of_ble_eq_true rfl⟩ ?_
  refine WP_bipush dX10_readTruth_6 (by decide +kernel) (by decide) ?_
  refine WQ_invVi (v := (2, 183)) (as := [(0, 22)]) dX10_readTruth_8 l_X10_189 mw_X10_eats mi_X10_eats ms_X10_eats mo_X10_eats (rcv (ci := 10) (n := 49) (r := (RX10, TX10, 49)) k_183 rfl rfl) (Nat.le_of_ble_eq_true rfl) h rfl (fun r1 μ2 h => ?_)
  refine WQ_ifeq (tgt := 29) dX10_readTruth_11 (by decide) (fun c3 => ?_) (fun c3 => ?_)
  · replace h := h.1 c3
    exact WQ_return dX10_readTruth_29 rfl h
  · replace h := h.2 c3
    refine WP_aload_n dX10_readTruth_14 rfl rfl ⟨Nat.le_of_ble_eq_true rfl, Nat.le_of_ble_eq_true rfl⟩ ?_
    refine WP_iload_n dX10_readTruth_15 rfl rfl ?_
    refine WQ_invVv (v := (2, 183)) (as := [(0, x1)]) dX10_readTruth_16 l_X10_207 mw_X10_readBoth mi_X10_readBoth ms_X10_readBoth mo_X10_readBoth (rcv (ci := 10) (n := 49) (r := (RX10, TX10, 49)) k_183 rfl rfl) (Nat.le_of_ble_eq_true rfl) h rfl (fun μ5 h => ?_)
    refine WP_aload_n dX10_readTruth_19 rfl rfl ⟨Nat.le_of_ble_eq_true rfl, Nat.le_of_ble_eq_true rfl⟩ ?_
    refine WP_sipush dX10_readTruth_20 (by decide +kernel) (by decide) ?_
    refine WQ_invVv (v := (2, 183)) (as := [(0, 3008)]) dX10_readTruth_23 l_X10_177 mw_X10_codes mi_X10_codes ms_X10_codes mo_X10_codes (rcv (ci := 10) (n := 49) (r := (RX10, TX10, 49)) k_183 rfl rfl) (Nat.le_of_ble_eq_true rfl) h rfl (fun μ7 h => ?_)
    refine WP_goto (tgt := 5) dX10_readTruth_26 (by decide) ?_
    exact h

theorem s_X10_readUnit_0 {d : Nat} {sc : SC} {Q : Mem → Prop} {μ : Mem} {a1 : Int}
    (h : CAi mX10_is d sc [(2, 183), (0, 23)] μ (fun r1 μ2 => (r1 = 0 → CAi mX10_is d sc [(2, 183), (0, 37)] μ2 (fun r4 μ5 => (r4 = 0 → CAv mX10_readSum d sc [(2, 183), (0, a1)] μ5 (fun μ8 => CAi mX10_is d sc [(2, 183), (0, 39)] μ8 (fun r9 μ10 => (r9 = 0 → CAi mX10_is d sc [(2, 183), (0, 40)] μ10 (fun r12 μ13 => (r12 = 0 → WQ mX10_readUnit d sc (ZV sc Q) 111 [(2, 183), (0, a1), (9, 0)] [(0, 3005)] μ13) ∧ (r12 ≠ 0 → WQ mX10_readUnit d sc (ZV sc Q) 111 [(2, 183), (0, a1), (9, 0)] [(0, 3004)] μ13))) ∧ (r9 ≠ 0 → WQ mX10_readUnit d sc (ZV sc Q) 111 [(2, 183), (0, a1), (9, 0)] [(0, 3003)] μ10)))) ∧ (r4 ≠ 0 → CAi mX10_goesIn d sc [(2, 183), (0, a1)] μ5 (fun r15 μ16 => (r15 ≠ 0 → (-2147483648 ≤ a1 + 1 ∧ a1 + 1 < 2147483648) ∧ CAv mX10_readTruth d sc [(2, 183), (0, a1 + 1)] μ16 (fun μ20 => CAi mX10_eats d sc [(2, 183), (0, 38)] μ20 (fun r21 μ22 => (r21 ≠ 0 → Q μ22) ∧ (r21 = 0 → CAv mX10_fails d sc [(2, 183), (0, 2)] μ22 (fun μ25 => Q μ25))))) ∧ (r15 = 0 → Q μ16))))) ∧ (r1 ≠ 0 → CAi mX10_goesIn d sc [(2, 183), (0, a1)] μ2 (fun r26 μ27 => (r26 ≠ 0 → (-2147483648 ≤ a1 + 1 ∧ a1 + 1 < 2147483648) ∧ CAv mX10_readUnit d sc [(2, 183), (0, a1 + 1)] μ27 (fun μ31 => CAv mX10_codes d sc [(2, 183), (0, 3006)] μ31 (fun μ33 => Q μ33))) ∧ (r26 = 0 → Q μ27))))) :
    WQ mX10_readUnit d sc (ZV sc Q) 0 [(2, 183), (0, a1), (9, 0)] [] μ := by
  refine WP_aload_n dX10_readUnit_0 rfl rfl ⟨Nat.le_of_ble_eq_true rfl, Nat.le_of_ble_eq_true rfl⟩ ?_
  refine WP_bipush dX10_readUnit_1 (by decide +kernel) (by decide) ?_
  refine WQ_invVi (v := (2, 183)) (as := [(0, 23)]) dX10_readUnit_3 l_X10_160 mw_X10_is mi_X10_is ms_X10_is mo_X10_is (rcv (ci := 10) (n := 49) (r := (RX10, TX10, 49)) k_183 rfl rfl) (Nat.le_of_ble_eq_true rfl) h rfl (fun r1 μ2 h => ?_)
  refine WQ_ifeq (tgt := 33) dX10_readUnit_6 (by decide) (fun c3 => ?_) (fun c3 => ?_)
  · replace h := h.1 c3
    refine WP_aload_n dX10_readUnit_33 rfl rfl ⟨Nat.le_of_ble_eq_true rfl, Nat.le_of_ble_eq_true rfl⟩ ?_
    refine WP_bipush dX10_readUnit_34 (by decide +kernel) (by decide) ?_
    refine WQ_invVi (v := (2, 183)) (as := [(0, 37)]) dX10_readUnit_36 l_X10_160 mw_X10_is mi_X10_is ms_X10_is mo_X10_is (rcv (ci := 10) (n := 49) (r := (RX10, TX10, 49)) k_183 rfl rfl) (Nat.le_of_ble_eq_true rfl) h rfl (fun r4 μ5 h => ?_)
    refine WQ_ifeq (tgt := 73) dX10_readUnit_39 (by decide) (fun c6 => ?_) (fun c6 => ?_)
    · replace h := h.1 c6
      refine WP_aload_n dX10_readUnit_73 rfl rfl ⟨Nat.le_of_ble_eq_true rfl, Nat.le_of_ble_eq_true rfl⟩ ?_
      refine WP_iload_n dX10_readUnit_74 rfl rfl ?_
      refine WQ_invVv (v := (2, 183)) (as := [(0, a1)]) dX10_readUnit_75 l_X10_186 mw_X10_readSum mi_X10_readSum ms_X10_readSum mo_X10_readSum (rcv (ci := 10) (n := 49) (r := (RX10, TX10, 49)) k_183 rfl rfl) (Nat.le_of_ble_eq_true rfl) h rfl (fun μ8 h => ?_)
      refine WP_aload_n dX10_readUnit_78 rfl rfl ⟨Nat.le_of_ble_eq_true rfl, Nat.le_of_ble_eq_true rfl⟩ ?_
      refine WP_bipush dX10_readUnit_79 (by decide +kernel) (by decide) ?_
      refine WQ_invVi (v := (2, 183)) (as := [(0, 39)]) dX10_readUnit_81 l_X10_160 mw_X10_is mi_X10_is ms_X10_is mo_X10_is (rcv (ci := 10) (n := 49) (r := (RX10, TX10, 49)) k_183 rfl rfl) (Nat.le_of_ble_eq_true rfl) h rfl (fun r9 μ10 h => ?_)
      refine WQ_ifeq (tgt := 93) dX10_readUnit_84 (by decide) (fun c11 => ?_) (fun c11 => ?_)
      · replace h := h.1 c11
        refine WP_aload_n dX10_readUnit_93 rfl rfl ⟨Nat.le_of_ble_eq_true rfl, Nat.le_of_ble_eq_true rfl⟩ ?_
        refine WP_bipush dX10_readUnit_94 (by decide +kernel) (by decide) ?_
        refine WQ_invVi (v := (2, 183)) (as := [(0, 40)]) dX10_readUnit_96 l_X10_160 mw_X10_is mi_X10_is ms_X10_is mo_X10_is (rcv (ci := 10) (n := 49) (r := (RX10, TX10, 49)) k_183 rfl rfl) (Nat.le_of_ble_eq_true rfl) h rfl (fun r12 μ13 h => ?_)
        refine WQ_ifeq (tgt := 108) dX10_readUnit_99 (by decide) (fun c14 => ?_) (fun c14 => ?_)
        · replace h := h.1 c14
          refine WP_sipush dX10_readUnit_108 (by decide +kernel) (by decide) ?_
          exact h
        · replace h := h.2 c14
          refine WP_sipush dX10_readUnit_102 (by decide +kernel) (by decide) ?_
          refine WP_goto (tgt := 111) dX10_readUnit_105 (by decide) ?_
          exact h
      · replace h := h.2 c11
        refine WP_sipush dX10_readUnit_87 (by decide +kernel) (by decide) ?_
        refine WP_goto (tgt := 111) dX10_readUnit_90 (by decide) ?_
        exact h
    · replace h := h.2 c6
      refine WP_aload_n dX10_readUnit_42 rfl rfl ⟨Nat.le_of_ble_eq_true rfl, Nat.le_of_ble_eq_true rfl⟩ ?_
      refine WP_iload_n dX10_readUnit_43 rfl rfl ?_
      refine WQ_invVi (v := (2, 183)) (as := [(0, a1)]) dX10_readUnit_44 l_X10_183 mw_X10_goesIn mi_X10_goesIn ms_X10_goesIn mo_X10_goesIn (rcv (ci := 10) (n := 49) (r := (RX10, TX10, 49)) k_183 rfl rfl) (Nat.le_of_ble_eq_true rfl) h rfl (fun r15 μ16 h => ?_)
      refine WQ_ifne (tgt := 51) dX10_readUnit_47 (by decide) (fun c17 => ?_) (fun c17 => ?_)
      · replace h := h.1 c17
        refine WP_aload_n dX10_readUnit_51 rfl rfl ⟨Nat.le_of_ble_eq_true rfl, Nat.le_of_ble_eq_true rfl⟩ ?_
        refine WP_iload_n dX10_readUnit_52 rfl rfl ?_
        refine WP_iconst dX10_readUnit_53 (by decide) ?_
        obtain ⟨g18, h⟩ := h
        refine WP_iadd dX10_readUnit_54 g18 ?_
        refine WQ_invVv (v := (2, 183)) (as := [(0, a1 + 1)]) dX10_readUnit_55 l_X10_195 mw_X10_readTruth mi_X10_readTruth ms_X10_readTruth mo_X10_readTruth (rcv (ci := 10) (n := 49) (r := (RX10, TX10, 49)) k_183 rfl rfl) (Nat.le_of_ble_eq_true rfl) h rfl (fun μ20 h => ?_)
        refine WP_aload_n dX10_readUnit_58 rfl rfl ⟨Nat.le_of_ble_eq_true rfl, Nat.le_of_ble_eq_true rfl⟩ ?_
        refine WP_bipush dX10_readUnit_59 (by decide +kernel) (by decide) ?_
        refine WQ_invVi (v := (2, 183)) (as := [(0, 38)]) dX10_readUnit_61 l_X10_189 mw_X10_eats mi_X10_eats ms_X10_eats mo_X10_eats (rcv (ci := 10) (n := 49) (r := (RX10, TX10, 49)) k_183 rfl rfl) (Nat.le_of_ble_eq_true rfl) h rfl (fun r21 μ22 h => ?_)
        refine WQ_ifne (tgt := 72) dX10_readUnit_64 (by decide) (fun c23 => ?_) (fun c23 => ?_)
        · replace h := h.1 c23
          exact WQ_return dX10_readUnit_72 rfl h
        · replace h := h.2 c23
          refine WP_aload_n dX10_readUnit_67 rfl rfl ⟨Nat.le_of_ble_eq_true rfl, Nat.le_of_ble_eq_true rfl⟩ ?_
          refine WP_iconst dX10_readUnit_68 (by decide) ?_
          refine WQ_invVv (v := (2, 183)) (as := [(0, 2)]) dX10_readUnit_69 l_X10_166 mw_X10_fails mi_X10_fails ms_X10_fails mo_X10_fails (rcv (ci := 10) (n := 49) (r := (RX10, TX10, 49)) k_183 rfl rfl) (Nat.le_of_ble_eq_true rfl) h rfl (fun μ25 h => ?_)
          exact WQ_return dX10_readUnit_72 rfl h
      · replace h := h.2 c17
        exact WQ_return dX10_readUnit_50 rfl h
  · replace h := h.2 c3
    refine WP_aload_n dX10_readUnit_9 rfl rfl ⟨Nat.le_of_ble_eq_true rfl, Nat.le_of_ble_eq_true rfl⟩ ?_
    refine WP_iload_n dX10_readUnit_10 rfl rfl ?_
    refine WQ_invVi (v := (2, 183)) (as := [(0, a1)]) dX10_readUnit_11 l_X10_183 mw_X10_goesIn mi_X10_goesIn ms_X10_goesIn mo_X10_goesIn (rcv (ci := 10) (n := 49) (r := (RX10, TX10, 49)) k_183 rfl rfl) (Nat.le_of_ble_eq_true rfl) h rfl (fun r26 μ27 h => ?_)
    refine WQ_ifne (tgt := 18) dX10_readUnit_14 (by decide) (fun c28 => ?_) (fun c28 => ?_)
    · replace h := h.1 c28
      refine WP_aload_n dX10_readUnit_18 rfl rfl ⟨Nat.le_of_ble_eq_true rfl, Nat.le_of_ble_eq_true rfl⟩ ?_
      refine WP_iload_n dX10_readUnit_19 rfl rfl ?_
      refine WP_iconst dX10_readUnit_20 (by decide) ?_
      obtain ⟨g29, h⟩ := h
      refine WP_iadd dX10_readUnit_21 g29 ?_
      refine WQ_invVv (v := (2, 183)) (as := [(0, a1 + 1)]) dX10_readUnit_22 l_X10_204 mw_X10_readUnit mi_X10_readUnit ms_X10_readUnit mo_X10_readUnit (rcv (ci := 10) (n := 49) (r := (RX10, TX10, 49)) k_183 rfl rfl) (Nat.le_of_ble_eq_true rfl) h rfl (fun μ31 h => ?_)
      refine WP_aload_n dX10_readUnit_25 rfl rfl ⟨Nat.le_of_ble_eq_true rfl, Nat.le_of_ble_eq_true rfl⟩ ?_
      refine WP_sipush dX10_readUnit_26 (by decide +kernel) (by decide) ?_
      refine WQ_invVv (v := (2, 183)) (as := [(0, 3006)]) dX10_readUnit_29 l_X10_177 mw_X10_codes mi_X10_codes ms_X10_codes mo_X10_codes (rcv (ci := 10) (n := 49) (r := (RX10, TX10, 49)) k_183 rfl rfl) (Nat.le_of_ble_eq_true rfl) h rfl (fun μ33 h => ?_)
      exact WQ_return dX10_readUnit_32 rfl h
    · replace h := h.2 c28
      exact WQ_return dX10_readUnit_17 rfl h

theorem s_X10_readUnit_111 {d : Nat} {sc : SC} {Q : Mem → Prop} {μ : Mem} {x1 y0 : Int}
    (h : CAi mX10_is d sc [(2, 183), (0, 39)] μ (fun r1 μ2 => (r1 ≠ 0 → CAv mX10_next d sc [(2, 183)] μ2 (fun μ5 => CAv mX10_readSum d sc [(2, 183), (0, x1)] μ5 (fun μ7 => CAv mX10_codes d sc [(2, 183), (0, y0)] μ7 (fun μ9 => Q μ9)))) ∧ (r1 = 0 → CAi mX10_is d sc [(2, 183), (0, 40)] μ2 (fun r10 μ11 => (r10 ≠ 0 → CAv mX10_next d sc [(2, 183)] μ11 (fun μ14 => CAv mX10_readSum d sc [(2, 183), (0, x1)] μ14 (fun μ16 => CAv mX10_codes d sc [(2, 183), (0, y0)] μ16 (fun μ18 => Q μ18)))) ∧ (r10 = 0 → CAi mX10_is d sc [(2, 183), (0, 41)] μ11 (fun r19 μ20 => (r19 = 0 → CAv mX10_fails d sc [(2, 183), (0, 2)] μ20 (fun μ23 => CAv mX10_readSum d sc [(2, 183), (0, x1)] μ23 (fun μ25 => CAv mX10_codes d sc [(2, 183), (0, y0)] μ25 (fun μ27 => Q μ27)))) ∧ (r19 ≠ 0 → CAv mX10_next d sc [(2, 183)] μ20 (fun μ29 => CAv mX10_readSum d sc [(2, 183), (0, x1)] μ29 (fun μ31 => CAv mX10_codes d sc [(2, 183), (0, y0)] μ31 (fun μ33 => Q μ33)))))))))) :
    WQ mX10_readUnit d sc (ZV sc Q) 111 [(2, 183), (0, x1), (9, 0)] [(0, y0)] μ := by
  refine WP_istore_n (L' := [(2, 183), (0, x1), (0, y0)]) dX10_readUnit_111 rfl (by decide) rfl ?_
  refine WP_aload_n dX10_readUnit_112 rfl rfl ⟨Nat.le_of_ble_eq_true rfl, Nat.le_of_ble_eq_true rfl⟩ ?_
  refine WP_bipush dX10_readUnit_113 (by decide +kernel) (by decide) ?_
  refine WQ_invVi (v := (2, 183)) (as := [(0, 39)]) dX10_readUnit_115 l_X10_160 mw_X10_is mi_X10_is ms_X10_is mo_X10_is (rcv (ci := 10) (n := 49) (r := (RX10, TX10, 49)) k_183 rfl rfl) (Nat.le_of_ble_eq_true rfl) h rfl (fun r1 μ2 h => ?_)
  refine WQ_ifne (tgt := 139) dX10_readUnit_118 (by decide) (fun c3 => ?_) (fun c3 => ?_)
  · replace h := h.1 c3
    refine WP_aload_n dX10_readUnit_139 rfl rfl ⟨Nat.le_of_ble_eq_true rfl, Nat.le_of_ble_eq_true rfl⟩ ?_
    refine WQ_invVv (v := (2, 183)) (as := []) dX10_readUnit_140 l_X10_163 mw_X10_next mi_X10_next ms_X10_next mo_X10_next (rcv (ci := 10) (n := 49) (r := (RX10, TX10, 49)) k_183 rfl rfl) (Nat.le_of_ble_eq_true rfl) h rfl (fun μ5 h => ?_)
    refine WP_goto (tgt := 151) dX10_readUnit_143 (by decide) ?_
    refine WP_aload_n dX10_readUnit_151 rfl rfl ⟨Nat.le_of_ble_eq_true rfl, Nat.le_of_ble_eq_true rfl⟩ ?_
    refine WP_iload_n dX10_readUnit_152 rfl rfl ?_
    refine WQ_invVv (v := (2, 183)) (as := [(0, x1)]) dX10_readUnit_153 l_X10_186 mw_X10_readSum mi_X10_readSum ms_X10_readSum mo_X10_readSum (rcv (ci := 10) (n := 49) (r := (RX10, TX10, 49)) k_183 rfl rfl) (Nat.le_of_ble_eq_true rfl) h rfl (fun μ7 h => ?_)
    refine WP_aload_n dX10_readUnit_156 rfl rfl ⟨Nat.le_of_ble_eq_true rfl, Nat.le_of_ble_eq_true rfl⟩ ?_
    refine WP_iload_n dX10_readUnit_157 rfl rfl ?_
    refine WQ_invVv (v := (2, 183)) (as := [(0, y0)]) dX10_readUnit_158 l_X10_177 mw_X10_codes mi_X10_codes ms_X10_codes mo_X10_codes (rcv (ci := 10) (n := 49) (r := (RX10, TX10, 49)) k_183 rfl rfl) (Nat.le_of_ble_eq_true rfl) h rfl (fun μ9 h => ?_)
    exact WQ_return dX10_readUnit_161 rfl h
  · replace h := h.2 c3
    refine WP_aload_n dX10_readUnit_121 rfl rfl ⟨Nat.le_of_ble_eq_true rfl, Nat.le_of_ble_eq_true rfl⟩ ?_
    refine WP_bipush dX10_readUnit_122 (by decide +kernel) (by decide) ?_
    refine WQ_invVi (v := (2, 183)) (as := [(0, 40)]) dX10_readUnit_124 l_X10_160 mw_X10_is mi_X10_is ms_X10_is mo_X10_is (rcv (ci := 10) (n := 49) (r := (RX10, TX10, 49)) k_183 rfl rfl) (Nat.le_of_ble_eq_true rfl) h rfl (fun r10 μ11 h => ?_)
    refine WQ_ifne (tgt := 139) dX10_readUnit_127 (by decide) (fun c12 => ?_) (fun c12 => ?_)
    · replace h := h.1 c12
      refine WP_aload_n dX10_readUnit_139 rfl rfl ⟨Nat.le_of_ble_eq_true rfl, Nat.le_of_ble_eq_true rfl⟩ ?_
      refine WQ_invVv (v := (2, 183)) (as := []) dX10_readUnit_140 l_X10_163 mw_X10_next mi_X10_next ms_X10_next mo_X10_next (rcv (ci := 10) (n := 49) (r := (RX10, TX10, 49)) k_183 rfl rfl) (Nat.le_of_ble_eq_true rfl) h rfl (fun μ14 h => ?_)
      refine WP_goto (tgt := 151) dX10_readUnit_143 (by decide) ?_
      refine WP_aload_n dX10_readUnit_151 rfl rfl ⟨Nat.le_of_ble_eq_true rfl, Nat.le_of_ble_eq_true rfl⟩ ?_
      refine WP_iload_n dX10_readUnit_152 rfl rfl ?_
      refine WQ_invVv (v := (2, 183)) (as := [(0, x1)]) dX10_readUnit_153 l_X10_186 mw_X10_readSum mi_X10_readSum ms_X10_readSum mo_X10_readSum (rcv (ci := 10) (n := 49) (r := (RX10, TX10, 49)) k_183 rfl rfl) (Nat.le_of_ble_eq_true rfl) h rfl (fun μ16 h => ?_)
      refine WP_aload_n dX10_readUnit_156 rfl rfl ⟨Nat.le_of_ble_eq_true rfl, Nat.le_of_ble_eq_true rfl⟩ ?_
      refine WP_iload_n dX10_readUnit_157 rfl rfl ?_
      refine WQ_invVv (v := (2, 183)) (as := [(0, y0)]) dX10_readUnit_158 l_X10_177 mw_X10_codes mi_X10_codes ms_X10_codes mo_X10_codes (rcv (ci := 10) (n := 49) (r := (RX10, TX10, 49)) k_183 rfl rfl) (Nat.le_of_ble_eq_true rfl) h rfl (fun μ18 h => ?_)
      exact WQ_return dX10_readUnit_161 rfl h
    · replace h := h.2 c12
      refine WP_aload_n dX10_readUnit_130 rfl rfl ⟨Nat.le_of_ble_eq_true rfl, Nat.le_of_ble_eq_true rfl⟩ ?_
      refine WP_bipush dX10_readUnit_131 (by decide +kernel) (by decide) ?_
      refine WQ_invVi (v := (2, 183)) (as := [(0, 41)]) dX10_readUnit_133 l_X10_160 mw_X10_is mi_X10_is ms_X10_is mo_X10_is (rcv (ci := 10) (n := 49) (r := (RX10, TX10, 49)) k_183 rfl rfl) (Nat.le_of_ble_eq_true rfl) h rfl (fun r19 μ20 h => ?_)
      refine WQ_ifeq (tgt := 146) dX10_readUnit_136 (by decide) (fun c21 => ?_) (fun c21 => ?_)
      · replace h := h.1 c21
        refine WP_aload_n dX10_readUnit_146 rfl rfl ⟨Nat.le_of_ble_eq_true rfl, Nat.le_of_ble_eq_true rfl⟩ ?_
        refine WP_iconst dX10_readUnit_147 (by decide) ?_
        refine WQ_invVv (v := (2, 183)) (as := [(0, 2)]) dX10_readUnit_148 l_X10_166 mw_X10_fails mi_X10_fails ms_X10_fails mo_X10_fails (rcv (ci := 10) (n := 49) (r := (RX10, TX10, 49)) k_183 rfl rfl) (Nat.le_of_ble_eq_true rfl) h rfl (fun μ23 h => ?_)
        refine WP_aload_n dX10_readUnit_151 rfl rfl ⟨Nat.le_of_ble_eq_true rfl, Nat.le_of_ble_eq_true rfl⟩ ?_
        refine WP_iload_n dX10_readUnit_152 rfl rfl ?_
        refine WQ_invVv (v := (2, 183)) (as := [(0, x1)]) dX10_readUnit_153 l_X10_186 mw_X10_readSum mi_X10_readSum ms_X10_readSum mo_X10_readSum (rcv (ci := 10) (n := 49) (r := (RX10, TX10, 49)) k_183 rfl rfl) (Nat.le_of_ble_eq_true rfl) h rfl (fun μ25 h => ?_)
        refine WP_aload_n dX10_readUnit_156 rfl rfl ⟨Nat.le_of_ble_eq_true rfl, Nat.le_of_ble_eq_true rfl⟩ ?_
        refine WP_iload_n dX10_readUnit_157 rfl rfl ?_
        refine WQ_invVv (v := (2, 183)) (as := [(0, y0)]) dX10_readUnit_158 l_X10_177 mw_X10_codes mi_X10_codes ms_X10_codes mo_X10_codes (rcv (ci := 10) (n := 49) (r := (RX10, TX10, 49)) k_183 rfl rfl) (Nat.le_of_ble_eq_true rfl) h rfl (fun μ27 h => ?_)
        exact WQ_return dX10_readUnit_161 rfl h
      · replace h := h.2 c21
        refine WP_aload_n dX10_readUnit_139 rfl rfl ⟨Nat.le_of_ble_eq_true rfl, Nat.le_of_ble_eq_true rfl⟩ ?_
        refine WQ_invVv (v := (2, 183)) (as := []) dX10_readUnit_140 l_X10_163 mw_X10_next mi_X10_next ms_X10_next mo_X10_next (rcv (ci := 10) (n := 49) (r := (RX10, TX10, 49)) k_183 rfl rfl) (Nat.le_of_ble_eq_true rfl) h rfl (fun μ29 h => ?_)
        refine WP_goto (tgt := 151) dX10_readUnit_143 (by decide) ?_
        refine WP_aload_n dX10_readUnit_151 rfl rfl ⟨Nat.le_of_ble_eq_true rfl, Nat.le_of_ble_eq_true rfl⟩ ?_
        refine WP_iload_n dX10_readUnit_152 rfl rfl ?_
        refine WQ_invVv (v := (2, 183)) (as := [(0, x1)]) dX10_readUnit_153 l_X10_186 mw_X10_readSum mi_X10_readSum ms_X10_readSum mo_X10_readSum (rcv (ci := 10) (n := 49) (r := (RX10, TX10, 49)) k_183 rfl rfl) (Nat.le_of_ble_eq_true rfl) h rfl (fun μ31 h => ?_)
        refine WP_aload_n dX10_readUnit_156 rfl rfl ⟨Nat.le_of_ble_eq_true rfl, Nat.le_of_ble_eq_true rfl⟩ ?_
        refine WP_iload_n dX10_readUnit_157 rfl rfl ?_
        refine WQ_invVv (v := (2, 183)) (as := [(0, y0)]) dX10_readUnit_158 l_X10_177 mw_X10_codes mi_X10_codes ms_X10_codes mo_X10_codes (rcv (ci := 10) (n := 49) (r := (RX10, TX10, 49)) k_183 rfl rfl) (Nat.le_of_ble_eq_true rfl) h rfl (fun μ33 h => ?_)
        exact WQ_return dX10_readUnit_161 rfl h

theorem s_X10_reckons_0 {d : Nat} {sc : SC} {Q : Int → Mem → Prop} {μ : Mem} {a1 a2 a3 : Int}
    (h : ∀ μ2, μ2 = mup μ 189 0 a2 → ∀ μ4, μ4 = mup μ2 189 1 a3 → CAi mX10_farOf d sc [(2, 183), (0, a2), (0, a3)] μ4 (fun r5 μ6 => ∀ μ8, μ8 = mup μ6 189 2 r5 → (-2147483648 ≤ 13 + a2 ∧ 13 + a2 < 2147483648) ∧ (0 ≤ 13 + a2 ∧ 13 + a2 < 4119) ∧ (∀ μ12, μ12 = mup μ8 189 3 (μ8 184 (13 + a2)) → (-2147483648 ≤ 19 + a3 ∧ 19 + a3 < 2147483648) ∧ (0 ≤ 19 + a3 ∧ 19 + a3 < 4119) ∧ (∀ μ16, μ16 = mup μ12 189 4 (μ12 184 (19 + a3)) → (-2147483648 ≤ 25 + a2 ∧ 25 + a2 < 2147483648) ∧ (0 ≤ 25 + a2 ∧ 25 + a2 < 4119) ∧ (∀ μ20, μ20 = mup μ16 189 5 (μ16 184 (25 + a2)) → ∀ μ23, μ23 = mup μ20 189 6 (μ20 184 70) → WQ mX10_reckons d sc (ZI sc Q) 91 [(2, 183), (0, a1), (9, 0), (9, 0), (0, 0), (0, 0), (9, 0)] [] μ23))))) :
    WQ mX10_reckons d sc (ZI sc Q) 0 [(2, 183), (0, a1), (0, a2), (0, a3), (9, 0), (9, 0), (9, 0)] [] μ := by
  refine WP_aload_n dX10_reckons_0 rfl rfl ⟨Nat.le_of_ble_eq_true rfl, Nat.le_of_ble_eq_true rfl⟩ ?_
  refine WP_getfield (ci := 10) (j := 17) (n := 49) (t := 2) (x := 189) dX10_reckons_1 f_X10_33 k_183 rfl rfl ?_
  refine WP_iconst dX10_reckons_4 (by decide) ?_
  refine WP_iload_n dX10_reckons_5 rfl rfl ?_
  refine WQ_iast (n := 9) dX10_reckons_6 k_189 ⟨by decide, by decide⟩ (fun μ2 eμ2 => ?_)
  replace h := h μ2 eμ2
  refine WP_aload_n dX10_reckons_7 rfl rfl ⟨Nat.le_of_ble_eq_true rfl, Nat.le_of_ble_eq_true rfl⟩ ?_
  refine WP_getfield (ci := 10) (j := 17) (n := 49) (t := 2) (x := 189) dX10_reckons_8 f_X10_33 k_183 rfl rfl ?_
  refine WP_iconst dX10_reckons_11 (by decide) ?_
  refine WP_iload_n dX10_reckons_12 rfl rfl ?_
  refine WQ_iast (n := 9) dX10_reckons_13 k_189 ⟨by decide, by decide⟩ (fun μ4 eμ4 => ?_)
  replace h := h μ4 eμ4
  refine WP_aload_n dX10_reckons_14 rfl rfl ⟨Nat.le_of_ble_eq_true rfl, Nat.le_of_ble_eq_true rfl⟩ ?_
  refine WP_getfield (ci := 10) (j := 17) (n := 49) (t := 2) (x := 189) dX10_reckons_15 f_X10_33 k_183 rfl rfl ?_
  refine WP_iconst dX10_reckons_18 (by decide) ?_
  refine WP_aload_n dX10_reckons_19 rfl rfl ⟨Nat.le_of_ble_eq_true rfl, Nat.le_of_ble_eq_true rfl⟩ ?_
  refine WP_iload_n dX10_reckons_20 rfl rfl ?_
  refine WP_iload_n dX10_reckons_21 rfl rfl ?_
  refine WQ_invVi (v := (2, 183)) (as := [(0, a2), (0, a3)]) dX10_reckons_22 l_X10_246 mw_X10_farOf mi_X10_farOf ms_X10_farOf mo_X10_farOf (rcv (ci := 10) (n := 49) (r := (RX10, TX10, 49)) k_183 rfl rfl) (Nat.le_of_ble_eq_true rfl) h rfl (fun r5 μ6 h => ?_)
  refine WQ_iast (n := 9) dX10_reckons_25 k_189 ⟨by decide, by decide⟩ (fun μ8 eμ8 => ?_)
  replace h := h μ8 eμ8
  refine WP_aload_n dX10_reckons_26 rfl rfl ⟨Nat.le_of_ble_eq_true rfl, Nat.le_of_ble_eq_true rfl⟩ ?_
  refine WP_getfield (ci := 10) (j := 17) (n := 49) (t := 2) (x := 189) dX10_reckons_27 f_X10_33 k_183 rfl rfl ?_
  refine WP_iconst dX10_reckons_30 (by decide) ?_
  refine WP_aload_n dX10_reckons_31 rfl rfl ⟨Nat.le_of_ble_eq_true rfl, Nat.le_of_ble_eq_true rfl⟩ ?_
  refine WP_getfield (ci := 10) (j := 1) (n := 49) (t := 2) (x := 184) dX10_reckons_32 f_X10_13 k_183 rfl rfl ?_
  refine WP_bipush dX10_reckons_35 (by decide +kernel) (by decide) ?_
  refine WP_iload_n dX10_reckons_37 rfl rfl ?_
  obtain ⟨g9, h⟩ := h
  refine WP_iadd dX10_reckons_38 g9 ?_
  obtain ⟨g10, h⟩ := h
  refine WP_iaload (n := 4119) dX10_reckons_39 k_184 g10 ?_
  refine WQ_iast (n := 9) dX10_reckons_40 k_189 ⟨by decide, by decide⟩ (fun μ12 eμ12 => ?_)
  replace h := h μ12 eμ12
  refine WP_aload_n dX10_reckons_41 rfl rfl ⟨Nat.le_of_ble_eq_true rfl, Nat.le_of_ble_eq_true rfl⟩ ?_
  refine WP_getfield (ci := 10) (j := 17) (n := 49) (t := 2) (x := 189) dX10_reckons_42 f_X10_33 k_183 rfl rfl ?_
  refine WP_iconst dX10_reckons_45 (by decide) ?_
  refine WP_aload_n dX10_reckons_46 rfl rfl ⟨Nat.le_of_ble_eq_true rfl, Nat.le_of_ble_eq_true rfl⟩ ?_
  refine WP_getfield (ci := 10) (j := 1) (n := 49) (t := 2) (x := 184) dX10_reckons_47 f_X10_13 k_183 rfl rfl ?_
  refine WP_bipush dX10_reckons_50 (by decide +kernel) (by decide) ?_
  refine WP_iload_n dX10_reckons_52 rfl rfl ?_
  obtain ⟨g13, h⟩ := h
  refine WP_iadd dX10_reckons_53 g13 ?_
  obtain ⟨g14, h⟩ := h
  refine WP_iaload (n := 4119) dX10_reckons_54 k_184 g14 ?_
  refine WQ_iast (n := 9) dX10_reckons_55 k_189 ⟨by decide, by decide⟩ (fun μ16 eμ16 => ?_)
  replace h := h μ16 eμ16
  refine WP_aload_n dX10_reckons_56 rfl rfl ⟨Nat.le_of_ble_eq_true rfl, Nat.le_of_ble_eq_true rfl⟩ ?_
  refine WP_getfield (ci := 10) (j := 17) (n := 49) (t := 2) (x := 189) dX10_reckons_57 f_X10_33 k_183 rfl rfl ?_
  refine WP_iconst dX10_reckons_60 (by decide) ?_
  refine WP_aload_n dX10_reckons_61 rfl rfl ⟨Nat.le_of_ble_eq_true rfl, Nat.le_of_ble_eq_true rfl⟩ ?_
  refine WP_getfield (ci := 10) (j := 1) (n := 49) (t := 2) (x := 184) dX10_reckons_62 f_X10_13 k_183 rfl rfl ?_
  refine WP_bipush dX10_reckons_65 (by decide +kernel) (by decide) ?_
  refine WP_iload_n dX10_reckons_67 rfl rfl ?_
  obtain ⟨g17, h⟩ := h
  refine WP_iadd dX10_reckons_68 g17 ?_
  obtain ⟨g18, h⟩ := h
  refine WP_iaload (n := 4119) dX10_reckons_69 k_184 g18 ?_
  refine WQ_iast (n := 9) dX10_reckons_70 k_189 ⟨by decide, by decide⟩ (fun μ20 eμ20 => ?_)
  replace h := h μ20 eμ20
  refine WP_aload_n dX10_reckons_71 rfl rfl ⟨Nat.le_of_ble_eq_true rfl, Nat.le_of_ble_eq_true rfl⟩ ?_
  refine WP_getfield (ci := 10) (j := 17) (n := 49) (t := 2) (x := 189) dX10_reckons_72 f_X10_33 k_183 rfl rfl ?_
  refine WP_bipush dX10_reckons_75 (by decide +kernel) (by decide) ?_
  refine WP_aload_n dX10_reckons_77 rfl rfl ⟨Nat.le_of_ble_eq_true rfl, Nat.le_of_ble_eq_true rfl⟩ ?_
  refine WP_getfield (ci := 10) (j := 1) (n := 49) (t := 2) (x := 184) dX10_reckons_78 f_X10_13 k_183 rfl rfl ?_
  refine WP_bipush dX10_reckons_81 (by decide +kernel) (by decide) ?_
  refine WP_iaload (n := 4119) dX10_reckons_83 k_184 ⟨by decide, by decide⟩ ?_
  refine WQ_iast (n := 9) dX10_reckons_84 k_189 ⟨by decide, by decide⟩ (fun μ23 eμ23 => ?_)
  replace h := h μ23 eμ23
  refine WP_iconst dX10_reckons_85 (by decide) ?_
  refine WP_istore (L' := [(2, 183), (0, a1), (0, a2), (0, a3), (0, 0), (9, 0), (9, 0)]) dX10_reckons_86 (by decide) rfl ?_
  refine WP_iconst dX10_reckons_88 (by decide) ?_
  refine WP_istore (L' := [(2, 183), (0, a1), (0, a2), (0, a3), (0, 0), (0, 0), (9, 0)]) dX10_reckons_89 (by decide) rfl ?_
  refine WP_lforget (L' := [(2, 183), (0, a1), (9, 0), (9, 0), (0, 0), (0, 0), (9, 0)]) rfl (fun i hi => ?_) h
  match i, hi with
  | 0, _ => exact Or.inl rfl
  | 1, _ => exact Or.inl rfl
  | 2, _ => exact Or.inr rfl
  | 3, _ => exact Or.inr rfl
  | 4, _ => exact Or.inl rfl
  | 5, _ => exact Or.inl rfl
  | 6, _ => exact Or.inl rfl
  | i + 7, hi => exact absurd hi (by simp only [List.length_cons, List.length_nil]; omega)

theorem s_X10_reckons_91 {d : Nat} {sc : SC} {Q : Int → Mem → Prop} {μ : Mem} {x1 x4 x5 : Int}
    (h : (-2147483648 ≤ 10 + x1 ∧ 10 + x1 < 2147483648) ∧ (0 ≤ 10 + x1 ∧ 10 + x1 < 4119) ∧ (μ 184 (10 + x1) ≤ x5 → Q (μ 188 0) μ) ∧ (x5 < μ 184 (10 + x1) → (-2147483648 ≤ 7 + x1 ∧ 7 + x1 < 2147483648) ∧ (0 ≤ 7 + x1 ∧ 7 + x1 < 4119) ∧ (-2147483648 ≤ 473 + (μ 184 (7 + x1)) ∧ 473 + (μ 184 (7 + x1)) < 2147483648) ∧ (-2147483648 ≤ (473 + (μ 184 (7 + x1))) + x5 ∧ (473 + (μ 184 (7 + x1))) + x5 < 2147483648) ∧ (0 ≤ (473 + (μ 184 (7 + x1))) + x5 ∧ (473 + (μ 184 (7 + x1))) + x5 < 4119) ∧ (∀ v10 : Int, v10 = μ 184 ((473 + (μ 184 (7 + x1))) + x5) → (3000 ≤ v10 → (v10 ≠ 3006 → (v10 ≠ 3009 → (-2147483648 ≤ x4 + (-1) ∧ x4 + (-1) < 2147483648) ∧ ∀ v15 : Int, v15 = x4 + (-1) → (-2147483648 ≤ v15 - 1 ∧ v15 - 1 < 2147483648) ∧ (-2147483648 ≤ v15 - 1 ∧ v15 - 1 < 2147483648) ∧ (0 ≤ v15 - 1 ∧ v15 - 1 < 900) ∧ (0 ≤ v15 ∧ v15 < 900) ∧ CAi mX10_between1 d sc [(0, v10), (0, μ 188 (v15 - 1)), (0, μ 188 v15)] μ (fun r20 μ21 => (0 ≤ v15 - 1 ∧ v15 - 1 < 900) ∧ (∀ μ23, μ23 = mup μ21 188 (v15 - 1) r20 → WQ mX10_reckons d sc (ZI sc Q) 292 [(2, 183), (0, x1), (9, 0), (9, 0), (0, v15), (0, x5), (9, 0)] [] μ23))) ∧ (v10 = 3009 → (-2147483648 ≤ x4 + (-2) ∧ x4 + (-2) < 2147483648) ∧ ∀ v25 : Int, v25 = x4 + (-2) → (-2147483648 ≤ v25 - 1 ∧ v25 - 1 < 2147483648) ∧ (-2147483648 ≤ v25 - 1 ∧ v25 - 1 < 2147483648) ∧ (0 ≤ v25 - 1 ∧ v25 - 1 < 900) ∧ (μ 188 (v25 - 1) ≠ 1 → (-2147483648 ≤ v25 + 1 ∧ v25 + 1 < 2147483648) ∧ (0 ≤ v25 + 1 ∧ v25 + 1 < 900) ∧ (0 ≤ v25 - 1 ∧ v25 - 1 < 900) ∧ (∀ μ33, μ33 = mup μ 188 (v25 - 1) (μ 188 (v25 + 1)) → WQ mX10_reckons d sc (ZI sc Q) 292 [(2, 183), (0, x1), (9, 0), (9, 0), (0, v25), (0, x5), (9, 0)] [] μ33)) ∧ (μ 188 (v25 - 1) = 1 → (0 ≤ v25 ∧ v25 < 900) ∧ (0 ≤ v25 - 1 ∧ v25 - 1 < 900) ∧ (∀ μ36, μ36 = mup μ 188 (v25 - 1) (μ 188 v25) → WQ mX10_reckons d sc (ZI sc Q) 292 [(2, 183), (0, x1), (9, 0), (9, 0), (0, v25), (0, x5), (9, 0)] [] μ36)))) ∧ (v10 = 3006 → (-2147483648 ≤ x4 - 1 ∧ x4 - 1 < 2147483648) ∧ (-2147483648 ≤ x4 - 1 ∧ x4 - 1 < 2147483648) ∧ (0 ≤ x4 - 1 ∧ x4 - 1 < 900) ∧ (-2147483648 ≤ 1 - (μ 188 (x4 - 1)) ∧ 1 - (μ 188 (x4 - 1)) < 2147483648) ∧ (0 ≤ x4 - 1 ∧ x4 - 1 < 900) ∧ (∀ μ42, μ42 = mup μ 188 (x4 - 1) (1 - (μ 188 (x4 - 1))) → WQ mX10_reckons d sc (ZI sc Q) 292 [(2, 183), (0, x1), (9, 0), (9, 0), (0, x4), (0, x5), (9, 0)] [] μ42))) ∧ (v10 < 3000 → (1000 ≤ v10 → (-2147483648 ≤ v10 - 1000 ∧ v10 - 1000 < 2147483648) ∧ (0 ≤ v10 - 1000 ∧ v10 - 1000 < 9) ∧ (0 ≤ x4 ∧ x4 < 900) ∧ (∀ μ47, μ47 = mup μ 188 x4 (μ 189 (v10 - 1000)) → (-2147483648 ≤ x4 + 1 ∧ x4 + 1 < 2147483648) ∧ ∀ v49 : Int, v49 = x4 + 1 → WQ mX10_reckons d sc (ZI sc Q) 292 [(2, 183), (0, x1), (9, 0), (9, 0), (0, v49), (0, x5), (9, 0)] [] μ47)) ∧ (v10 < 1000 → (0 ≤ x4 ∧ x4 < 900) ∧ (∀ μ51, μ51 = mup μ 188 x4 v10 → (-2147483648 ≤ x4 + 1 ∧ x4 + 1 < 2147483648) ∧ ∀ v53 : Int, v53 = x4 + 1 → WQ mX10_reckons d sc (ZI sc Q) 292 [(2, 183), (0, x1), (9, 0), (9, 0), (0, v53), (0, x5), (9, 0)] [] μ51)))))) :
    WQ mX10_reckons d sc (ZI sc Q) 91 [(2, 183), (0, x1), (9, 0), (9, 0), (0, x4), (0, x5), (9, 0)] [] μ := by
  refine WP_iload dX10_reckons_91 rfl ?_
  refine WP_aload_n dX10_reckons_93 rfl rfl ⟨Nat.le_of_ble_eq_true rfl, Nat.le_of_ble_eq_true rfl⟩ ?_
  refine WP_getfield (ci := 10) (j := 1) (n := 49) (t := 2) (x := 184) dX10_reckons_94 f_X10_13 k_183 rfl rfl ?_
  refine WP_bipush dX10_reckons_97 (by decide +kernel) (by decide) ?_
  refine WP_iload_n dX10_reckons_99 rfl rfl ?_
  obtain ⟨g1, h⟩ := h
  refine WP_iadd dX10_reckons_100 g1 ?_
  obtain ⟨g2, h⟩ := h
  refine WP_iaload (n := 4119) dX10_reckons_101 k_184 g2 ?_
  refine WQ_icmp_ge (tgt := 298) dX10_reckons_102 (by decide) (fun c3 => ?_) (fun c3 => ?_)
  · replace h := h.1 c3
    refine WP_aload_n dX10_reckons_298 rfl rfl ⟨Nat.le_of_ble_eq_true rfl, Nat.le_of_ble_eq_true rfl⟩ ?_
    refine WP_getfield (ci := 10) (j := 16) (n := 49) (t := 2) (x := 188) dX10_reckons_299 f_X10_30 k_183 rfl rfl ?_
    refine WP_iconst dX10_reckons_302 (by decide) ?_
    refine WP_iaload (n := 900) dX10_reckons_303 k_188 ⟨by decide, by decide⟩ ?_
    exact WQ_ireturn dX10_reckons_304 rfl h
  · replace h := h.2 c3
    refine WP_aload_n dX10_reckons_105 rfl rfl ⟨Nat.le_of_ble_eq_true rfl, Nat.le_of_ble_eq_true rfl⟩ ?_
    refine WP_getfield (ci := 10) (j := 1) (n := 49) (t := 2) (x := 184) dX10_reckons_106 f_X10_13 k_183 rfl rfl ?_
    refine WP_sipush dX10_reckons_109 (by decide +kernel) (by decide) ?_
    refine WP_aload_n dX10_reckons_112 rfl rfl ⟨Nat.le_of_ble_eq_true rfl, Nat.le_of_ble_eq_true rfl⟩ ?_
    refine WP_getfield (ci := 10) (j := 1) (n := 49) (t := 2) (x := 184) dX10_reckons_113 f_X10_13 k_183 rfl rfl ?_
    refine WP_bipush dX10_reckons_116 (by decide +kernel) (by decide) ?_
    refine WP_iload_n dX10_reckons_118 rfl rfl ?_
    obtain ⟨g5, h⟩ := h
    refine WP_iadd dX10_reckons_119 g5 ?_
    obtain ⟨g6, h⟩ := h
    refine WP_iaload (n := 4119) dX10_reckons_120 k_184 g6 ?_
    obtain ⟨g7, h⟩ := h
    refine WP_iadd dX10_reckons_121 g7 ?_
    refine WP_iload dX10_reckons_122 rfl ?_
    obtain ⟨g8, h⟩ := h
    refine WP_iadd dX10_reckons_124 g8 ?_
    obtain ⟨g9, h⟩ := h
    refine WP_iaload (n := 4119) dX10_reckons_125 k_184 g9 ?_
    refine WQ_nm0 (fun v10 e10 => ?_)
    replace h := h v10 e10
    refine WP_istore (L' := [(2, 183), (0, x1), (9, 0), (9, 0), (0, x4), (0, x5), (0, v10)]) dX10_reckons_126 (by decide) rfl ?_
    refine WP_iload dX10_reckons_128 rfl ?_
    refine WP_sipush dX10_reckons_130 (by decide +kernel) (by decide) ?_
    refine WQ_icmp_ge (tgt := 173) dX10_reckons_133 (by decide) (fun c11 => ?_) (fun c11 => ?_)
    · replace h := h.1 c11
      refine WP_iload dX10_reckons_173 rfl ?_
      refine WP_sipush dX10_reckons_175 (by decide +kernel) (by decide) ?_
      refine WQ_icmp_ne (tgt := 204) dX10_reckons_178 (by decide) (fun c12 => ?_) (fun c12 => ?_)
      · replace h := h.1 c12
        refine WP_iload dX10_reckons_204 rfl ?_
        refine WP_sipush dX10_reckons_206 (by decide +kernel) (by decide) ?_
        refine WQ_icmp_ne (tgt := 259) dX10_reckons_209 (by decide) (fun c13 => ?_) (fun c13 => ?_)
        · replace h := h.1 c13
          obtain ⟨g14, h⟩ := h
          refine WQ_iinc dX10_reckons_259 rfl (by decide) g14 (fun v15 e15 => ?_)
          refine WP_same (L' := [(2, 183), (0, x1), (9, 0), (9, 0), (0, v15), (0, x5), (0, v10)]) rfl ?_
          replace h := h v15 e15
          refine WP_aload_n dX10_reckons_262 rfl rfl ⟨Nat.le_of_ble_eq_true rfl, Nat.le_of_ble_eq_true rfl⟩ ?_
          refine WP_getfield (ci := 10) (j := 16) (n := 49) (t := 2) (x := 188) dX10_reckons_263 f_X10_30 k_183 rfl rfl ?_
          refine WP_iload dX10_reckons_266 rfl ?_
          refine WP_iconst dX10_reckons_268 (by decide) ?_
          obtain ⟨g16, h⟩ := h
          refine WP_isub dX10_reckons_269 g16 ?_
          refine WP_iload dX10_reckons_270 rfl ?_
          refine WP_aload_n dX10_reckons_272 rfl rfl ⟨Nat.le_of_ble_eq_true rfl, Nat.le_of_ble_eq_true rfl⟩ ?_
          refine WP_getfield (ci := 10) (j := 16) (n := 49) (t := 2) (x := 188) dX10_reckons_273 f_X10_30 k_183 rfl rfl ?_
          refine WP_iload dX10_reckons_276 rfl ?_
          refine WP_iconst dX10_reckons_278 (by decide) ?_
          obtain ⟨g17, h⟩ := h
          refine WP_isub dX10_reckons_279 g17 ?_
          obtain ⟨g18, h⟩ := h
          refine WP_iaload (n := 900) dX10_reckons_280 k_188 g18 ?_
          refine WP_aload_n dX10_reckons_281 rfl rfl ⟨Nat.le_of_ble_eq_true rfl, Nat.le_of_ble_eq_true rfl⟩ ?_
          refine WP_getfield (ci := 10) (j := 16) (n := 49) (t := 2) (x := 188) dX10_reckons_282 f_X10_30 k_183 rfl rfl ?_
          refine WP_iload dX10_reckons_285 rfl ?_
          obtain ⟨g19, h⟩ := h
          refine WP_iaload (n := 900) dX10_reckons_287 k_188 g19 ?_
          refine WQ_invSi (as := [(0, v10), (0, μ 188 (v15 - 1)), (0, μ 188 v15)]) dX10_reckons_288 l_X10_249 mw_X10_between1 mt_X10_between1 mo_X10_between1 (Nat.le_of_ble_eq_true rfl) h rfl (fun r20 μ21 h => ?_)
          obtain ⟨g22, h⟩ := h
          refine WQ_iast (n := 900) dX10_reckons_291 k_188 g22 (fun μ23 eμ23 => ?_)
          replace h := h μ23 eμ23
          refine WP_lforget (L' := [(2, 183), (0, x1), (9, 0), (9, 0), (0, v15), (0, x5), (9, 0)]) rfl (fun i hi => ?_) h
          match i, hi with
          | 0, _ => exact Or.inl rfl
          | 1, _ => exact Or.inl rfl
          | 2, _ => exact Or.inl rfl
          | 3, _ => exact Or.inl rfl
          | 4, _ => exact Or.inl rfl
          | 5, _ => exact Or.inl rfl
          | 6, _ => exact Or.inr rfl
          | i + 7, hi => exact absurd hi (by simp only [List.length_cons, List.length_nil]; omega)
        · replace h := h.2 c13
          obtain ⟨g24, h⟩ := h
          refine WQ_iinc dX10_reckons_212 rfl (by decide) g24 (fun v25 e25 => ?_)
          refine WP_same (L' := [(2, 183), (0, x1), (9, 0), (9, 0), (0, v25), (0, x5), (0, v10)]) rfl ?_
          replace h := h v25 e25
          refine WP_aload_n dX10_reckons_215 rfl rfl ⟨Nat.le_of_ble_eq_true rfl, Nat.le_of_ble_eq_true rfl⟩ ?_
          refine WP_getfield (ci := 10) (j := 16) (n := 49) (t := 2) (x := 188) dX10_reckons_216 f_X10_30 k_183 rfl rfl ?_
          refine WP_iload dX10_reckons_219 rfl ?_
          refine WP_iconst dX10_reckons_221 (by decide) ?_
          obtain ⟨g26, h⟩ := h
          refine WP_isub dX10_reckons_222 g26 ?_
          refine WP_aload_n dX10_reckons_223 rfl rfl ⟨Nat.le_of_ble_eq_true rfl, Nat.le_of_ble_eq_true rfl⟩ ?_
          refine WP_getfield (ci := 10) (j := 16) (n := 49) (t := 2) (x := 188) dX10_reckons_224 f_X10_30 k_183 rfl rfl ?_
          refine WP_iload dX10_reckons_227 rfl ?_
          refine WP_iconst dX10_reckons_229 (by decide) ?_
          obtain ⟨g27, h⟩ := h
          refine WP_isub dX10_reckons_230 g27 ?_
          obtain ⟨g28, h⟩ := h
          refine WP_iaload (n := 900) dX10_reckons_231 k_188 g28 ?_
          refine WP_iconst dX10_reckons_232 (by decide) ?_
          refine WQ_icmp_ne (tgt := 246) dX10_reckons_233 (by decide) (fun c29 => ?_) (fun c29 => ?_)
          · replace h := h.1 c29
            refine WP_aload_n dX10_reckons_246 rfl rfl ⟨Nat.le_of_ble_eq_true rfl, Nat.le_of_ble_eq_true rfl⟩ ?_
            refine WP_getfield (ci := 10) (j := 16) (n := 49) (t := 2) (x := 188) dX10_reckons_247 f_X10_30 k_183 rfl rfl ?_
            refine WP_iload dX10_reckons_250 rfl ?_
            refine WP_iconst dX10_reckons_252 (by decide) ?_
            obtain ⟨g30, h⟩ := h
            refine WP_iadd dX10_reckons_253 g30 ?_
            obtain ⟨g31, h⟩ := h
            refine WP_iaload (n := 900) dX10_reckons_254 k_188 g31 ?_
            obtain ⟨g32, h⟩ := h
            refine WQ_iast (n := 900) dX10_reckons_255 k_188 g32 (fun μ33 eμ33 => ?_)
            replace h := h μ33 eμ33
            refine WP_goto (tgt := 292) dX10_reckons_256 (by decide) ?_
            refine WP_lforget (L' := [(2, 183), (0, x1), (9, 0), (9, 0), (0, v25), (0, x5), (9, 0)]) rfl (fun i hi => ?_) h
            match i, hi with
            | 0, _ => exact Or.inl rfl
            | 1, _ => exact Or.inl rfl
            | 2, _ => exact Or.inl rfl
            | 3, _ => exact Or.inl rfl
            | 4, _ => exact Or.inl rfl
            | 5, _ => exact Or.inl rfl
            | 6, _ => exact Or.inr rfl
            | i + 7, hi => exact absurd hi (by simp only [List.length_cons, List.length_nil]; omega)
          · replace h := h.2 c29
            refine WP_aload_n dX10_reckons_236 rfl rfl ⟨Nat.le_of_ble_eq_true rfl, Nat.le_of_ble_eq_true rfl⟩ ?_
            refine WP_getfield (ci := 10) (j := 16) (n := 49) (t := 2) (x := 188) dX10_reckons_237 f_X10_30 k_183 rfl rfl ?_
            refine WP_iload dX10_reckons_240 rfl ?_
            obtain ⟨g34, h⟩ := h
            refine WP_iaload (n := 900) dX10_reckons_242 k_188 g34 ?_
            refine WP_goto (tgt := 255) dX10_reckons_243 (by decide) ?_
            obtain ⟨g35, h⟩ := h
            refine WQ_iast (n := 900) dX10_reckons_255 k_188 g35 (fun μ36 eμ36 => ?_)
            replace h := h μ36 eμ36
            refine WP_goto (tgt := 292) dX10_reckons_256 (by decide) ?_
            refine WP_lforget (L' := [(2, 183), (0, x1), (9, 0), (9, 0), (0, v25), (0, x5), (9, 0)]) rfl (fun i hi => ?_) h
            match i, hi with
            | 0, _ => exact Or.inl rfl
            | 1, _ => exact Or.inl rfl
            | 2, _ => exact Or.inl rfl
            | 3, _ => exact Or.inl rfl
            | 4, _ => exact Or.inl rfl
            | 5, _ => exact Or.inl rfl
            | 6, _ => exact Or.inr rfl
            | i + 7, hi => exact absurd hi (by simp only [List.length_cons, List.length_nil]; omega)
      · replace h := h.2 c12
        refine WP_aload_n dX10_reckons_181 rfl rfl ⟨Nat.le_of_ble_eq_true rfl, Nat.le_of_ble_eq_true rfl⟩ ?_
        refine WP_getfield (ci := 10) (j := 16) (n := 49) (t := 2) (x := 188) dX10_reckons_182 f_X10_30 k_183 rfl rfl ?_
        refine WP_iload dX10_reckons_185 rfl ?_
        refine WP_iconst dX10_reckons_187 (by decide) ?_
        obtain ⟨g37, h⟩ := h
        refine WP_isub dX10_reckons_188 g37 ?_
        refine WP_iconst dX10_reckons_189 (by decide) ?_
        refine WP_aload_n dX10_reckons_190 rfl rfl ⟨Nat.le_of_ble_eq_true rfl, Nat.le_of_ble_eq_true rfl⟩ ?_
        refine WP_getfield (ci := 10) (j := 16) (n := 49) (t := 2) (x := 188) dX10_reckons_191 f_X10_30 k_183 rfl rfl ?_
        refine WP_iload dX10_reckons_194 rfl ?_
        refine WP_iconst dX10_reckons_196 (by decide) ?_
        obtain ⟨g38, h⟩ := h
        refine WP_isub dX10_reckons_197 g38 ?_
        obtain ⟨g39, h⟩ := h
        refine WP_iaload (n := 900) dX10_reckons_198 k_188 g39 ?_
        obtain ⟨g40, h⟩ := h
        refine WP_isub dX10_reckons_199 g40 ?_
        obtain ⟨g41, h⟩ := h
        refine WQ_iast (n := 900) dX10_reckons_200 k_188 g41 (fun μ42 eμ42 => ?_)
        replace h := h μ42 eμ42
        refine WP_goto (tgt := 292) dX10_reckons_201 (by decide) ?_
        refine WP_lforget (L' := [(2, 183), (0, x1), (9, 0), (9, 0), (0, x4), (0, x5), (9, 0)]) rfl (fun i hi => ?_) h
        match i, hi with
        | 0, _ => exact Or.inl rfl
        | 1, _ => exact Or.inl rfl
        | 2, _ => exact Or.inl rfl
        | 3, _ => exact Or.inl rfl
        | 4, _ => exact Or.inl rfl
        | 5, _ => exact Or.inl rfl
        | 6, _ => exact Or.inr rfl
        | i + 7, hi => exact absurd hi (by simp only [List.length_cons, List.length_nil]; omega)
    · replace h := h.2 c11
      refine WP_aload_n dX10_reckons_136 rfl rfl ⟨Nat.le_of_ble_eq_true rfl, Nat.le_of_ble_eq_true rfl⟩ ?_
      refine WP_getfield (ci := 10) (j := 16) (n := 49) (t := 2) (x := 188) dX10_reckons_137 f_X10_30 k_183 rfl rfl ?_
      refine WP_iload dX10_reckons_140 rfl ?_
      refine WP_iload dX10_reckons_142 rfl ?_
      refine WP_sipush dX10_reckons_144 (by decide +kernel) (by decide) ?_
      refine WQ_icmp_ge (tgt := 155) dX10_reckons_147 (by decide) (fun c43 => ?_) (fun c43 => ?_)
      · replace h := h.1 c43
        refine WP_aload_n dX10_reckons_155 rfl rfl ⟨Nat.le_of_ble_eq_true rfl, Nat.le_of_ble_eq_true rfl⟩ ?_
        refine WP_getfield (ci := 10) (j := 17) (n := 49) (t := 2) (x := 189) dX10_reckons_156 f_X10_33 k_183 rfl rfl ?_
        refine WP_iload dX10_reckons_159 rfl ?_
        refine WP_sipush dX10_reckons_161 (by decide +kernel) (by decide) ?_
        obtain ⟨g44, h⟩ := h
        refine WP_isub dX10_reckons_164 g44 ?_
        obtain ⟨g45, h⟩ := h
        refine WP_iaload (n := 9) dX10_reckons_165 k_189 g45 ?_
        obtain ⟨g46, h⟩ := h
        refine WQ_iast (n := 900) dX10_reckons_166 k_188 g46 (fun μ47 eμ47 => ?_)
        replace h := h μ47 eμ47
        obtain ⟨g48, h⟩ := h
        refine WQ_iinc dX10_reckons_167 rfl (by decide) g48 (fun v49 e49 => ?_)
        refine WP_same (L' := [(2, 183), (0, x1), (9, 0), (9, 0), (0, v49), (0, x5), (0, v10)]) rfl ?_
        replace h := h v49 e49
        refine WP_goto (tgt := 292) dX10_reckons_170 (by decide) ?_
        refine WP_lforget (L' := [(2, 183), (0, x1), (9, 0), (9, 0), (0, v49), (0, x5), (9, 0)]) rfl (fun i hi => ?_) h
        match i, hi with
        | 0, _ => exact Or.inl rfl
        | 1, _ => exact Or.inl rfl
        | 2, _ => exact Or.inl rfl
        | 3, _ => exact Or.inl rfl
        | 4, _ => exact Or.inl rfl
        | 5, _ => exact Or.inl rfl
        | 6, _ => exact Or.inr rfl
        | i + 7, hi => exact absurd hi (by simp only [List.length_cons, List.length_nil]; omega)
      · replace h := h.2 c43
        refine WP_iload dX10_reckons_150 rfl ?_
        refine WP_goto (tgt := 166) dX10_reckons_152 (by decide) ?_
        obtain ⟨g50, h⟩ := h
        refine WQ_iast (n := 900) dX10_reckons_166 k_188 g50 (fun μ51 eμ51 => ?_)
        replace h := h μ51 eμ51
        obtain ⟨g52, h⟩ := h
        refine WQ_iinc dX10_reckons_167 rfl (by decide) g52 (fun v53 e53 => ?_)
        refine WP_same (L' := [(2, 183), (0, x1), (9, 0), (9, 0), (0, v53), (0, x5), (0, v10)]) rfl ?_
        replace h := h v53 e53
        refine WP_goto (tgt := 292) dX10_reckons_170 (by decide) ?_
        refine WP_lforget (L' := [(2, 183), (0, x1), (9, 0), (9, 0), (0, v53), (0, x5), (9, 0)]) rfl (fun i hi => ?_) h
        match i, hi with
        | 0, _ => exact Or.inl rfl
        | 1, _ => exact Or.inl rfl
        | 2, _ => exact Or.inl rfl
        | 3, _ => exact Or.inl rfl
        | 4, _ => exact Or.inl rfl
        | 5, _ => exact Or.inl rfl
        | 6, _ => exact Or.inr rfl
        | i + 7, hi => exact absurd hi (by simp only [List.length_cons, List.length_nil]; omega)

theorem s_X10_reckons_292 {d : Nat} {sc : SC} {Q : Int → Mem → Prop} {μ : Mem} {x1 x4 x5 : Int}
    (h : (-2147483648 ≤ x5 + 1 ∧ x5 + 1 < 2147483648) ∧ ∀ v2 : Int, v2 = x5 + 1 → WQ mX10_reckons d sc (ZI sc Q) 91 [(2, 183), (0, x1), (9, 0), (9, 0), (0, x4), (0, v2), (9, 0)] [] μ) :
    WQ mX10_reckons d sc (ZI sc Q) 292 [(2, 183), (0, x1), (9, 0), (9, 0), (0, x4), (0, x5), (9, 0)] [] μ := by
  obtain ⟨g1, h⟩ := h
  refine WQ_iinc dX10_reckons_292 rfl (by decide) g1 (fun v2 e2 => ?_)
  refine WP_same (L' := [(2, 183), (0, x1), (9, 0), (9, 0), (0, x4), (0, v2), (9, 0)]) rfl ?_
  replace h := h v2 e2
  refine WP_goto (tgt := 91) dX10_reckons_295 (by decide) ?_
  exact h

theorem s_X10_restore_0 {d : Nat} {sc : SC} {Q : Int → Mem → Prop} {μ : Mem} {a1 : Int}
    (h : ∀ μ1, μ1 = mup μ 183 0 0 → CAi mX10_within d sc [(1, a1), (1, 0), (1, 1)] μ1 (fun r2 μ3 => (r2 ≠ 0 → (0 ≤ a1 ∧ a1 < 2) ∧ (μ3 185 a1 ≠ 0 → WQ mX10_restore d sc (ZI sc Q) 32 [(2, 183), (0, a1), (0, 0)] [] μ3) ∧ (μ3 185 a1 = 0 → Q (-5) μ3)) ∧ (r2 = 0 → Q (-2) μ3))) :
    WQ mX10_restore d sc (ZI sc Q) 0 [(2, 183), (0, a1), (9, 0)] [] μ := by
  refine WP_aload_n dX10_restore_0 rfl rfl ⟨Nat.le_of_ble_eq_true rfl, Nat.le_of_ble_eq_true rfl⟩ ?_
  refine WP_iconst dX10_restore_1 (by decide) ?_
  refine WQ_put (ci := 10) (j := 0) (n := 49) dX10_restore_2 f_X10_1 k_183 rfl (fun μ1 eμ1 => ?_)
  replace h := h μ1 eμ1
  refine WP_iload_n dX10_restore_5 rfl rfl ?_
  refine WP_i2l dX10_restore_6 ?_
  refine WP_lconst dX10_restore_7 rfl ?_
  refine WP_lconst dX10_restore_8 rfl ?_
  refine WQ_invSi (as := [(1, a1), (1, 0), (1, 1)]) dX10_restore_9 l_X10_170 mw_X10_within mt_X10_within mo_X10_within (Nat.le_of_ble_eq_true rfl) h rfl (fun r2 μ3 h => ?_)
  refine WQ_ifne (tgt := 18) dX10_restore_12 (by decide) (fun c4 => ?_) (fun c4 => ?_)
  · replace h := h.1 c4
    refine WP_aload_n dX10_restore_18 rfl rfl ⟨Nat.le_of_ble_eq_true rfl, Nat.le_of_ble_eq_true rfl⟩ ?_
    refine WP_getfield (ci := 10) (j := 2) (n := 49) (t := 2) (x := 185) dX10_restore_19 f_X10_17 k_183 rfl rfl ?_
    refine WP_iload_n dX10_restore_22 rfl rfl ?_
    obtain ⟨g5, h⟩ := h
    refine WP_zaload (n := 2) dX10_restore_23 k_185 g5 ?_
    refine WQ_ifne (tgt := 30) dX10_restore_24 (by decide) (fun c6 => ?_) (fun c6 => ?_)
    · replace h := h.1 c6
      refine WP_iconst dX10_restore_30 (by decide) ?_
      refine WP_istore_n (L' := [(2, 183), (0, a1), (0, 0)]) dX10_restore_31 rfl (by decide) rfl ?_
      exact h
    · replace h := h.2 c6
      refine WP_bipush dX10_restore_27 (by decide +kernel) (by decide) ?_
      exact WQ_ireturn dX10_restore_29 rfl h
  · replace h := h.2 c4
    refine WP_bipush dX10_restore_15 (by decide +kernel) (by decide) ?_
    exact WQ_ireturn dX10_restore_17 rfl h

theorem s_X10_restore_32 {d : Nat} {sc : SC} {Q : Int → Mem → Prop} {μ : Mem} {x1 x2 : Int}
    (h : (1373 ≤ x2 → ∀ μ3, μ3 = mup μ 184 71 0 → Q 0 μ3) ∧ (x2 < 1373 → (-2147483648 ≤ x1 + 1 ∧ x1 + 1 < 2147483648) ∧ (-2147483648 ≤ 1373 * (x1 + 1) ∧ 1373 * (x1 + 1) < 2147483648) ∧ (-2147483648 ≤ (1373 * (x1 + 1)) + x2 ∧ (1373 * (x1 + 1)) + x2 < 2147483648) ∧ (0 ≤ (1373 * (x1 + 1)) + x2 ∧ (1373 * (x1 + 1)) + x2 < 4119) ∧ (0 ≤ x2 ∧ x2 < 4119) ∧ (∀ μ9, μ9 = mup μ 184 x2 (μ 184 ((1373 * (x1 + 1)) + x2)) → (-2147483648 ≤ x2 + 1 ∧ x2 + 1 < 2147483648) ∧ ∀ v11 : Int, v11 = x2 + 1 → WQ mX10_restore d sc (ZI sc Q) 32 [(2, 183), (0, x1), (0, v11)] [] μ9))) :
    WQ mX10_restore d sc (ZI sc Q) 32 [(2, 183), (0, x1), (0, x2)] [] μ := by
  refine WP_iload_n dX10_restore_32 rfl rfl ?_
  refine WP_sipush dX10_restore_33 (by decide +kernel) (by decide) ?_
  refine WQ_icmp_ge (tgt := 65) dX10_restore_36 (by decide) (fun c1 => ?_) (fun c1 => ?_)
  · replace h := h.1 c1
    refine WP_aload_n dX10_restore_65 rfl rfl ⟨Nat.le_of_ble_eq_true rfl, Nat.le_of_ble_eq_true rfl⟩ ?_
    refine WP_getfield (ci := 10) (j := 1) (n := 49) (t := 2) (x := 184) dX10_restore_66 f_X10_13 k_183 rfl rfl ?_
    refine WP_bipush dX10_restore_69 (by decide +kernel) (by decide) ?_
    refine WP_iconst dX10_restore_71 (by decide) ?_
    refine WQ_iast (n := 4119) dX10_restore_72 k_184 ⟨by decide, by decide⟩ (fun μ3 eμ3 => ?_)
    replace h := h μ3 eμ3
    refine WP_iconst dX10_restore_73 (by decide) ?_
    exact WQ_ireturn dX10_restore_74 rfl h
  · replace h := h.2 c1
    refine WP_aload_n dX10_restore_39 rfl rfl ⟨Nat.le_of_ble_eq_true rfl, Nat.le_of_ble_eq_true rfl⟩ ?_
    refine WP_getfield (ci := 10) (j := 1) (n := 49) (t := 2) (x := 184) dX10_restore_40 f_X10_13 k_183 rfl rfl ?_
    refine WP_iload_n dX10_restore_43 rfl rfl ?_
    refine WP_aload_n dX10_restore_44 rfl rfl ⟨Nat.le_of_ble_eq_true rfl, Nat.le_of_ble_eq_true rfl⟩ ?_
    refine WP_getfield (ci := 10) (j := 1) (n := 49) (t := 2) (x := 184) dX10_restore_45 f_X10_13 k_183 rfl rfl ?_
    refine WP_sipush dX10_restore_48 (by decide +kernel) (by decide) ?_
    refine WP_iload_n dX10_restore_51 rfl rfl ?_
    refine WP_iconst dX10_restore_52 (by decide) ?_
    obtain ⟨g4, h⟩ := h
    refine WP_iadd dX10_restore_53 g4 ?_
    obtain ⟨g5, h⟩ := h
    refine WP_imul dX10_restore_54 g5 ?_
    refine WP_iload_n dX10_restore_55 rfl rfl ?_
    obtain ⟨g6, h⟩ := h
    refine WP_iadd dX10_restore_56 g6 ?_
    obtain ⟨g7, h⟩ := h
    refine WP_iaload (n := 4119) dX10_restore_57 k_184 g7 ?_
    obtain ⟨g8, h⟩ := h
    refine WQ_iast (n := 4119) dX10_restore_58 k_184 g8 (fun μ9 eμ9 => ?_)
    replace h := h μ9 eμ9
    obtain ⟨g10, h⟩ := h
    refine WQ_iinc dX10_restore_59 rfl (by decide) g10 (fun v11 e11 => ?_)
    refine WP_same (L' := [(2, 183), (0, x1), (0, v11)]) rfl ?_
    replace h := h v11 e11
    refine WP_goto (tgt := 32) dX10_restore_62 (by decide) ?_
    exact h

theorem s_X10_says_0 {d : Nat} {sc : SC} {Q : Mem → Prop} {μ : Mem} {a1 a2 a3 : Int}
    (h : (-2147483648 ≤ 6 * a1 ∧ 6 * a1 < 2147483648) ∧ (-2147483648 ≤ (6 * a1) + a2 ∧ (6 * a1) + a2 < 2147483648) ∧ (0 ≤ (6 * a1) + a2 ∧ (6 * a1) + a2 < 36) ∧ (-2147483648 ≤ a3 + (μ 194 ((6 * a1) + a2)) ∧ a3 + (μ 194 ((6 * a1) + a2)) < 2147483648) ∧ (∀ v5 : Int, v5 = a3 + (μ 194 ((6 * a1) + a2)) → (v5 < 100 → (0 ≤ μ 183 35 ∧ μ 183 35 < 640) ∧ (∀ μ8, μ8 = mup μ 197 (μ 183 35) a1 → (0 ≤ μ8 183 35 ∧ μ8 183 35 < 640) ∧ (∀ μ10, μ10 = mup μ8 198 (μ8 183 35) a2 → (0 ≤ μ10 183 35 ∧ μ10 183 35 < 640) ∧ (∀ μ12, μ12 = mup μ10 199 (μ10 183 35) (-1) → (0 ≤ v5 ∧ v5 < 100) ∧ (μ12 195 v5 ≠ (-1) → (0 ≤ v5 ∧ v5 < 100) ∧ (0 ≤ μ12 196 v5 ∧ μ12 196 v5 < 640) ∧ (∀ μ17, μ17 = mup μ12 199 (μ12 196 v5) (μ12 183 35) → (0 ≤ v5 ∧ v5 < 100) ∧ (∀ μ19, μ19 = mup μ17 196 v5 (μ17 183 35) → (-2147483648 ≤ (μ19 183 35) + 1 ∧ (μ19 183 35) + 1 < 2147483648) ∧ (∀ μ21, μ21 = mup μ19 183 35 ((μ19 183 35) + 1) → Q μ21)))) ∧ (μ12 195 v5 = (-1) → (0 ≤ v5 ∧ v5 < 100) ∧ (∀ μ23, μ23 = mup μ12 195 v5 (μ12 183 35) → (0 ≤ v5 ∧ v5 < 100) ∧ (∀ μ25, μ25 = mup μ23 196 v5 (μ23 183 35) → (-2147483648 ≤ (μ25 183 35) + 1 ∧ (μ25 183 35) + 1 < 2147483648) ∧ (∀ μ27, μ27 = mup μ25 183 35 ((μ25 183 35) + 1) → Q μ27)))))))) ∧ (100 ≤ v5 → Q μ))) :
    WQ mX10_says d sc (ZV sc Q) 0 [(2, 183), (0, a1), (0, a2), (0, a3), (9, 0)] [] μ := by
  refine WP_iload_n dX10_says_0 rfl rfl ?_
  refine WP_aload_n dX10_says_1 rfl rfl ⟨Nat.le_of_ble_eq_true rfl, Nat.le_of_ble_eq_true rfl⟩ ?_
  refine WP_getfield (ci := 10) (j := 23) (n := 49) (t := 2) (x := 194) dX10_says_2 f_X10_49 k_183 rfl rfl ?_
  refine WP_bipush dX10_says_5 (by decide +kernel) (by decide) ?_
  refine WP_iload_n dX10_says_7 rfl rfl ?_
  obtain ⟨g1, h⟩ := h
  refine WP_imul dX10_says_8 g1 ?_
  refine WP_iload_n dX10_says_9 rfl rfl ?_
  obtain ⟨g2, h⟩ := h
  refine WP_iadd dX10_says_10 g2 ?_
  obtain ⟨g3, h⟩ := h
  refine WP_iaload (n := 36) dX10_says_11 k_194 g3 ?_
  obtain ⟨g4, h⟩ := h
  refine WP_iadd dX10_says_12 g4 ?_
  refine WQ_nm0 (fun v5 e5 => ?_)
  replace h := h v5 e5
  refine WP_istore (L' := [(2, 183), (0, a1), (0, a2), (0, a3), (0, v5)]) dX10_says_13 (by decide) rfl ?_
  refine WP_iload dX10_says_15 rfl ?_
  refine WP_bipush dX10_says_17 (by decide +kernel) (by decide) ?_
  refine WQ_icmp_lt (tgt := 23) dX10_says_19 (by decide) (fun c6 => ?_) (fun c6 => ?_)
  · replace h := h.1 c6
    refine WP_aload_n dX10_says_23 rfl rfl ⟨Nat.le_of_ble_eq_true rfl, Nat.le_of_ble_eq_true rfl⟩ ?_
    refine WP_getfield (ci := 10) (j := 26) (n := 49) (t := 2) (x := 197) dX10_says_24 f_X10_58 k_183 rfl rfl ?_
    refine WP_aload_n dX10_says_27 rfl rfl ⟨Nat.le_of_ble_eq_true rfl, Nat.le_of_ble_eq_true rfl⟩ ?_
    refine WP_getfield (ci := 10) (j := 35) (n := 49) (t := 0) (x := μ 183 35) dX10_says_28 f_X10_284 k_183 rfl rfl ?_
    refine WP_iload_n dX10_says_31 rfl rfl ?_
    obtain ⟨g7, h⟩ := h
    refine WQ_iast (n := 640) dX10_says_32 k_197 g7 (fun μ8 eμ8 => ?_)
    replace h := h μ8 eμ8
    refine WP_aload_n dX10_says_33 rfl rfl ⟨Nat.le_of_ble_eq_true rfl, Nat.le_of_ble_eq_true rfl⟩ ?_
    refine WP_getfield (ci := 10) (j := 27) (n := 49) (t := 2) (x := 198) dX10_says_34 f_X10_61 k_183 rfl rfl ?_
    refine WP_aload_n dX10_says_37 rfl rfl ⟨Nat.le_of_ble_eq_true rfl, Nat.le_of_ble_eq_true rfl⟩ ?_
    refine WP_getfield (ci := 10) (j := 35) (n := 49) (t := 0) (x := μ8 183 35) dX10_says_38 f_X10_284 k_183 rfl rfl ?_
    refine WP_iload_n dX10_says_41 rfl rfl ?_
    obtain ⟨g9, h⟩ := h
    refine WQ_iast (n := 640) dX10_says_42 k_198 g9 (fun μ10 eμ10 => ?_)
    replace h := h μ10 eμ10
    refine WP_aload_n dX10_says_43 rfl rfl ⟨Nat.le_of_ble_eq_true rfl, Nat.le_of_ble_eq_true rfl⟩ ?_
    refine WP_getfield (ci := 10) (j := 28) (n := 49) (t := 2) (x := 199) dX10_says_44 f_X10_64 k_183 rfl rfl ?_
    refine WP_aload_n dX10_says_47 rfl rfl ⟨Nat.le_of_ble_eq_true rfl, Nat.le_of_ble_eq_true rfl⟩ ?_
    refine WP_getfield (ci := 10) (j := 35) (n := 49) (t := 0) (x := μ10 183 35) dX10_says_48 f_X10_284 k_183 rfl rfl ?_
    refine WP_iconst dX10_says_51 (by decide) ?_
    obtain ⟨g11, h⟩ := h
    refine WQ_iast (n := 640) dX10_says_52 k_199 g11 (fun μ12 eμ12 => ?_)
    replace h := h μ12 eμ12
    refine WP_aload_n dX10_says_53 rfl rfl ⟨Nat.le_of_ble_eq_true rfl, Nat.le_of_ble_eq_true rfl⟩ ?_
    refine WP_getfield (ci := 10) (j := 24) (n := 49) (t := 2) (x := 195) dX10_says_54 f_X10_52 k_183 rfl rfl ?_
    refine WP_iload dX10_says_57 rfl ?_
    obtain ⟨g13, h⟩ := h
    refine WP_iaload (n := 100) dX10_says_59 k_195 g13 ?_
    refine WP_iconst dX10_says_60 (by decide) ?_
    refine WQ_icmp_ne (tgt := 78) dX10_says_61 (by decide) (fun c14 => ?_) (fun c14 => ?_)
    · replace h := h.1 c14
      refine WP_aload_n dX10_says_78 rfl rfl ⟨Nat.le_of_ble_eq_true rfl, Nat.le_of_ble_eq_true rfl⟩ ?_
      refine WP_getfield (ci := 10) (j := 28) (n := 49) (t := 2) (x := 199) dX10_says_79 f_X10_64 k_183 rfl rfl ?_
      refine WP_aload_n dX10_says_82 rfl rfl ⟨Nat.le_of_ble_eq_true rfl, Nat.le_of_ble_eq_true rfl⟩ ?_
      refine WP_getfield (ci := 10) (j := 25) (n := 49) (t := 2) (x := 196) dX10_says_83 f_X10_55 k_183 rfl rfl ?_
      refine WP_iload dX10_says_86 rfl ?_
      obtain ⟨g15, h⟩ := h
      refine WP_iaload (n := 100) dX10_says_88 k_196 g15 ?_
      refine WP_aload_n dX10_says_89 rfl rfl ⟨Nat.le_of_ble_eq_true rfl, Nat.le_of_ble_eq_true rfl⟩ ?_
      refine WP_getfield (ci := 10) (j := 35) (n := 49) (t := 0) (x := μ12 183 35) dX10_says_90 f_X10_284 k_183 rfl rfl ?_
      obtain ⟨g16, h⟩ := h
      refine WQ_iast (n := 640) dX10_says_93 k_199 g16 (fun μ17 eμ17 => ?_)
      replace h := h μ17 eμ17
      refine WP_aload_n dX10_says_94 rfl rfl ⟨Nat.le_of_ble_eq_true rfl, Nat.le_of_ble_eq_true rfl⟩ ?_
      refine WP_getfield (ci := 10) (j := 25) (n := 49) (t := 2) (x := 196) dX10_says_95 f_X10_55 k_183 rfl rfl ?_
      refine WP_iload dX10_says_98 rfl ?_
      refine WP_aload_n dX10_says_100 rfl rfl ⟨Nat.le_of_ble_eq_true rfl, Nat.le_of_ble_eq_true rfl⟩ ?_
      refine WP_getfield (ci := 10) (j := 35) (n := 49) (t := 0) (x := μ17 183 35) dX10_says_101 f_X10_284 k_183 rfl rfl ?_
      obtain ⟨g18, h⟩ := h
      refine WQ_iast (n := 100) dX10_says_104 k_196 g18 (fun μ19 eμ19 => ?_)
      replace h := h μ19 eμ19
      refine WP_aload_n dX10_says_105 rfl rfl ⟨Nat.le_of_ble_eq_true rfl, Nat.le_of_ble_eq_true rfl⟩ ?_
      refine WP_dup dX10_says_106 (by simp) ?_
      refine WP_getfield (ci := 10) (j := 35) (n := 49) (t := 0) (x := μ19 183 35) dX10_says_107 f_X10_284 k_183 rfl rfl ?_
      refine WP_iconst dX10_says_110 (by decide) ?_
      obtain ⟨g20, h⟩ := h
      refine WP_iadd dX10_says_111 g20 ?_
      refine WQ_put (ci := 10) (j := 35) (n := 49) dX10_says_112 f_X10_284 k_183 rfl (fun μ21 eμ21 => ?_)
      replace h := h μ21 eμ21
      exact WQ_return dX10_says_115 rfl h
    · replace h := h.2 c14
      refine WP_aload_n dX10_says_64 rfl rfl ⟨Nat.le_of_ble_eq_true rfl, Nat.le_of_ble_eq_true rfl⟩ ?_
      refine WP_getfield (ci := 10) (j := 24) (n := 49) (t := 2) (x := 195) dX10_says_65 f_X10_52 k_183 rfl rfl ?_
      refine WP_iload dX10_says_68 rfl ?_
      refine WP_aload_n dX10_says_70 rfl rfl ⟨Nat.le_of_ble_eq_true rfl, Nat.le_of_ble_eq_true rfl⟩ ?_
      refine WP_getfield (ci := 10) (j := 35) (n := 49) (t := 0) (x := μ12 183 35) dX10_says_71 f_X10_284 k_183 rfl rfl ?_
      obtain ⟨g22, h⟩ := h
      refine WQ_iast (n := 100) dX10_says_74 k_195 g22 (fun μ23 eμ23 => ?_)
      replace h := h μ23 eμ23
      refine WP_goto (tgt := 94) dX10_says_75 (by decide) ?_
      refine WP_aload_n dX10_says_94 rfl rfl ⟨Nat.le_of_ble_eq_true rfl, Nat.le_of_ble_eq_true rfl⟩ ?_
      refine WP_getfield (ci := 10) (j := 25) (n := 49) (t := 2) (x := 196) dX10_says_95 f_X10_55 k_183 rfl rfl ?_
      refine WP_iload dX10_says_98 rfl ?_
      refine WP_aload_n dX10_says_100 rfl rfl ⟨Nat.le_of_ble_eq_true rfl, Nat.le_of_ble_eq_true rfl⟩ ?_
      refine WP_getfield (ci := 10) (j := 35) (n := 49) (t := 0) (x := μ23 183 35) dX10_says_101 f_X10_284 k_183 rfl rfl ?_
      obtain ⟨g24, h⟩ := h
      refine WQ_iast (n := 100) dX10_says_104 k_196 g24 (fun μ25 eμ25 => ?_)
      replace h := h μ25 eμ25
      refine WP_aload_n dX10_says_105 rfl rfl ⟨Nat.le_of_ble_eq_true rfl, Nat.le_of_ble_eq_true rfl⟩ ?_
      refine WP_dup dX10_says_106 (by simp) ?_
      refine WP_getfield (ci := 10) (j := 35) (n := 49) (t := 0) (x := μ25 183 35) dX10_says_107 f_X10_284 k_183 rfl rfl ?_
      refine WP_iconst dX10_says_110 (by decide) ?_
      obtain ⟨g26, h⟩ := h
      refine WP_iadd dX10_says_111 g26 ?_
      refine WQ_put (ci := 10) (j := 35) (n := 49) dX10_says_112 f_X10_284 k_183 rfl (fun μ27 eμ27 => ?_)
      replace h := h μ27 eμ27
      exact WQ_return dX10_says_115 rfl h
  · replace h := h.2 c6
    exact WQ_return dX10_says_22 rfl h

theorem s_X10_see_0 {d : Nat} {sc : SC} {Q : Int → Mem → Prop} {μ : Mem} {a1 : Int}
    (h : (μ 183 8 ≤ a1 → Q (-1) μ) ∧ (a1 < μ 183 8 → (0 ≤ a1 ∧ a1 < 900) ∧ Q (μ 186 a1) μ)) :
    WQ mX10_see d sc (ZI sc Q) 0 [(2, 183), (0, a1)] [] μ := by
  refine WP_iload_n dX10_see_0 rfl rfl ?_
  refine WP_aload_n dX10_see_1 rfl rfl ⟨Nat.le_of_ble_eq_true rfl, Nat.le_of_ble_eq_true rfl⟩ ?_
  refine WP_getfield (ci := 10) (j := 8) (n := 49) (t := 0) (x := μ 183 8) dX10_see_2 f_X10_111 k_183 rfl rfl ?_
  refine WQ_icmp_ge (tgt := 17) dX10_see_5 (by decide) (fun c1 => ?_) (fun c1 => ?_)
  · replace h := h.1 c1
    refine WP_iconst dX10_see_17 (by decide) ?_
    exact WQ_ireturn dX10_see_18 rfl h
  · replace h := h.2 c1
    refine WP_aload_n dX10_see_8 rfl rfl ⟨Nat.le_of_ble_eq_true rfl, Nat.le_of_ble_eq_true rfl⟩ ?_
    refine WP_getfield (ci := 10) (j := 3) (n := 49) (t := 2) (x := 186) dX10_see_9 f_X10_21 k_183 rfl rfl ?_
    refine WP_iload_n dX10_see_12 rfl rfl ?_
    obtain ⟨g2, h⟩ := h
    refine WP_iaload (n := 900) dX10_see_13 k_186 g2 ?_
    refine WP_goto (tgt := 18) dX10_see_14 (by decide) ?_
    exact WQ_ireturn dX10_see_18 rfl h

theorem s_X10_silence_0 {d : Nat} {sc : SC} {Q : Int → Mem → Prop} {μ : Mem} {a1 a2 : Int}
    (h : ∀ μ1, μ1 = mup μ 183 0 0 → CAi mX10_isPerson d sc [(2, 183), (1, a1)] μ1 (fun r2 μ3 => (r2 = 0 → Q (-2) μ3) ∧ (r2 ≠ 0 → CAi mX10_within d sc [(1, a2), (1, 0), (1, 2)] μ3 (fun r5 μ6 => (r5 ≠ 0 → CAv mX10_laysSilence d sc [(2, 183), (0, a1)] μ6 (fun μ9 => (a2 ≠ 0 → (a2 ≠ 1 → Q (μ9 183 42) μ9) ∧ (a2 = 1 → Q (μ9 183 41) μ9)) ∧ (a2 = 0 → Q (μ9 183 40) μ9))) ∧ (r5 = 0 → Q (-2) μ6))))) :
    WQ mX10_silence d sc (ZI sc Q) 0 [(2, 183), (0, a1), (0, a2)] [] μ := by
  refine WP_aload_n dX10_silence_0 rfl rfl ⟨Nat.le_of_ble_eq_true rfl, Nat.le_of_ble_eq_true rfl⟩ ?_
  refine WP_iconst dX10_silence_1 (by decide) ?_
  refine WQ_put (ci := 10) (j := 0) (n := 49) dX10_silence_2 f_X10_1 k_183 rfl (fun μ1 eμ1 => ?_)
  replace h := h μ1 eμ1
  refine WP_aload_n dX10_silence_5 rfl rfl ⟨Nat.le_of_ble_eq_true rfl, Nat.le_of_ble_eq_true rfl⟩ ?_
  refine WP_iload_n dX10_silence_6 rfl rfl ?_
  refine WP_i2l dX10_silence_7 ?_
  refine WQ_invVi (v := (2, 183)) (as := [(1, a1)]) dX10_silence_8 l_X10_235 mw_X10_isPerson mi_X10_isPerson ms_X10_isPerson mo_X10_isPerson (rcv (ci := 10) (n := 49) (r := (RX10, TX10, 49)) k_183 rfl rfl) (Nat.le_of_ble_eq_true rfl) h rfl (fun r2 μ3 h => ?_)
  refine WQ_ifeq (tgt := 26) dX10_silence_11 (by decide) (fun c4 => ?_) (fun c4 => ?_)
  · replace h := h.1 c4
    refine WP_bipush dX10_silence_26 (by decide +kernel) (by decide) ?_
    exact WQ_ireturn dX10_silence_28 rfl h
  · replace h := h.2 c4
    refine WP_iload_n dX10_silence_14 rfl rfl ?_
    refine WP_i2l dX10_silence_15 ?_
    refine WP_lconst dX10_silence_16 rfl ?_
    refine WP_ldc2 dX10_silence_17 c_X10_434 (by decide) ?_
    refine WQ_invSi (as := [(1, a2), (1, 0), (1, 2)]) dX10_silence_20 l_X10_170 mw_X10_within mt_X10_within mo_X10_within (Nat.le_of_ble_eq_true rfl) h rfl (fun r5 μ6 h => ?_)
    refine WQ_ifne (tgt := 29) dX10_silence_23 (by decide) (fun c7 => ?_) (fun c7 => ?_)
    · replace h := h.1 c7
      refine WP_aload_n dX10_silence_29 rfl rfl ⟨Nat.le_of_ble_eq_true rfl, Nat.le_of_ble_eq_true rfl⟩ ?_
      refine WP_iload_n dX10_silence_30 rfl rfl ?_
      refine WQ_invVv (v := (2, 183)) (as := [(0, a1)]) dX10_silence_31 l_X10_436 mw_X10_laysSilence mi_X10_laysSilence ms_X10_laysSilence mo_X10_laysSilence (rcv (ci := 10) (n := 49) (r := (RX10, TX10, 49)) k_183 rfl rfl) (Nat.le_of_ble_eq_true rfl) h rfl (fun μ9 h => ?_)
      refine WP_iload_n dX10_silence_34 rfl rfl ?_
      refine WQ_ifne (tgt := 45) dX10_silence_35 (by decide) (fun c10 => ?_) (fun c10 => ?_)
      · replace h := h.1 c10
        refine WP_iload_n dX10_silence_45 rfl rfl ?_
        refine WP_iconst dX10_silence_46 (by decide) ?_
        refine WQ_icmp_ne (tgt := 57) dX10_silence_47 (by decide) (fun c11 => ?_) (fun c11 => ?_)
        · replace h := h.1 c11
          refine WP_aload_n dX10_silence_57 rfl rfl ⟨Nat.le_of_ble_eq_true rfl, Nat.le_of_ble_eq_true rfl⟩ ?_
          refine WP_getfield (ci := 10) (j := 42) (n := 49) (t := 0) (x := μ9 183 42) dX10_silence_58 f_X10_427 k_183 rfl rfl ?_
          exact WQ_ireturn dX10_silence_61 rfl h
        · replace h := h.2 c11
          refine WP_aload_n dX10_silence_50 rfl rfl ⟨Nat.le_of_ble_eq_true rfl, Nat.le_of_ble_eq_true rfl⟩ ?_
          refine WP_getfield (ci := 10) (j := 41) (n := 49) (t := 0) (x := μ9 183 41) dX10_silence_51 f_X10_424 k_183 rfl rfl ?_
          refine WP_goto (tgt := 61) dX10_silence_54 (by decide) ?_
          exact WQ_ireturn dX10_silence_61 rfl h
      · replace h := h.2 c10
        refine WP_aload_n dX10_silence_38 rfl rfl ⟨Nat.le_of_ble_eq_true rfl, Nat.le_of_ble_eq_true rfl⟩ ?_
        refine WP_getfield (ci := 10) (j := 40) (n := 49) (t := 0) (x := μ9 183 40) dX10_silence_39 f_X10_421 k_183 rfl rfl ?_
        refine WP_goto (tgt := 61) dX10_silence_42 (by decide) ?_
        exact WQ_ireturn dX10_silence_61 rfl h
    · replace h := h.2 c7
      refine WP_bipush dX10_silence_26 (by decide +kernel) (by decide) ?_
      exact WQ_ireturn dX10_silence_28 rfl h

theorem s_X10_stopAt_0 {d : Nat} {sc : SC} {Q : Int → Mem → Prop} {μ : Mem} {a1 a2 a3 : Int}
    (h : CAv mX10_laysGaps d sc [(2, 183)] μ (fun μ2 => WQ mX10_stopAt d sc (ZI sc Q) 10 [(2, 183), (0, a1), (0, a2), (0, a3), (0, 0), (0, 0), (9, 0)] [] μ2)) :
    WQ mX10_stopAt d sc (ZI sc Q) 0 [(2, 183), (0, a1), (0, a2), (0, a3), (9, 0), (9, 0), (9, 0)] [] μ := by
  refine WP_aload_n dX10_stopAt_0 rfl rfl ⟨Nat.le_of_ble_eq_true rfl, Nat.le_of_ble_eq_true rfl⟩ ?_
  refine WQ_invVv (v := (2, 183)) (as := []) dX10_stopAt_1 l_X10_297 mw_X10_laysGaps mi_X10_laysGaps ms_X10_laysGaps mo_X10_laysGaps (rcv (ci := 10) (n := 49) (r := (RX10, TX10, 49)) k_183 rfl rfl) (Nat.le_of_ble_eq_true rfl) h rfl (fun μ2 h => ?_)
  refine WP_iconst dX10_stopAt_4 (by decide) ?_
  refine WP_istore (L' := [(2, 183), (0, a1), (0, a2), (0, a3), (0, 0), (9, 0), (9, 0)]) dX10_stopAt_5 (by decide) rfl ?_
  refine WP_iconst dX10_stopAt_7 (by decide) ?_
  refine WP_istore (L' := [(2, 183), (0, a1), (0, a2), (0, a3), (0, 0), (0, 0), (9, 0)]) dX10_stopAt_8 (by decide) rfl ?_
  exact h

theorem s_X10_stopAt_10 {d : Nat} {sc : SC} {Q : Int → Mem → Prop} {μ : Mem} {x1 x2 x3 x4 x5 : Int}
    (h : (10000 ≤ x5 → (0 ≤ x3 → Q (-1) μ) ∧ (x3 < 0 → Q x4 μ)) ∧ (x5 < 10000 → 0 ≤ x5 ∧ (∀ v4 : Int, v4 = x5 % 100 → CAi mX10_areTwo d sc [(2, 183), (1, v4), (1, x1)] μ (fun r5 μ6 => (r5 ≠ 0 → (-2147483648 ≤ (iShl 1 (μ6 184 31)) - 1 ∧ (iShl 1 (μ6 184 31)) - 1 < 2147483648) ∧ CAv mX10_laysTold d sc [(2, 183), (0, (iShl 1 (μ6 184 31)) - 1)] μ6 (fun μ11 => 0 ≤ x5 ∧ CAv mX10_tellsToo d sc [(2, 183), (0, v4), (0, x1), (0, x5 / 100)] μ11 (fun μ14 => CAv mX10_goesDay d sc [(2, 183)] μ14 (fun μ16 => CAi mX10_hasOneAt d sc [(2, 183), (0, x1), (0, x2)] μ16 (fun r17 μ18 => (r17 ≠ 0 → (x4 ≠ x3 → (-2147483648 ≤ x4 + 1 ∧ x4 + 1 < 2147483648) ∧ ∀ v22 : Int, v22 = x4 + 1 → (-2147483648 ≤ x5 + 1 ∧ x5 + 1 < 2147483648) ∧ ∀ v24 : Int, v24 = x5 + 1 → WQ mX10_stopAt d sc (ZI sc Q) 10 [(2, 183), (0, x1), (0, x2), (0, x3), (0, v22), (0, v24), (9, 0)] [] μ18) ∧ (x4 = x3 → Q x5 μ18)) ∧ (r17 = 0 → (-2147483648 ≤ x5 + 1 ∧ x5 + 1 < 2147483648) ∧ ∀ v26 : Int, v26 = x5 + 1 → WQ mX10_stopAt d sc (ZI sc Q) 10 [(2, 183), (0, x1), (0, x2), (0, x3), (0, x4), (0, v26), (9, 0)] [] μ18)))))) ∧ (r5 = 0 → (-2147483648 ≤ x5 + 1 ∧ x5 + 1 < 2147483648) ∧ ∀ v28 : Int, v28 = x5 + 1 → WQ mX10_stopAt d sc (ZI sc Q) 10 [(2, 183), (0, x1), (0, x2), (0, x3), (0, x4), (0, v28), (9, 0)] [] μ6))))) :
    WQ mX10_stopAt d sc (ZI sc Q) 10 [(2, 183), (0, x1), (0, x2), (0, x3), (0, x4), (0, x5), (9, 0)] [] μ := by
  refine WP_iload dX10_stopAt_10 rfl ?_
  refine WP_sipush dX10_stopAt_12 (by decide +kernel) (by decide) ?_
  refine WQ_icmp_ge (tgt := 101) dX10_stopAt_15 (by decide) (fun c1 => ?_) (fun c1 => ?_)
  · replace h := h.1 c1
    refine WP_iload_n dX10_stopAt_101 rfl rfl ?_
    refine WQ_ifge (tgt := 110) dX10_stopAt_102 (by decide) (fun c2 => ?_) (fun c2 => ?_)
    · replace h := h.1 c2
      refine WP_iconst dX10_stopAt_110 (by decide) ?_
      exact WQ_ireturn dX10_stopAt_111 rfl h
    · replace h := h.2 c2
      refine WP_iload dX10_stopAt_105 rfl ?_
      refine WP_goto (tgt := 111) dX10_stopAt_107 (by decide) ?_
      exact WQ_ireturn dX10_stopAt_111 rfl h
  · replace h := h.2 c1
    refine WP_iload dX10_stopAt_18 rfl ?_
    refine WP_bipush dX10_stopAt_20 (by decide +kernel) (by decide) ?_
    obtain ⟨g3, h⟩ := h
    refine WP_irem dX10_stopAt_22 ⟨g3, by decide⟩ ?_
    refine WQ_nm0 (fun v4 e4 => ?_)
    replace h := h v4 e4
    refine WP_istore (L' := [(2, 183), (0, x1), (0, x2), (0, x3), (0, x4), (0, x5), (0, v4)]) dX10_stopAt_23 (by decide) rfl ?_
    refine WP_aload_n dX10_stopAt_25 rfl rfl ⟨Nat.le_of_ble_eq_true rfl, Nat.le_of_ble_eq_true rfl⟩ ?_
    refine WP_iload dX10_stopAt_26 rfl ?_
    refine WP_i2l dX10_stopAt_28 ?_
    refine WP_iload_n dX10_stopAt_29 rfl rfl ?_
    refine WP_i2l dX10_stopAt_30 ?_
    refine WQ_invVi (v := (2, 183)) (as := [(1, v4), (1, x1)]) dX10_stopAt_31 l_X10_259 mw_X10_areTwo mi_X10_areTwo ms_X10_areTwo mo_X10_areTwo (rcv (ci := 10) (n := 49) (r := (RX10, TX10, 49)) k_183 rfl rfl) (Nat.le_of_ble_eq_true rfl) h rfl (fun r5 μ6 h => ?_)
    refine WQ_ifne (tgt := 40) dX10_stopAt_34 (by decide) (fun c7 => ?_) (fun c7 => ?_)
    · replace h := h.1 c7
      refine WP_aload_n dX10_stopAt_40 rfl rfl ⟨Nat.le_of_ble_eq_true rfl, Nat.le_of_ble_eq_true rfl⟩ ?_
      refine WP_iconst dX10_stopAt_41 (by decide) ?_
      refine WP_aload_n dX10_stopAt_42 rfl rfl ⟨Nat.le_of_ble_eq_true rfl, Nat.le_of_ble_eq_true rfl⟩ ?_
      refine WP_getfield (ci := 10) (j := 1) (n := 49) (t := 2) (x := 184) dX10_stopAt_43 f_X10_13 k_183 rfl rfl ?_
      refine WP_bipush dX10_stopAt_46 (by decide +kernel) (by decide) ?_
      refine WP_iaload (n := 4119) dX10_stopAt_48 k_184 ⟨by decide, by decide⟩ ?_
      refine WP_ishl dX10_stopAt_49 ?_
      refine WP_iconst dX10_stopAt_50 (by decide) ?_
      obtain ⟨g9, h⟩ := h
      refine WP_isub dX10_stopAt_51 g9 ?_
      refine WQ_invVv (v := (2, 183)) (as := [(0, (iShl 1 (μ6 184 31)) - 1)]) dX10_stopAt_52 l_X10_300 mw_X10_laysTold mi_X10_laysTold ms_X10_laysTold mo_X10_laysTold (rcv (ci := 10) (n := 49) (r := (RX10, TX10, 49)) k_183 rfl rfl) (Nat.le_of_ble_eq_true rfl) h rfl (fun μ11 h => ?_)
      refine WP_aload_n dX10_stopAt_55 rfl rfl ⟨Nat.le_of_ble_eq_true rfl, Nat.le_of_ble_eq_true rfl⟩ ?_
      refine WP_iload dX10_stopAt_56 rfl ?_
      refine WP_iload_n dX10_stopAt_58 rfl rfl ?_
      refine WP_iload dX10_stopAt_59 rfl ?_
      refine WP_bipush dX10_stopAt_61 (by decide +kernel) (by decide) ?_
      obtain ⟨g12, h⟩ := h
      refine WP_idiv dX10_stopAt_63 ⟨g12, by decide⟩ ?_
      refine WQ_invVv (v := (2, 183)) (as := [(0, v4), (0, x1), (0, x5 / 100)]) dX10_stopAt_64 l_X10_280 mw_X10_tellsToo mi_X10_tellsToo ms_X10_tellsToo mo_X10_tellsToo (rcv (ci := 10) (n := 49) (r := (RX10, TX10, 49)) k_183 rfl rfl) (Nat.le_of_ble_eq_true rfl) h rfl (fun μ14 h => ?_)
      refine WP_aload_n dX10_stopAt_67 rfl rfl ⟨Nat.le_of_ble_eq_true rfl, Nat.le_of_ble_eq_true rfl⟩ ?_
      refine WQ_invVv (v := (2, 183)) (as := []) dX10_stopAt_68 l_X10_303 mw_X10_goesDay mi_X10_goesDay ms_X10_goesDay mo_X10_goesDay (rcv (ci := 10) (n := 49) (r := (RX10, TX10, 49)) k_183 rfl rfl) (Nat.le_of_ble_eq_true rfl) h rfl (fun μ16 h => ?_)
      refine WP_aload_n dX10_stopAt_71 rfl rfl ⟨Nat.le_of_ble_eq_true rfl, Nat.le_of_ble_eq_true rfl⟩ ?_
      refine WP_iload_n dX10_stopAt_72 rfl rfl ?_
      refine WP_iload_n dX10_stopAt_73 rfl rfl ?_
      refine WQ_invVi (v := (2, 183)) (as := [(0, x1), (0, x2)]) dX10_stopAt_74 l_X10_407 mw_X10_hasOneAt mi_X10_hasOneAt ms_X10_hasOneAt mo_X10_hasOneAt (rcv (ci := 10) (n := 49) (r := (RX10, TX10, 49)) k_183 rfl rfl) (Nat.le_of_ble_eq_true rfl) h rfl (fun r17 μ18 h => ?_)
      refine WQ_ifne (tgt := 83) dX10_stopAt_77 (by decide) (fun c19 => ?_) (fun c19 => ?_)
      · replace h := h.1 c19
        refine WP_iload dX10_stopAt_83 rfl ?_
        refine WP_iload_n dX10_stopAt_85 rfl rfl ?_
        refine WQ_icmp_ne (tgt := 92) dX10_stopAt_86 (by decide) (fun c20 => ?_) (fun c20 => ?_)
        · replace h := h.1 c20
          obtain ⟨g21, h⟩ := h
          refine WQ_iinc dX10_stopAt_92 rfl (by decide) g21 (fun v22 e22 => ?_)
          refine WP_same (L' := [(2, 183), (0, x1), (0, x2), (0, x3), (0, v22), (0, x5), (0, v4)]) rfl ?_
          replace h := h v22 e22
          obtain ⟨g23, h⟩ := h
          refine WQ_iinc dX10_stopAt_95 rfl (by decide) g23 (fun v24 e24 => ?_)
          refine WP_same (L' := [(2, 183), (0, x1), (0, x2), (0, x3), (0, v22), (0, v24), (0, v4)]) rfl ?_
          replace h := h v24 e24
          refine WP_goto (tgt := 10) dX10_stopAt_98 (by decide) ?_
          refine WP_lforget (L' := [(2, 183), (0, x1), (0, x2), (0, x3), (0, v22), (0, v24), (9, 0)]) rfl (fun i hi => ?_) h
          match i, hi with
          | 0, _ => exact Or.inl rfl
          | 1, _ => exact Or.inl rfl
          | 2, _ => exact Or.inl rfl
          | 3, _ => exact Or.inl rfl
          | 4, _ => exact Or.inl rfl
          | 5, _ => exact Or.inl rfl
          | 6, _ => exact Or.inr rfl
          | i + 7, hi => exact absurd hi (by simp only [List.length_cons, List.length_nil]; omega)
        · replace h := h.2 c20
          refine WP_iload dX10_stopAt_89 rfl ?_
          exact WQ_ireturn dX10_stopAt_91 rfl h
      · replace h := h.2 c19
        refine WP_goto (tgt := 95) dX10_stopAt_80 (by decide) ?_
        obtain ⟨g25, h⟩ := h
        refine WQ_iinc dX10_stopAt_95 rfl (by decide) g25 (fun v26 e26 => ?_)
        refine WP_same (L' := [(2, 183), (0, x1), (0, x2), (0, x3), (0, x4), (0, v26), (0, v4)]) rfl ?_
        replace h := h v26 e26
        refine WP_goto (tgt := 10) dX10_stopAt_98 (by decide) ?_
        refine WP_lforget (L' := [(2, 183), (0, x1), (0, x2), (0, x3), (0, x4), (0, v26), (9, 0)]) rfl (fun i hi => ?_) h
        match i, hi with
        | 0, _ => exact Or.inl rfl
        | 1, _ => exact Or.inl rfl
        | 2, _ => exact Or.inl rfl
        | 3, _ => exact Or.inl rfl
        | 4, _ => exact Or.inl rfl
        | 5, _ => exact Or.inl rfl
        | 6, _ => exact Or.inr rfl
        | i + 7, hi => exact absurd hi (by simp only [List.length_cons, List.length_nil]; omega)
    · replace h := h.2 c7
      refine WP_goto (tgt := 95) dX10_stopAt_37 (by decide) ?_
      obtain ⟨g27, h⟩ := h
      refine WQ_iinc dX10_stopAt_95 rfl (by decide) g27 (fun v28 e28 => ?_)
      refine WP_same (L' := [(2, 183), (0, x1), (0, x2), (0, x3), (0, x4), (0, v28), (0, v4)]) rfl ?_
      replace h := h v28 e28
      refine WP_goto (tgt := 10) dX10_stopAt_98 (by decide) ?_
      refine WP_lforget (L' := [(2, 183), (0, x1), (0, x2), (0, x3), (0, x4), (0, v28), (9, 0)]) rfl (fun i hi => ?_) h
      match i, hi with
      | 0, _ => exact Or.inl rfl
      | 1, _ => exact Or.inl rfl
      | 2, _ => exact Or.inl rfl
      | 3, _ => exact Or.inl rfl
      | 4, _ => exact Or.inl rfl
      | 5, _ => exact Or.inl rfl
      | 6, _ => exact Or.inr rfl
      | i + 7, hi => exact absurd hi (by simp only [List.length_cons, List.length_nil]; omega)

theorem s_X10_stopBy_0 {d : Nat} {sc : SC} {Q : Int → Mem → Prop} {μ : Mem} {a1 a2 a3 : Int}
    (h : ∀ μ1, μ1 = mup μ 183 0 0 → CAi mX10_noStop d sc [(2, 183), (0, a1), (0, a2)] μ1 (fun r2 μ3 => (r2 = 0 → (0 ≤ a3 → CAi mX10_stopAt d sc [(2, 183), (0, a1), (0, a2), (0, a3)] μ3 (fun r6 μ7 => Q r6 μ7)) ∧ (a3 < 0 → Q (-3) μ3)) ∧ (r2 ≠ 0 → Q r2 μ3))) :
    WQ mX10_stopBy d sc (ZI sc Q) 0 [(2, 183), (0, a1), (0, a2), (0, a3), (9, 0)] [] μ := by
  refine WP_aload_n dX10_stopBy_0 rfl rfl ⟨Nat.le_of_ble_eq_true rfl, Nat.le_of_ble_eq_true rfl⟩ ?_
  refine WP_iconst dX10_stopBy_1 (by decide) ?_
  refine WQ_put (ci := 10) (j := 0) (n := 49) dX10_stopBy_2 f_X10_1 k_183 rfl (fun μ1 eμ1 => ?_)
  replace h := h μ1 eμ1
  refine WP_aload_n dX10_stopBy_5 rfl rfl ⟨Nat.le_of_ble_eq_true rfl, Nat.le_of_ble_eq_true rfl⟩ ?_
  refine WP_iload_n dX10_stopBy_6 rfl rfl ?_
  refine WP_iload_n dX10_stopBy_7 rfl rfl ?_
  refine WQ_invVi (v := (2, 183)) (as := [(0, a1), (0, a2)]) dX10_stopBy_8 l_X10_411 mw_X10_noStop mi_X10_noStop ms_X10_noStop mo_X10_noStop (rcv (ci := 10) (n := 49) (r := (RX10, TX10, 49)) k_183 rfl rfl) (Nat.le_of_ble_eq_true rfl) h rfl (fun r2 μ3 h => ?_)
  refine WP_istore (L' := [(2, 183), (0, a1), (0, a2), (0, a3), (0, r2)]) dX10_stopBy_11 (by decide) rfl ?_
  refine WP_iload dX10_stopBy_13 rfl ?_
  refine WQ_ifeq (tgt := 21) dX10_stopBy_15 (by decide) (fun c4 => ?_) (fun c4 => ?_)
  · replace h := h.1 c4
    refine WP_iload_n dX10_stopBy_21 rfl rfl ?_
    refine WQ_ifge (tgt := 30) dX10_stopBy_22 (by decide) (fun c5 => ?_) (fun c5 => ?_)
    · replace h := h.1 c5
      refine WP_aload_n dX10_stopBy_30 rfl rfl ⟨Nat.le_of_ble_eq_true rfl, Nat.le_of_ble_eq_true rfl⟩ ?_
      refine WP_iload_n dX10_stopBy_31 rfl rfl ?_
      refine WP_iload_n dX10_stopBy_32 rfl rfl ?_
      refine WP_iload_n dX10_stopBy_33 rfl rfl ?_
      refine WQ_invVi (v := (2, 183)) (as := [(0, a1), (0, a2), (0, a3)]) dX10_stopBy_34 l_X10_414 mw_X10_stopAt mi_X10_stopAt ms_X10_stopAt mo_X10_stopAt (rcv (ci := 10) (n := 49) (r := (RX10, TX10, 49)) k_183 rfl rfl) (Nat.le_of_ble_eq_true rfl) h rfl (fun r6 μ7 h => ?_)
      exact WQ_ireturn dX10_stopBy_37 rfl h
    · replace h := h.2 c5
      refine WP_bipush dX10_stopBy_25 (by decide +kernel) (by decide) ?_
      refine WP_goto (tgt := 37) dX10_stopBy_27 (by decide) ?_
      exact WQ_ireturn dX10_stopBy_37 rfl h
  · replace h := h.2 c4
    refine WP_iload dX10_stopBy_18 rfl ?_
    exact WQ_ireturn dX10_stopBy_20 rfl h

theorem s_X10_stops_0 {d : Nat} {sc : SC} {Q : Int → Mem → Prop} {μ : Mem} {a1 a2 : Int}
    (h : ∀ μ1, μ1 = mup μ 183 0 0 → CAi mX10_noStop d sc [(2, 183), (0, a1), (0, a2)] μ1 (fun r2 μ3 => (r2 = 0 → CAi mX10_stopAt d sc [(2, 183), (0, a1), (0, a2), (0, (-1))] μ3 (fun r5 μ6 => Q r5 μ6)) ∧ (r2 ≠ 0 → Q r2 μ3))) :
    WQ mX10_stops d sc (ZI sc Q) 0 [(2, 183), (0, a1), (0, a2), (9, 0)] [] μ := by
  refine WP_aload_n dX10_stops_0 rfl rfl ⟨Nat.le_of_ble_eq_true rfl, Nat.le_of_ble_eq_true rfl⟩ ?_
  refine WP_iconst dX10_stops_1 (by decide) ?_
  refine WQ_put (ci := 10) (j := 0) (n := 49) dX10_stops_2 f_X10_1 k_183 rfl (fun μ1 eμ1 => ?_)
  replace h := h μ1 eμ1
  refine WP_aload_n dX10_stops_5 rfl rfl ⟨Nat.le_of_ble_eq_true rfl, Nat.le_of_ble_eq_true rfl⟩ ?_
  refine WP_iload_n dX10_stops_6 rfl rfl ?_
  refine WP_iload_n dX10_stops_7 rfl rfl ?_
  refine WQ_invVi (v := (2, 183)) (as := [(0, a1), (0, a2)]) dX10_stops_8 l_X10_411 mw_X10_noStop mi_X10_noStop ms_X10_noStop mo_X10_noStop (rcv (ci := 10) (n := 49) (r := (RX10, TX10, 49)) k_183 rfl rfl) (Nat.le_of_ble_eq_true rfl) h rfl (fun r2 μ3 h => ?_)
  refine WP_istore_n (L' := [(2, 183), (0, a1), (0, a2), (0, r2)]) dX10_stops_11 rfl (by decide) rfl ?_
  refine WP_iload_n dX10_stops_12 rfl rfl ?_
  refine WQ_ifeq (tgt := 20) dX10_stops_13 (by decide) (fun c4 => ?_) (fun c4 => ?_)
  · replace h := h.1 c4
    refine WP_aload_n dX10_stops_20 rfl rfl ⟨Nat.le_of_ble_eq_true rfl, Nat.le_of_ble_eq_true rfl⟩ ?_
    refine WP_iload_n dX10_stops_21 rfl rfl ?_
    refine WP_iload_n dX10_stops_22 rfl rfl ?_
    refine WP_iconst dX10_stops_23 (by decide) ?_
    refine WQ_invVi (v := (2, 183)) (as := [(0, a1), (0, a2), (0, (-1))]) dX10_stops_24 l_X10_414 mw_X10_stopAt mi_X10_stopAt ms_X10_stopAt mo_X10_stopAt (rcv (ci := 10) (n := 49) (r := (RX10, TX10, 49)) k_183 rfl rfl) (Nat.le_of_ble_eq_true rfl) h rfl (fun r5 μ6 h => ?_)
    exact WQ_ireturn dX10_stops_27 rfl h
  · replace h := h.2 c4
    refine WP_iload_n dX10_stops_16 rfl rfl ?_
    refine WP_goto (tgt := 27) dX10_stops_17 (by decide) ?_
    exact WQ_ireturn dX10_stops_27 rfl h

theorem s_X10_stores_0 {d : Nat} {sc : SC} {Q : Mem → Prop} {μ : Mem}
    (h : WQ mX10_stores d sc (ZV sc Q) 2 [(2, 183), (0, 0)] [] μ) :
    WQ mX10_stores d sc (ZV sc Q) 0 [(2, 183), (9, 0)] [] μ := by
  refine WP_iconst dX10_stores_0 (by decide) ?_
  refine WP_istore_n (L' := [(2, 183), (0, 0)]) dX10_stores_1 rfl (by decide) rfl ?_
  exact h

theorem s_X10_stores_2 {d : Nat} {sc : SC} {Q : Mem → Prop} {μ : Mem} {x1 : Int}
    (h : (40 ≤ x1 → Q μ) ∧ (x1 < 40 → (-2147483648 ≤ 31 + x1 ∧ 31 + x1 < 2147483648) ∧ (0 ≤ 31 + x1 ∧ 31 + x1 < 4119) ∧ (0 ≤ x1 ∧ x1 < 40) ∧ (∀ μ5, μ5 = mup μ 205 x1 (μ 184 (31 + x1)) → (-2147483648 ≤ x1 + 1 ∧ x1 + 1 < 2147483648) ∧ ∀ v7 : Int, v7 = x1 + 1 → WQ mX10_stores d sc (ZV sc Q) 2 [(2, 183), (0, v7)] [] μ5))) :
    WQ mX10_stores d sc (ZV sc Q) 2 [(2, 183), (0, x1)] [] μ := by
  refine WP_iload_n dX10_stores_2 rfl rfl ?_
  refine WP_bipush dX10_stores_3 (by decide +kernel) (by decide) ?_
  refine WQ_icmp_ge (tgt := 29) dX10_stores_5 (by decide) (fun c1 => ?_) (fun c1 => ?_)
  · replace h := h.1 c1
    exact WQ_return dX10_stores_29 rfl h
  · replace h := h.2 c1
    refine WP_aload_n dX10_stores_8 rfl rfl ⟨Nat.le_of_ble_eq_true rfl, Nat.le_of_ble_eq_true rfl⟩ ?_
    refine WP_getfield (ci := 10) (j := 37) (n := 49) (t := 2) (x := 205) dX10_stores_9 f_X10_82 k_183 rfl rfl ?_
    refine WP_iload_n dX10_stores_12 rfl rfl ?_
    refine WP_aload_n dX10_stores_13 rfl rfl ⟨Nat.le_of_ble_eq_true rfl, Nat.le_of_ble_eq_true rfl⟩ ?_
    refine WP_getfield (ci := 10) (j := 1) (n := 49) (t := 2) (x := 184) dX10_stores_14 f_X10_13 k_183 rfl rfl ?_
    refine WP_bipush dX10_stores_17 (by decide +kernel) (by decide) ?_
    refine WP_iload_n dX10_stores_19 rfl rfl ?_
    obtain ⟨g2, h⟩ := h
    refine WP_iadd dX10_stores_20 g2 ?_
    obtain ⟨g3, h⟩ := h
    refine WP_iaload (n := 4119) dX10_stores_21 k_184 g3 ?_
    obtain ⟨g4, h⟩ := h
    refine WQ_iast (n := 40) dX10_stores_22 k_205 g4 (fun μ5 eμ5 => ?_)
    replace h := h μ5 eμ5
    obtain ⟨g6, h⟩ := h
    refine WQ_iinc dX10_stores_23 rfl (by decide) g6 (fun v7 e7 => ?_)
    refine WP_same (L' := [(2, 183), (0, v7)]) rfl ?_
    replace h := h v7 e7
    refine WP_goto (tgt := 2) dX10_stores_26 (by decide) ?_
    exact h

theorem s_X10_takes_0 {d : Nat} {sc : SC} {Q : Int → Mem → Prop} {μ : Mem} {a1 a2 : Int}
    (h : CAi mX10_is d sc [(2, 183), (0, 25)] μ (fun r1 μ2 => (r1 ≠ 0 → CAi mX10_within d sc [(1, μ2 183 10), (1, a1), (1, a2)] μ2 (fun r4 μ5 => (r4 ≠ 0 → ∀ v7 : Int, v7 = μ5 183 10 → (μ5 183 11 ≠ 0 → Q v7 μ5) ∧ (μ5 183 11 = 0 → CAv mX10_next d sc [(2, 183)] μ5 (fun μ10 => Q v7 μ10))) ∧ (r4 = 0 → CAv mX10_fails d sc [(2, 183), (0, 3)] μ5 (fun μ12 => ∀ v13 : Int, v13 = μ12 183 10 → (μ12 183 11 ≠ 0 → Q v13 μ12) ∧ (μ12 183 11 = 0 → CAv mX10_next d sc [(2, 183)] μ12 (fun μ16 => Q v13 μ16)))))) ∧ (r1 = 0 → CAv mX10_fails d sc [(2, 183), (0, 2)] μ2 (fun μ18 => ∀ v19 : Int, v19 = μ18 183 10 → (μ18 183 11 ≠ 0 → Q v19 μ18) ∧ (μ18 183 11 = 0 → CAv mX10_next d sc [(2, 183)] μ18 (fun μ22 => Q v19 μ22)))))) :
    WQ mX10_takes d sc (ZI sc Q) 0 [(2, 183), (0, a1), (0, a2), (9, 0)] [] μ := by
  refine WP_aload_n dX10_takes_0 rfl rfl ⟨Nat.le_of_ble_eq_true rfl, Nat.le_of_ble_eq_true rfl⟩ ?_
  refine WP_bipush dX10_takes_1 (by decide +kernel) (by decide) ?_
  refine WQ_invVi (v := (2, 183)) (as := [(0, 25)]) dX10_takes_3 l_X10_160 mw_X10_is mi_X10_is ms_X10_is mo_X10_is (rcv (ci := 10) (n := 49) (r := (RX10, TX10, 49)) k_183 rfl rfl) (Nat.le_of_ble_eq_true rfl) h rfl (fun r1 μ2 h => ?_)
  refine WQ_ifne (tgt := 17) dX10_takes_6 (by decide) (fun c3 => ?_) (fun c3 => ?_)
  · replace h := h.1 c3
    refine WP_aload_n dX10_takes_17 rfl rfl ⟨Nat.le_of_ble_eq_true rfl, Nat.le_of_ble_eq_true rfl⟩ ?_
    refine WP_getfield (ci := 10) (j := 10) (n := 49) (t := 0) (x := μ2 183 10) dX10_takes_18 f_X10_149 k_183 rfl rfl ?_
    refine WP_i2l dX10_takes_21 ?_
    refine WP_iload_n dX10_takes_22 rfl rfl ?_
    refine WP_i2l dX10_takes_23 ?_
    refine WP_iload_n dX10_takes_24 rfl rfl ?_
    refine WP_i2l dX10_takes_25 ?_
    refine WQ_invSi (as := [(1, μ2 183 10), (1, a1), (1, a2)]) dX10_takes_26 l_X10_170 mw_X10_within mt_X10_within mo_X10_within (Nat.le_of_ble_eq_true rfl) h rfl (fun r4 μ5 h => ?_)
    refine WQ_ifne (tgt := 37) dX10_takes_29 (by decide) (fun c6 => ?_) (fun c6 => ?_)
    · replace h := h.1 c6
      refine WP_aload_n dX10_takes_37 rfl rfl ⟨Nat.le_of_ble_eq_true rfl, Nat.le_of_ble_eq_true rfl⟩ ?_
      refine WP_getfield (ci := 10) (j := 10) (n := 49) (t := 0) (x := μ5 183 10) dX10_takes_38 f_X10_149 k_183 rfl rfl ?_
      refine WQ_nm0 (fun v7 e7 => ?_)
      replace h := h v7 e7
      refine WP_istore_n (L' := [(2, 183), (0, a1), (0, a2), (0, v7)]) dX10_takes_41 rfl (by decide) rfl ?_
      refine WP_aload_n dX10_takes_42 rfl rfl ⟨Nat.le_of_ble_eq_true rfl, Nat.le_of_ble_eq_true rfl⟩ ?_
      refine WP_getfield (ci := 10) (j := 11) (n := 49) (t := 0) (x := μ5 183 11) dX10_takes_43 f_X10_154 k_183 rfl rfl ?_
      refine WQ_ifne (tgt := 53) dX10_takes_46 (by decide) (fun c8 => ?_) (fun c8 => ?_)
      · replace h := h.1 c8
        refine WP_iload_n dX10_takes_53 rfl rfl ?_
        exact WQ_ireturn dX10_takes_54 rfl h
      · replace h := h.2 c8
        refine WP_aload_n dX10_takes_49 rfl rfl ⟨Nat.le_of_ble_eq_true rfl, Nat.le_of_ble_eq_true rfl⟩ ?_
        refine WQ_invVv (v := (2, 183)) (as := []) dX10_takes_50 l_X10_163 mw_X10_next mi_X10_next ms_X10_next mo_X10_next (rcv (ci := 10) (n := 49) (r := (RX10, TX10, 49)) k_183 rfl rfl) (Nat.le_of_ble_eq_true rfl) h rfl (fun μ10 h => ?_)
        refine WP_iload_n dX10_takes_53 rfl rfl ?_
        exact WQ_ireturn dX10_takes_54 rfl h
    · replace h := h.2 c6
      refine WP_aload_n dX10_takes_32 rfl rfl ⟨Nat.le_of_ble_eq_true rfl, Nat.le_of_ble_eq_true rfl⟩ ?_
      refine WP_iconst dX10_takes_33 (by decide) ?_
      refine WQ_invVv (v := (2, 183)) (as := [(0, 3)]) dX10_takes_34 l_X10_166 mw_X10_fails mi_X10_fails ms_X10_fails mo_X10_fails (rcv (ci := 10) (n := 49) (r := (RX10, TX10, 49)) k_183 rfl rfl) (Nat.le_of_ble_eq_true rfl) h rfl (fun μ12 h => ?_)
      refine WP_aload_n dX10_takes_37 rfl rfl ⟨Nat.le_of_ble_eq_true rfl, Nat.le_of_ble_eq_true rfl⟩ ?_
      refine WP_getfield (ci := 10) (j := 10) (n := 49) (t := 0) (x := μ12 183 10) dX10_takes_38 f_X10_149 k_183 rfl rfl ?_
      refine WQ_nm0 (fun v13 e13 => ?_)
      replace h := h v13 e13
      refine WP_istore_n (L' := [(2, 183), (0, a1), (0, a2), (0, v13)]) dX10_takes_41 rfl (by decide) rfl ?_
      refine WP_aload_n dX10_takes_42 rfl rfl ⟨Nat.le_of_ble_eq_true rfl, Nat.le_of_ble_eq_true rfl⟩ ?_
      refine WP_getfield (ci := 10) (j := 11) (n := 49) (t := 0) (x := μ12 183 11) dX10_takes_43 f_X10_154 k_183 rfl rfl ?_
      refine WQ_ifne (tgt := 53) dX10_takes_46 (by decide) (fun c14 => ?_) (fun c14 => ?_)
      · replace h := h.1 c14
        refine WP_iload_n dX10_takes_53 rfl rfl ?_
        exact WQ_ireturn dX10_takes_54 rfl h
      · replace h := h.2 c14
        refine WP_aload_n dX10_takes_49 rfl rfl ⟨Nat.le_of_ble_eq_true rfl, Nat.le_of_ble_eq_true rfl⟩ ?_
        refine WQ_invVv (v := (2, 183)) (as := []) dX10_takes_50 l_X10_163 mw_X10_next mi_X10_next ms_X10_next mo_X10_next (rcv (ci := 10) (n := 49) (r := (RX10, TX10, 49)) k_183 rfl rfl) (Nat.le_of_ble_eq_true rfl) h rfl (fun μ16 h => ?_)
        refine WP_iload_n dX10_takes_53 rfl rfl ?_
        exact WQ_ireturn dX10_takes_54 rfl h
  · replace h := h.2 c3
    refine WP_aload_n dX10_takes_9 rfl rfl ⟨Nat.le_of_ble_eq_true rfl, Nat.le_of_ble_eq_true rfl⟩ ?_
    refine WP_iconst dX10_takes_10 (by decide) ?_
    refine WQ_invVv (v := (2, 183)) (as := [(0, 2)]) dX10_takes_11 l_X10_166 mw_X10_fails mi_X10_fails ms_X10_fails mo_X10_fails (rcv (ci := 10) (n := 49) (r := (RX10, TX10, 49)) k_183 rfl rfl) (Nat.le_of_ble_eq_true rfl) h rfl (fun μ18 h => ?_)
    refine WP_goto (tgt := 37) dX10_takes_14 (by decide) ?_
    refine WP_aload_n dX10_takes_37 rfl rfl ⟨Nat.le_of_ble_eq_true rfl, Nat.le_of_ble_eq_true rfl⟩ ?_
    refine WP_getfield (ci := 10) (j := 10) (n := 49) (t := 0) (x := μ18 183 10) dX10_takes_38 f_X10_149 k_183 rfl rfl ?_
    refine WQ_nm0 (fun v19 e19 => ?_)
    replace h := h v19 e19
    refine WP_istore_n (L' := [(2, 183), (0, a1), (0, a2), (0, v19)]) dX10_takes_41 rfl (by decide) rfl ?_
    refine WP_aload_n dX10_takes_42 rfl rfl ⟨Nat.le_of_ble_eq_true rfl, Nat.le_of_ble_eq_true rfl⟩ ?_
    refine WP_getfield (ci := 10) (j := 11) (n := 49) (t := 0) (x := μ18 183 11) dX10_takes_43 f_X10_154 k_183 rfl rfl ?_
    refine WQ_ifne (tgt := 53) dX10_takes_46 (by decide) (fun c20 => ?_) (fun c20 => ?_)
    · replace h := h.1 c20
      refine WP_iload_n dX10_takes_53 rfl rfl ?_
      exact WQ_ireturn dX10_takes_54 rfl h
    · replace h := h.2 c20
      refine WP_aload_n dX10_takes_49 rfl rfl ⟨Nat.le_of_ble_eq_true rfl, Nat.le_of_ble_eq_true rfl⟩ ?_
      refine WQ_invVv (v := (2, 183)) (as := []) dX10_takes_50 l_X10_163 mw_X10_next mi_X10_next ms_X10_next mo_X10_next (rcv (ci := 10) (n := 49) (r := (RX10, TX10, 49)) k_183 rfl rfl) (Nat.le_of_ble_eq_true rfl) h rfl (fun μ22 h => ?_)
      refine WP_iload_n dX10_takes_53 rfl rfl ?_
      exact WQ_ireturn dX10_takes_54 rfl h

theorem s_X10_tell_0 {d : Nat} {sc : SC} {Q : Int → Mem → Prop} {μ : Mem} {a1 a2 a3 : Int}
    (h : ∀ μ1, μ1 = mup μ 183 0 0 → CAi mX10_whyTell d sc [(2, 183), (1, a1), (1, a2), (1, a3)] μ1 (fun r2 μ3 => (r2 = 0 → CAv mX10_stores d sc [(2, 183)] μ3 (fun μ6 => CAv mX10_tellsOne d sc [(2, 183), (0, a1), (0, a2), (0, a3)] μ6 (fun μ8 => CAv mX10_notes d sc [(2, 183)] μ8 (fun μ10 => Q (μ10 184 31) μ10)))) ∧ (r2 ≠ 0 → (-2147483648 ≤ (-10) - r2 ∧ (-10) - r2 < 2147483648) ∧ Q ((-10) - r2) μ3))) :
    WQ mX10_tell d sc (ZI sc Q) 0 [(2, 183), (0, a1), (0, a2), (0, a3), (9, 0)] [] μ := by
  refine WP_aload_n dX10_tell_0 rfl rfl ⟨Nat.le_of_ble_eq_true rfl, Nat.le_of_ble_eq_true rfl⟩ ?_
  refine WP_iconst dX10_tell_1 (by decide) ?_
  refine WQ_put (ci := 10) (j := 0) (n := 49) dX10_tell_2 f_X10_1 k_183 rfl (fun μ1 eμ1 => ?_)
  replace h := h μ1 eμ1
  refine WP_aload_n dX10_tell_5 rfl rfl ⟨Nat.le_of_ble_eq_true rfl, Nat.le_of_ble_eq_true rfl⟩ ?_
  refine WP_iload_n dX10_tell_6 rfl rfl ?_
  refine WP_i2l dX10_tell_7 ?_
  refine WP_iload_n dX10_tell_8 rfl rfl ?_
  refine WP_i2l dX10_tell_9 ?_
  refine WP_iload_n dX10_tell_10 rfl rfl ?_
  refine WP_i2l dX10_tell_11 ?_
  refine WQ_invVi (v := (2, 183)) (as := [(1, a1), (1, a2), (1, a3)]) dX10_tell_12 l_X10_316 mw_X10_whyTell mi_X10_whyTell ms_X10_whyTell mo_X10_whyTell (rcv (ci := 10) (n := 49) (r := (RX10, TX10, 49)) k_183 rfl rfl) (Nat.le_of_ble_eq_true rfl) h rfl (fun r2 μ3 h => ?_)
  refine WP_istore (L' := [(2, 183), (0, a1), (0, a2), (0, a3), (0, r2)]) dX10_tell_15 (by decide) rfl ?_
  refine WP_iload dX10_tell_17 rfl ?_
  refine WQ_ifeq (tgt := 28) dX10_tell_19 (by decide) (fun c4 => ?_) (fun c4 => ?_)
  · replace h := h.1 c4
    refine WP_aload_n dX10_tell_28 rfl rfl ⟨Nat.le_of_ble_eq_true rfl, Nat.le_of_ble_eq_true rfl⟩ ?_
    refine WQ_invVv (v := (2, 183)) (as := []) dX10_tell_29 l_X10_320 mw_X10_stores mi_X10_stores ms_X10_stores mo_X10_stores (rcv (ci := 10) (n := 49) (r := (RX10, TX10, 49)) k_183 rfl rfl) (Nat.le_of_ble_eq_true rfl) h rfl (fun μ6 h => ?_)
    refine WP_aload_n dX10_tell_32 rfl rfl ⟨Nat.le_of_ble_eq_true rfl, Nat.le_of_ble_eq_true rfl⟩ ?_
    refine WP_iload_n dX10_tell_33 rfl rfl ?_
    refine WP_iload_n dX10_tell_34 rfl rfl ?_
    refine WP_iload_n dX10_tell_35 rfl rfl ?_
    refine WQ_invVv (v := (2, 183)) (as := [(0, a1), (0, a2), (0, a3)]) dX10_tell_36 l_X10_323 mw_X10_tellsOne mi_X10_tellsOne ms_X10_tellsOne mo_X10_tellsOne (rcv (ci := 10) (n := 49) (r := (RX10, TX10, 49)) k_183 rfl rfl) (Nat.le_of_ble_eq_true rfl) h rfl (fun μ8 h => ?_)
    refine WP_aload_n dX10_tell_39 rfl rfl ⟨Nat.le_of_ble_eq_true rfl, Nat.le_of_ble_eq_true rfl⟩ ?_
    refine WQ_invVv (v := (2, 183)) (as := []) dX10_tell_40 l_X10_326 mw_X10_notes mi_X10_notes ms_X10_notes mo_X10_notes (rcv (ci := 10) (n := 49) (r := (RX10, TX10, 49)) k_183 rfl rfl) (Nat.le_of_ble_eq_true rfl) h rfl (fun μ10 h => ?_)
    refine WP_aload_n dX10_tell_43 rfl rfl ⟨Nat.le_of_ble_eq_true rfl, Nat.le_of_ble_eq_true rfl⟩ ?_
    refine WP_getfield (ci := 10) (j := 1) (n := 49) (t := 2) (x := 184) dX10_tell_44 f_X10_13 k_183 rfl rfl ?_
    refine WP_bipush dX10_tell_47 (by decide +kernel) (by decide) ?_
    refine WP_iaload (n := 4119) dX10_tell_49 k_184 ⟨by decide, by decide⟩ ?_
    exact WQ_ireturn dX10_tell_50 rfl h
  · replace h := h.2 c4
    refine WP_bipush dX10_tell_22 (by decide +kernel) (by decide) ?_
    refine WP_iload dX10_tell_24 rfl ?_
    obtain ⟨g12, h⟩ := h
    refine WP_isub dX10_tell_26 g12 ?_
    exact WQ_ireturn dX10_tell_27 rfl h

theorem s_X10_tells_0 {d : Nat} {sc : SC} {Q : Int → Mem → Prop} {μ : Mem} {a1 : Int}
    (h : ∀ μ1, μ1 = mup μ 183 38 0 → WQ mX10_tells d sc (ZI sc Q) 7 [(2, 183), (0, a1), (0, 0)] [] μ1) :
    WQ mX10_tells d sc (ZI sc Q) 0 [(2, 183), (0, a1), (9, 0)] [] μ := by
  refine WP_aload_n dX10_tells_0 rfl rfl ⟨Nat.le_of_ble_eq_true rfl, Nat.le_of_ble_eq_true rfl⟩ ?_
  refine WP_iconst dX10_tells_1 (by decide) ?_
  refine WQ_put (ci := 10) (j := 38) (n := 49) dX10_tells_2 f_X10_360 k_183 rfl (fun μ1 eμ1 => ?_)
  replace h := h μ1 eμ1
  refine WP_iconst dX10_tells_5 (by decide) ?_
  refine WP_istore_n (L' := [(2, 183), (0, a1), (0, 0)]) dX10_tells_6 rfl (by decide) rfl ?_
  exact h

theorem s_X10_tells_7 {d : Nat} {sc : SC} {Q : Int → Mem → Prop} {μ : Mem} {x1 x2 : Int}
    (h : (0 ≤ x1 ∧ x1 < 4) ∧ (μ 210 x1 ≤ x2 → (0 ≤ x1 ∧ x1 < 4) ∧ Q (μ 210 x1) μ) ∧ (x2 < μ 210 x1 → (-2147483648 ≤ 40 * x1 ∧ 40 * x1 < 2147483648) ∧ (-2147483648 ≤ (40 * x1) + x2 ∧ (40 * x1) + x2 < 2147483648) ∧ (0 ≤ (40 * x1) + x2 ∧ (40 * x1) + x2 < 160) ∧ CAi mX10_whyNot d sc [(2, 183), (1, μ 211 ((40 * x1) + x2))] μ (fun r7 μ8 => ∀ μ9, μ9 = mup μ8 183 38 r7 → (μ9 183 38 = 0 → (-2147483648 ≤ 40 * x1 ∧ 40 * x1 < 2147483648) ∧ (-2147483648 ≤ (40 * x1) + x2 ∧ (40 * x1) + x2 < 2147483648) ∧ (0 ≤ (40 * x1) + x2 ∧ (40 * x1) + x2 < 160) ∧ CAv mX10_does d sc [(2, 183), (0, w32 (μ9 211 ((40 * x1) + x2)))] μ9 (fun μ15 => (-2147483648 ≤ x2 + 1 ∧ x2 + 1 < 2147483648) ∧ ∀ v17 : Int, v17 = x2 + 1 → WQ mX10_tells d sc (ZI sc Q) 7 [(2, 183), (0, x1), (0, v17)] [] μ15)) ∧ (μ9 183 38 ≠ 0 → Q x2 μ9)))) :
    WQ mX10_tells d sc (ZI sc Q) 7 [(2, 183), (0, x1), (0, x2)] [] μ := by
  refine WP_iload_n dX10_tells_7 rfl rfl ?_
  refine WP_aload_n dX10_tells_8 rfl rfl ⟨Nat.le_of_ble_eq_true rfl, Nat.le_of_ble_eq_true rfl⟩ ?_
  refine WP_getfield (ci := 10) (j := 47) (n := 49) (t := 2) (x := 210) dX10_tells_9 f_X10_98 k_183 rfl rfl ?_
  refine WP_iload_n dX10_tells_12 rfl rfl ?_
  obtain ⟨g1, h⟩ := h
  refine WP_iaload (n := 4) dX10_tells_13 k_210 g1 ?_
  refine WQ_icmp_ge (tgt := 67) dX10_tells_14 (by decide) (fun c2 => ?_) (fun c2 => ?_)
  · replace h := h.1 c2
    refine WP_aload_n dX10_tells_67 rfl rfl ⟨Nat.le_of_ble_eq_true rfl, Nat.le_of_ble_eq_true rfl⟩ ?_
    refine WP_getfield (ci := 10) (j := 47) (n := 49) (t := 2) (x := 210) dX10_tells_68 f_X10_98 k_183 rfl rfl ?_
    refine WP_iload_n dX10_tells_71 rfl rfl ?_
    obtain ⟨g3, h⟩ := h
    refine WP_iaload (n := 4) dX10_tells_72 k_210 g3 ?_
    exact WQ_ireturn dX10_tells_73 rfl h
  · replace h := h.2 c2
    refine WP_aload_n dX10_tells_17 rfl rfl ⟨Nat.le_of_ble_eq_true rfl, Nat.le_of_ble_eq_true rfl⟩ ?_
    refine WP_aload_n dX10_tells_18 rfl rfl ⟨Nat.le_of_ble_eq_true rfl, Nat.le_of_ble_eq_true rfl⟩ ?_
    refine WP_aload_n dX10_tells_19 rfl rfl ⟨Nat.le_of_ble_eq_true rfl, Nat.le_of_ble_eq_true rfl⟩ ?_
    refine WP_getfield (ci := 10) (j := 48) (n := 49) (t := 2) (x := 211) dX10_tells_20 f_X10_101 k_183 rfl rfl ?_
    refine WP_bipush dX10_tells_23 (by decide +kernel) (by decide) ?_
    refine WP_iload_n dX10_tells_25 rfl rfl ?_
    obtain ⟨g4, h⟩ := h
    refine WP_imul dX10_tells_26 g4 ?_
    refine WP_iload_n dX10_tells_27 rfl rfl ?_
    obtain ⟨g5, h⟩ := h
    refine WP_iadd dX10_tells_28 g5 ?_
    obtain ⟨g6, h⟩ := h
    refine WP_laload (n := 160) dX10_tells_29 k_211 g6 ?_
    refine WQ_invVi (v := (2, 183)) (as := [(1, μ 211 ((40 * x1) + x2))]) dX10_tells_30 l_X10_363 mw_X10_whyNot mi_X10_whyNot ms_X10_whyNot mo_X10_whyNot (rcv (ci := 10) (n := 49) (r := (RX10, TX10, 49)) k_183 rfl rfl) (Nat.le_of_ble_eq_true rfl) h rfl (fun r7 μ8 h => ?_)
    refine WQ_put (ci := 10) (j := 38) (n := 49) dX10_tells_33 f_X10_360 k_183 rfl (fun μ9 eμ9 => ?_)
    replace h := h μ9 eμ9
    refine WP_aload_n dX10_tells_36 rfl rfl ⟨Nat.le_of_ble_eq_true rfl, Nat.le_of_ble_eq_true rfl⟩ ?_
    refine WP_getfield (ci := 10) (j := 38) (n := 49) (t := 0) (x := μ9 183 38) dX10_tells_37 f_X10_360 k_183 rfl rfl ?_
    refine WQ_ifeq (tgt := 45) dX10_tells_40 (by decide) (fun c10 => ?_) (fun c10 => ?_)
    · replace h := h.1 c10
      refine WP_aload_n dX10_tells_45 rfl rfl ⟨Nat.le_of_ble_eq_true rfl, Nat.le_of_ble_eq_true rfl⟩ ?_
      refine WP_aload_n dX10_tells_46 rfl rfl ⟨Nat.le_of_ble_eq_true rfl, Nat.le_of_ble_eq_true rfl⟩ ?_
      refine WP_getfield (ci := 10) (j := 48) (n := 49) (t := 2) (x := 211) dX10_tells_47 f_X10_101 k_183 rfl rfl ?_
      refine WP_bipush dX10_tells_50 (by decide +kernel) (by decide) ?_
      refine WP_iload_n dX10_tells_52 rfl rfl ?_
      obtain ⟨g11, h⟩ := h
      refine WP_imul dX10_tells_53 g11 ?_
      refine WP_iload_n dX10_tells_54 rfl rfl ?_
      obtain ⟨g12, h⟩ := h
      refine WP_iadd dX10_tells_55 g12 ?_
      obtain ⟨g13, h⟩ := h
      refine WP_laload (n := 160) dX10_tells_56 k_211 g13 ?_
      refine WP_l2i dX10_tells_57 ?_
      refine WQ_invVv (v := (2, 183)) (as := [(0, w32 (μ9 211 ((40 * x1) + x2)))]) dX10_tells_58 l_X10_367 mw_X10_does mi_X10_does ms_X10_does mo_X10_does (rcv (ci := 10) (n := 49) (r := (RX10, TX10, 49)) k_183 rfl rfl) (Nat.le_of_ble_eq_true rfl) h rfl (fun μ15 h => ?_)
      obtain ⟨g16, h⟩ := h
      refine WQ_iinc dX10_tells_61 rfl (by decide) g16 (fun v17 e17 => ?_)
      refine WP_same (L' := [(2, 183), (0, x1), (0, v17)]) rfl ?_
      replace h := h v17 e17
      refine WP_goto (tgt := 7) dX10_tells_64 (by decide) ?_
      exact h
    · replace h := h.2 c10
      refine WP_iload_n dX10_tells_43 rfl rfl ?_
      exact WQ_ireturn dX10_tells_44 rfl h

theorem s_X10_tellsOne_0 {d : Nat} {sc : SC} {Q : Mem → Prop} {μ : Mem} {a1 a2 a3 : Int}
    (h : (-2147483648 ≤ 4 * (μ 184 31) ∧ 4 * (μ 184 31) < 2147483648) ∧ (-2147483648 ≤ 32 + (4 * (μ 184 31)) ∧ 32 + (4 * (μ 184 31)) < 2147483648) ∧ (∀ v4 : Int, v4 = 32 + (4 * (μ 184 31)) → (0 ≤ v4 ∧ v4 < 4119) ∧ (∀ μ6, μ6 = mup μ 184 v4 a1 → (-2147483648 ≤ v4 + 1 ∧ v4 + 1 < 2147483648) ∧ (0 ≤ v4 + 1 ∧ v4 + 1 < 4119) ∧ (∀ μ9, μ9 = mup μ6 184 (v4 + 1) a2 → (-2147483648 ≤ v4 + 2 ∧ v4 + 2 < 2147483648) ∧ (0 ≤ v4 + 2 ∧ v4 + 2 < 4119) ∧ (∀ μ12, μ12 = mup μ9 184 (v4 + 2) a3 → (-2147483648 ≤ v4 + 3 ∧ v4 + 3 < 2147483648) ∧ (0 ≤ v4 + 3 ∧ v4 + 3 < 4119) ∧ (∀ μ15, μ15 = mup μ12 184 (v4 + 3) 10 → (-2147483648 ≤ (μ15 184 31) + 1 ∧ (μ15 184 31) + 1 < 2147483648) ∧ (∀ μ19, μ19 = mup μ15 184 31 ((μ15 184 31) + 1) → Q μ19))))))) :
    WQ mX10_tellsOne d sc (ZV sc Q) 0 [(2, 183), (0, a1), (0, a2), (0, a3), (9, 0)] [] μ := by
  refine WP_bipush dX10_tellsOne_0 (by decide +kernel) (by decide) ?_
  refine WP_iconst dX10_tellsOne_2 (by decide) ?_
  refine WP_aload_n dX10_tellsOne_3 rfl rfl ⟨Nat.le_of_ble_eq_true rfl, Nat.le_of_ble_eq_true rfl⟩ ?_
  refine WP_getfield (ci := 10) (j := 1) (n := 49) (t := 2) (x := 184) dX10_tellsOne_4 f_X10_13 k_183 rfl rfl ?_
  refine WP_bipush dX10_tellsOne_7 (by decide +kernel) (by decide) ?_
  refine WP_iaload (n := 4119) dX10_tellsOne_9 k_184 ⟨by decide, by decide⟩ ?_
  obtain ⟨g2, h⟩ := h
  refine WP_imul dX10_tellsOne_10 g2 ?_
  obtain ⟨g3, h⟩ := h
  refine WP_iadd dX10_tellsOne_11 g3 ?_
  refine WQ_nm0 (fun v4 e4 => ?_)
  replace h := h v4 e4
  refine WP_istore (L' := [(2, 183), (0, a1), (0, a2), (0, a3), (0, v4)]) dX10_tellsOne_12 (by decide) rfl ?_
  refine WP_aload_n dX10_tellsOne_14 rfl rfl ⟨Nat.le_of_ble_eq_true rfl, Nat.le_of_ble_eq_true rfl⟩ ?_
  refine WP_getfield (ci := 10) (j := 1) (n := 49) (t := 2) (x := 184) dX10_tellsOne_15 f_X10_13 k_183 rfl rfl ?_
  refine WP_iload dX10_tellsOne_18 rfl ?_
  refine WP_iload_n dX10_tellsOne_20 rfl rfl ?_
  obtain ⟨g5, h⟩ := h
  refine WQ_iast (n := 4119) dX10_tellsOne_21 k_184 g5 (fun μ6 eμ6 => ?_)
  replace h := h μ6 eμ6
  refine WP_aload_n dX10_tellsOne_22 rfl rfl ⟨Nat.le_of_ble_eq_true rfl, Nat.le_of_ble_eq_true rfl⟩ ?_
  refine WP_getfield (ci := 10) (j := 1) (n := 49) (t := 2) (x := 184) dX10_tellsOne_23 f_X10_13 k_183 rfl rfl ?_
  refine WP_iload dX10_tellsOne_26 rfl ?_
  refine WP_iconst dX10_tellsOne_28 (by decide) ?_
  obtain ⟨g7, h⟩ := h
  refine WP_iadd dX10_tellsOne_29 g7 ?_
  refine WP_iload_n dX10_tellsOne_30 rfl rfl ?_
  obtain ⟨g8, h⟩ := h
  refine WQ_iast (n := 4119) dX10_tellsOne_31 k_184 g8 (fun μ9 eμ9 => ?_)
  replace h := h μ9 eμ9
  refine WP_aload_n dX10_tellsOne_32 rfl rfl ⟨Nat.le_of_ble_eq_true rfl, Nat.le_of_ble_eq_true rfl⟩ ?_
  refine WP_getfield (ci := 10) (j := 1) (n := 49) (t := 2) (x := 184) dX10_tellsOne_33 f_X10_13 k_183 rfl rfl ?_
  refine WP_iload dX10_tellsOne_36 rfl ?_
  refine WP_iconst dX10_tellsOne_38 (by decide) ?_
  obtain ⟨g10, h⟩ := h
  refine WP_iadd dX10_tellsOne_39 g10 ?_
  refine WP_iload_n dX10_tellsOne_40 rfl rfl ?_
  obtain ⟨g11, h⟩ := h
  refine WQ_iast (n := 4119) dX10_tellsOne_41 k_184 g11 (fun μ12 eμ12 => ?_)
  replace h := h μ12 eμ12
  refine WP_aload_n dX10_tellsOne_42 rfl rfl ⟨Nat.le_of_ble_eq_true rfl, Nat.le_of_ble_eq_true rfl⟩ ?_
  refine WP_getfield (ci := 10) (j := 1) (n := 49) (t := 2) (x := 184) dX10_tellsOne_43 f_X10_13 k_183 rfl rfl ?_
  refine WP_iload dX10_tellsOne_46 rfl ?_
  refine WP_iconst dX10_tellsOne_48 (by decide) ?_
  obtain ⟨g13, h⟩ := h
  refine WP_iadd dX10_tellsOne_49 g13 ?_
  refine WP_bipush dX10_tellsOne_50 (by decide +kernel) (by decide) ?_
  obtain ⟨g14, h⟩ := h
  refine WQ_iast (n := 4119) dX10_tellsOne_52 k_184 g14 (fun μ15 eμ15 => ?_)
  replace h := h μ15 eμ15
  refine WP_aload_n dX10_tellsOne_53 rfl rfl ⟨Nat.le_of_ble_eq_true rfl, Nat.le_of_ble_eq_true rfl⟩ ?_
  refine WP_getfield (ci := 10) (j := 1) (n := 49) (t := 2) (x := 184) dX10_tellsOne_54 f_X10_13 k_183 rfl rfl ?_
  refine WP_bipush dX10_tellsOne_57 (by decide +kernel) (by decide) ?_
  refine WP_dup2 dX10_tellsOne_59 (by simp) (by simp) ?_
  refine WP_iaload (n := 4119) dX10_tellsOne_60 k_184 ⟨by decide, by decide⟩ ?_
  refine WP_iconst dX10_tellsOne_61 (by decide) ?_
  obtain ⟨g17, h⟩ := h
  refine WP_iadd dX10_tellsOne_62 g17 ?_
  refine WQ_iast (n := 4119) dX10_tellsOne_63 k_184 ⟨by decide, by decide⟩ (fun μ19 eμ19 => ?_)
  replace h := h μ19 eμ19
  exact WQ_return dX10_tellsOne_64 rfl h

theorem s_X10_tellsToo_0 {d : Nat} {sc : SC} {Q : Mem → Prop} {μ : Mem} {a1 a2 a3 : Int}
    (h : (0 ≤ μ 183 34 ∧ μ 183 34 < 10) ∧ (∀ μ2, μ2 = mup μ 191 (μ 183 34) a1 → (0 ≤ μ2 183 34 ∧ μ2 183 34 < 10) ∧ (∀ μ4, μ4 = mup μ2 192 (μ2 183 34) a2 → (0 ≤ μ4 183 34 ∧ μ4 183 34 < 10) ∧ (∀ μ6, μ6 = mup μ4 193 (μ4 183 34) a3 → (-2147483648 ≤ (μ6 183 34) + 1 ∧ (μ6 183 34) + 1 < 2147483648) ∧ (∀ μ8, μ8 = mup μ6 183 34 ((μ6 183 34) + 1) → Q μ8))))) :
    WQ mX10_tellsToo d sc (ZV sc Q) 0 [(2, 183), (0, a1), (0, a2), (0, a3)] [] μ := by
  refine WP_aload_n dX10_tellsToo_0 rfl rfl ⟨Nat.le_of_ble_eq_true rfl, Nat.le_of_ble_eq_true rfl⟩ ?_
  refine WP_getfield (ci := 10) (j := 20) (n := 49) (t := 2) (x := 191) dX10_tellsToo_1 f_X10_40 k_183 rfl rfl ?_
  refine WP_aload_n dX10_tellsToo_4 rfl rfl ⟨Nat.le_of_ble_eq_true rfl, Nat.le_of_ble_eq_true rfl⟩ ?_
  refine WP_getfield (ci := 10) (j := 34) (n := 49) (t := 0) (x := μ 183 34) dX10_tellsToo_5 f_X10_273 k_183 rfl rfl ?_
  refine WP_iload_n dX10_tellsToo_8 rfl rfl ?_
  obtain ⟨g1, h⟩ := h
  refine WQ_iast (n := 10) dX10_tellsToo_9 k_191 g1 (fun μ2 eμ2 => ?_)
  replace h := h μ2 eμ2
  refine WP_aload_n dX10_tellsToo_10 rfl rfl ⟨Nat.le_of_ble_eq_true rfl, Nat.le_of_ble_eq_true rfl⟩ ?_
  refine WP_getfield (ci := 10) (j := 21) (n := 49) (t := 2) (x := 192) dX10_tellsToo_11 f_X10_43 k_183 rfl rfl ?_
  refine WP_aload_n dX10_tellsToo_14 rfl rfl ⟨Nat.le_of_ble_eq_true rfl, Nat.le_of_ble_eq_true rfl⟩ ?_
  refine WP_getfield (ci := 10) (j := 34) (n := 49) (t := 0) (x := μ2 183 34) dX10_tellsToo_15 f_X10_273 k_183 rfl rfl ?_
  refine WP_iload_n dX10_tellsToo_18 rfl rfl ?_
  obtain ⟨g3, h⟩ := h
  refine WQ_iast (n := 10) dX10_tellsToo_19 k_192 g3 (fun μ4 eμ4 => ?_)
  replace h := h μ4 eμ4
  refine WP_aload_n dX10_tellsToo_20 rfl rfl ⟨Nat.le_of_ble_eq_true rfl, Nat.le_of_ble_eq_true rfl⟩ ?_
  refine WP_getfield (ci := 10) (j := 22) (n := 49) (t := 2) (x := 193) dX10_tellsToo_21 f_X10_46 k_183 rfl rfl ?_
  refine WP_aload_n dX10_tellsToo_24 rfl rfl ⟨Nat.le_of_ble_eq_true rfl, Nat.le_of_ble_eq_true rfl⟩ ?_
  refine WP_getfield (ci := 10) (j := 34) (n := 49) (t := 0) (x := μ4 183 34) dX10_tellsToo_25 f_X10_273 k_183 rfl rfl ?_
  refine WP_iload_n dX10_tellsToo_28 rfl rfl ?_
  obtain ⟨g5, h⟩ := h
  refine WQ_iast (n := 10) dX10_tellsToo_29 k_193 g5 (fun μ6 eμ6 => ?_)
  replace h := h μ6 eμ6
  refine WP_aload_n dX10_tellsToo_30 rfl rfl ⟨Nat.le_of_ble_eq_true rfl, Nat.le_of_ble_eq_true rfl⟩ ?_
  refine WP_dup dX10_tellsToo_31 (by simp) ?_
  refine WP_getfield (ci := 10) (j := 34) (n := 49) (t := 0) (x := μ6 183 34) dX10_tellsToo_32 f_X10_273 k_183 rfl rfl ?_
  refine WP_iconst dX10_tellsToo_35 (by decide) ?_
  obtain ⟨g7, h⟩ := h
  refine WP_iadd dX10_tellsToo_36 g7 ?_
  refine WQ_put (ci := 10) (j := 34) (n := 49) dX10_tellsToo_37 f_X10_273 k_183 rfl (fun μ8 eμ8 => ?_)
  replace h := h μ8 eμ8
  exact WQ_return dX10_tellsToo_40 rfl h

theorem s_X10_undo_0 {d : Nat} {sc : SC} {Q : Int → Mem → Prop} {μ : Mem} {a1 : Int}
    (h : ∀ μ1, μ1 = mup μ 183 0 0 → CAi mX10_within d sc [(1, a1), (1, 1), (1, 10)] μ1 (fun r2 μ3 => (r2 = 0 → Q (-3) μ3) ∧ (r2 ≠ 0 → (a1 ≤ μ3 184 71 → (-2147483648 ≤ (μ3 184 71) - a1 ∧ (μ3 184 71) - a1 < 2147483648) ∧ (∀ μ10, μ10 = mup μ3 184 71 ((μ3 184 71) - a1) → WQ mX10_undo d sc (ZI sc Q) 44 [(2, 183), (9, 0), (0, 0)] [] μ10)) ∧ (μ3 184 71 < a1 → Q (-3) μ3)))) :
    WQ mX10_undo d sc (ZI sc Q) 0 [(2, 183), (0, a1), (9, 0)] [] μ := by
  refine WP_aload_n dX10_undo_0 rfl rfl ⟨Nat.le_of_ble_eq_true rfl, Nat.le_of_ble_eq_true rfl⟩ ?_
  refine WP_iconst dX10_undo_1 (by decide) ?_
  refine WQ_put (ci := 10) (j := 0) (n := 49) dX10_undo_2 f_X10_1 k_183 rfl (fun μ1 eμ1 => ?_)
  replace h := h μ1 eμ1
  refine WP_iload_n dX10_undo_5 rfl rfl ?_
  refine WP_i2l dX10_undo_6 ?_
  refine WP_lconst dX10_undo_7 rfl ?_
  refine WP_ldc2 dX10_undo_8 c_X10_340 (by decide) ?_
  refine WQ_invSi (as := [(1, a1), (1, 1), (1, 10)]) dX10_undo_11 l_X10_170 mw_X10_within mt_X10_within mo_X10_within (Nat.le_of_ble_eq_true rfl) h rfl (fun r2 μ3 h => ?_)
  refine WQ_ifeq (tgt := 28) dX10_undo_14 (by decide) (fun c4 => ?_) (fun c4 => ?_)
  · replace h := h.1 c4
    refine WP_bipush dX10_undo_28 (by decide +kernel) (by decide) ?_
    exact WQ_ireturn dX10_undo_30 rfl h
  · replace h := h.2 c4
    refine WP_iload_n dX10_undo_17 rfl rfl ?_
    refine WP_aload_n dX10_undo_18 rfl rfl ⟨Nat.le_of_ble_eq_true rfl, Nat.le_of_ble_eq_true rfl⟩ ?_
    refine WP_getfield (ci := 10) (j := 1) (n := 49) (t := 2) (x := 184) dX10_undo_19 f_X10_13 k_183 rfl rfl ?_
    refine WP_bipush dX10_undo_22 (by decide +kernel) (by decide) ?_
    refine WP_iaload (n := 4119) dX10_undo_24 k_184 ⟨by decide, by decide⟩ ?_
    refine WQ_icmp_le (tgt := 31) dX10_undo_25 (by decide) (fun c6 => ?_) (fun c6 => ?_)
    · replace h := h.1 c6
      refine WP_aload_n dX10_undo_31 rfl rfl ⟨Nat.le_of_ble_eq_true rfl, Nat.le_of_ble_eq_true rfl⟩ ?_
      refine WP_getfield (ci := 10) (j := 1) (n := 49) (t := 2) (x := 184) dX10_undo_32 f_X10_13 k_183 rfl rfl ?_
      refine WP_bipush dX10_undo_35 (by decide +kernel) (by decide) ?_
      refine WP_dup2 dX10_undo_37 (by simp) (by simp) ?_
      refine WP_iaload (n := 4119) dX10_undo_38 k_184 ⟨by decide, by decide⟩ ?_
      refine WP_iload_n dX10_undo_39 rfl rfl ?_
      obtain ⟨g8, h⟩ := h
      refine WP_isub dX10_undo_40 g8 ?_
      refine WQ_iast (n := 4119) dX10_undo_41 k_184 ⟨by decide, by decide⟩ (fun μ10 eμ10 => ?_)
      replace h := h μ10 eμ10
      refine WP_iconst dX10_undo_42 (by decide) ?_
      refine WP_istore_n (L' := [(2, 183), (0, a1), (0, 0)]) dX10_undo_43 rfl (by decide) rfl ?_
      refine WP_lforget (L' := [(2, 183), (9, 0), (0, 0)]) rfl (fun i hi => ?_) h
      match i, hi with
      | 0, _ => exact Or.inl rfl
      | 1, _ => exact Or.inr rfl
      | 2, _ => exact Or.inl rfl
      | i + 3, hi => exact absurd hi (by simp only [List.length_cons, List.length_nil]; omega)
    · replace h := h.2 c6
      refine WP_bipush dX10_undo_28 (by decide +kernel) (by decide) ?_
      exact WQ_ireturn dX10_undo_30 rfl h

theorem s_X10_undo_44 {d : Nat} {sc : SC} {Q : Int → Mem → Prop} {μ : Mem} {x2 : Int}
    (h : (40 ≤ x2 → Q (μ 184 71) μ) ∧ (x2 < 40 → (-2147483648 ≤ 31 + x2 ∧ 31 + x2 < 2147483648) ∧ (-2147483648 ≤ 40 * (μ 184 71) ∧ 40 * (μ 184 71) < 2147483648) ∧ (-2147483648 ≤ 72 + (40 * (μ 184 71)) ∧ 72 + (40 * (μ 184 71)) < 2147483648) ∧ (-2147483648 ≤ (72 + (40 * (μ 184 71))) + x2 ∧ (72 + (40 * (μ 184 71))) + x2 < 2147483648) ∧ (0 ≤ (72 + (40 * (μ 184 71))) + x2 ∧ (72 + (40 * (μ 184 71))) + x2 < 4119) ∧ (0 ≤ 31 + x2 ∧ 31 + x2 < 4119) ∧ (∀ μ10, μ10 = mup μ 184 (31 + x2) (μ 184 ((72 + (40 * (μ 184 71))) + x2)) → (-2147483648 ≤ x2 + 1 ∧ x2 + 1 < 2147483648) ∧ ∀ v12 : Int, v12 = x2 + 1 → WQ mX10_undo d sc (ZI sc Q) 44 [(2, 183), (9, 0), (0, v12)] [] μ10))) :
    WQ mX10_undo d sc (ZI sc Q) 44 [(2, 183), (9, 0), (0, x2)] [] μ := by
  refine WP_iload_n dX10_undo_44 rfl rfl ?_
  refine WP_bipush dX10_undo_45 (by decide +kernel) (by decide) ?_
  refine WQ_icmp_ge (tgt := 85) dX10_undo_47 (by decide) (fun c1 => ?_) (fun c1 => ?_)
  · replace h := h.1 c1
    refine WP_aload_n dX10_undo_85 rfl rfl ⟨Nat.le_of_ble_eq_true rfl, Nat.le_of_ble_eq_true rfl⟩ ?_
    refine WP_getfield (ci := 10) (j := 1) (n := 49) (t := 2) (x := 184) dX10_undo_86 f_X10_13 k_183 rfl rfl ?_
    refine WP_bipush dX10_undo_89 (by decide +kernel) (by decide) ?_
    refine WP_iaload (n := 4119) dX10_undo_91 k_184 ⟨by decide, by decide⟩ ?_
    exact WQ_ireturn dX10_undo_92 rfl h
  · replace h := h.2 c1
    refine WP_aload_n dX10_undo_50 rfl rfl ⟨Nat.le_of_ble_eq_true rfl, Nat.le_of_ble_eq_true rfl⟩ ?_
    refine WP_getfield (ci := 10) (j := 1) (n := 49) (t := 2) (x := 184) dX10_undo_51 f_X10_13 k_183 rfl rfl ?_
    refine WP_bipush dX10_undo_54 (by decide +kernel) (by decide) ?_
    refine WP_iload_n dX10_undo_56 rfl rfl ?_
    obtain ⟨g3, h⟩ := h
    refine WP_iadd dX10_undo_57 g3 ?_
    refine WP_aload_n dX10_undo_58 rfl rfl ⟨Nat.le_of_ble_eq_true rfl, Nat.le_of_ble_eq_true rfl⟩ ?_
    refine WP_getfield (ci := 10) (j := 1) (n := 49) (t := 2) (x := 184) dX10_undo_59 f_X10_13 k_183 rfl rfl ?_
    refine WP_bipush dX10_undo_62 (by decide +kernel) (by decide) ?_
    refine WP_bipush dX10_undo_64 (by decide +kernel) (by decide) ?_
    refine WP_aload_n dX10_undo_66 rfl rfl ⟨Nat.le_of_ble_eq_true rfl, Nat.le_of_ble_eq_true rfl⟩ ?_
    refine WP_getfield (ci := 10) (j := 1) (n := 49) (t := 2) (x := 184) dX10_undo_67 f_X10_13 k_183 rfl rfl ?_
    refine WP_bipush dX10_undo_70 (by decide +kernel) (by decide) ?_
    refine WP_iaload (n := 4119) dX10_undo_72 k_184 ⟨by decide, by decide⟩ ?_
    obtain ⟨g5, h⟩ := h
    refine WP_imul dX10_undo_73 g5 ?_
    obtain ⟨g6, h⟩ := h
    refine WP_iadd dX10_undo_74 g6 ?_
    refine WP_iload_n dX10_undo_75 rfl rfl ?_
    obtain ⟨g7, h⟩ := h
    refine WP_iadd dX10_undo_76 g7 ?_
    obtain ⟨g8, h⟩ := h
    refine WP_iaload (n := 4119) dX10_undo_77 k_184 g8 ?_
    obtain ⟨g9, h⟩ := h
    refine WQ_iast (n := 4119) dX10_undo_78 k_184 g9 (fun μ10 eμ10 => ?_)
    replace h := h μ10 eμ10
    obtain ⟨g11, h⟩ := h
    refine WQ_iinc dX10_undo_79 rfl (by decide) g11 (fun v12 e12 => ?_)
    refine WP_same (L' := [(2, 183), (9, 0), (0, v12)]) rfl ?_
    replace h := h v12 e12
    refine WP_goto (tgt := 44) dX10_undo_82 (by decide) ?_
    exact h

theorem s_X10_week_0 {d : Nat} {sc : SC} {Q : Int → Mem → Prop} {μ : Mem} {a1 a2 : Int}
    (h : ∀ μ1, μ1 = mup μ 183 0 0 → CAi mX10_within d sc [(1, a2), (1, 1), (1, 40)] μ1 (fun r2 μ3 => (r2 ≠ 0 → CAv mX10_stores d sc [(2, 183)] μ3 (fun μ6 => ∀ μ7, μ7 = mup μ6 183 39 a1 → WQ mX10_week d sc (ZI sc Q) 34 [(2, 183), (9, 0), (0, a2), (0, 0), (0, 0), (9, 0)] [] μ7)) ∧ (r2 = 0 → Q (-3) μ3))) :
    WQ mX10_week d sc (ZI sc Q) 0 [(2, 183), (0, a1), (0, a2), (9, 0), (9, 0), (9, 0)] [] μ := by
  refine WP_aload_n dX10_week_0 rfl rfl ⟨Nat.le_of_ble_eq_true rfl, Nat.le_of_ble_eq_true rfl⟩ ?_
  refine WP_iconst dX10_week_1 (by decide) ?_
  refine WQ_put (ci := 10) (j := 0) (n := 49) dX10_week_2 f_X10_1 k_183 rfl (fun μ1 eμ1 => ?_)
  replace h := h μ1 eμ1
  refine WP_iload_n dX10_week_5 rfl rfl ?_
  refine WP_i2l dX10_week_6 ?_
  refine WP_lconst dX10_week_7 rfl ?_
  refine WP_ldc2 dX10_week_8 c_X10_391 (by decide) ?_
  refine WQ_invSi (as := [(1, a2), (1, 1), (1, 40)]) dX10_week_11 l_X10_170 mw_X10_within mt_X10_within mo_X10_within (Nat.le_of_ble_eq_true rfl) h rfl (fun r2 μ3 h => ?_)
  refine WQ_ifne (tgt := 20) dX10_week_14 (by decide) (fun c4 => ?_) (fun c4 => ?_)
  · replace h := h.1 c4
    refine WP_aload_n dX10_week_20 rfl rfl ⟨Nat.le_of_ble_eq_true rfl, Nat.le_of_ble_eq_true rfl⟩ ?_
    refine WQ_invVv (v := (2, 183)) (as := []) dX10_week_21 l_X10_320 mw_X10_stores mi_X10_stores ms_X10_stores mo_X10_stores (rcv (ci := 10) (n := 49) (r := (RX10, TX10, 49)) k_183 rfl rfl) (Nat.le_of_ble_eq_true rfl) h rfl (fun μ6 h => ?_)
    refine WP_aload_n dX10_week_24 rfl rfl ⟨Nat.le_of_ble_eq_true rfl, Nat.le_of_ble_eq_true rfl⟩ ?_
    refine WP_iload_n dX10_week_25 rfl rfl ?_
    refine WQ_put (ci := 10) (j := 39) (n := 49) dX10_week_26 f_X10_385 k_183 rfl (fun μ7 eμ7 => ?_)
    replace h := h μ7 eμ7
    refine WP_iconst dX10_week_29 (by decide) ?_
    refine WP_istore_n (L' := [(2, 183), (0, a1), (0, a2), (0, 0), (9, 0), (9, 0)]) dX10_week_30 rfl (by decide) rfl ?_
    refine WP_iconst dX10_week_31 (by decide) ?_
    refine WP_istore (L' := [(2, 183), (0, a1), (0, a2), (0, 0), (0, 0), (9, 0)]) dX10_week_32 (by decide) rfl ?_
    refine WP_lforget (L' := [(2, 183), (9, 0), (0, a2), (0, 0), (0, 0), (9, 0)]) rfl (fun i hi => ?_) h
    match i, hi with
    | 0, _ => exact Or.inl rfl
    | 1, _ => exact Or.inr rfl
    | 2, _ => exact Or.inl rfl
    | 3, _ => exact Or.inl rfl
    | 4, _ => exact Or.inl rfl
    | 5, _ => exact Or.inl rfl
    | i + 6, hi => exact absurd hi (by simp only [List.length_cons, List.length_nil]; omega)
  · replace h := h.2 c4
    refine WP_bipush dX10_week_17 (by decide +kernel) (by decide) ?_
    exact WQ_ireturn dX10_week_19 rfl h

theorem s_X10_week_34 {d : Nat} {sc : SC} {Q : Int → Mem → Prop} {μ : Mem} {x2 x3 x4 : Int}
    (h : (x2 ≤ x4 → (x3 ≤ 0 → Q x3 μ) ∧ (0 < x3 → CAv mX10_notes d sc [(2, 183)] μ (fun μ4 => Q x3 μ4))) ∧ (x4 < x2 → CAi mX10_drawn d sc [(2, 183)] μ (fun r5 μ6 => CAi mX10_whyNot d sc [(2, 183), (1, r5)] μ6 (fun r7 μ8 => (r7 = 0 → CAv mX10_does d sc [(2, 183), (0, r5)] μ8 (fun μ11 => (-2147483648 ≤ x3 + 1 ∧ x3 + 1 < 2147483648) ∧ ∀ v13 : Int, v13 = x3 + 1 → (-2147483648 ≤ x4 + 1 ∧ x4 + 1 < 2147483648) ∧ ∀ v15 : Int, v15 = x4 + 1 → WQ mX10_week d sc (ZI sc Q) 34 [(2, 183), (9, 0), (0, x2), (0, v13), (0, v15), (9, 0)] [] μ11)) ∧ (r7 ≠ 0 → (-2147483648 ≤ x4 + 1 ∧ x4 + 1 < 2147483648) ∧ ∀ v17 : Int, v17 = x4 + 1 → WQ mX10_week d sc (ZI sc Q) 34 [(2, 183), (9, 0), (0, x2), (0, x3), (0, v17), (9, 0)] [] μ8))))) :
    WQ mX10_week d sc (ZI sc Q) 34 [(2, 183), (9, 0), (0, x2), (0, x3), (0, x4), (9, 0)] [] μ := by
  refine WP_iload dX10_week_34 rfl ?_
  refine WP_iload_n dX10_week_36 rfl rfl ?_
  refine WQ_icmp_ge (tgt := 74) dX10_week_37 (by decide) (fun c1 => ?_) (fun c1 => ?_)
  · replace h := h.1 c1
    refine WP_iload_n dX10_week_74 rfl rfl ?_
    refine WQ_ifle (tgt := 82) dX10_week_75 (by decide) (fun c2 => ?_) (fun c2 => ?_)
    · replace h := h.1 c2
      refine WP_iload_n dX10_week_82 rfl rfl ?_
      exact WQ_ireturn dX10_week_83 rfl h
    · replace h := h.2 c2
      refine WP_aload_n dX10_week_78 rfl rfl ⟨Nat.le_of_ble_eq_true rfl, Nat.le_of_ble_eq_true rfl⟩ ?_
      refine WQ_invVv (v := (2, 183)) (as := []) dX10_week_79 l_X10_326 mw_X10_notes mi_X10_notes ms_X10_notes mo_X10_notes (rcv (ci := 10) (n := 49) (r := (RX10, TX10, 49)) k_183 rfl rfl) (Nat.le_of_ble_eq_true rfl) h rfl (fun μ4 h => ?_)
      refine WP_iload_n dX10_week_82 rfl rfl ?_
      exact WQ_ireturn dX10_week_83 rfl h
  · replace h := h.2 c1
    refine WP_aload_n dX10_week_40 rfl rfl ⟨Nat.le_of_ble_eq_true rfl, Nat.le_of_ble_eq_true rfl⟩ ?_
    refine WQ_invVi (v := (2, 183)) (as := []) dX10_week_41 l_X10_393 mw_X10_drawn mi_X10_drawn ms_X10_drawn mo_X10_drawn (rcv (ci := 10) (n := 49) (r := (RX10, TX10, 49)) k_183 rfl rfl) (Nat.le_of_ble_eq_true rfl) h rfl (fun r5 μ6 h => ?_)
    refine WP_istore (L' := [(2, 183), (9, 0), (0, x2), (0, x3), (0, x4), (0, r5)]) dX10_week_44 (by decide) rfl ?_
    refine WP_aload_n dX10_week_46 rfl rfl ⟨Nat.le_of_ble_eq_true rfl, Nat.le_of_ble_eq_true rfl⟩ ?_
    refine WP_iload dX10_week_47 rfl ?_
    refine WP_i2l dX10_week_49 ?_
    refine WQ_invVi (v := (2, 183)) (as := [(1, r5)]) dX10_week_50 l_X10_363 mw_X10_whyNot mi_X10_whyNot ms_X10_whyNot mo_X10_whyNot (rcv (ci := 10) (n := 49) (r := (RX10, TX10, 49)) k_183 rfl rfl) (Nat.le_of_ble_eq_true rfl) h rfl (fun r7 μ8 h => ?_)
    refine WQ_ifeq (tgt := 59) dX10_week_53 (by decide) (fun c9 => ?_) (fun c9 => ?_)
    · replace h := h.1 c9
      refine WP_aload_n dX10_week_59 rfl rfl ⟨Nat.le_of_ble_eq_true rfl, Nat.le_of_ble_eq_true rfl⟩ ?_
      refine WP_iload dX10_week_60 rfl ?_
      refine WQ_invVv (v := (2, 183)) (as := [(0, r5)]) dX10_week_62 l_X10_367 mw_X10_does mi_X10_does ms_X10_does mo_X10_does (rcv (ci := 10) (n := 49) (r := (RX10, TX10, 49)) k_183 rfl rfl) (Nat.le_of_ble_eq_true rfl) h rfl (fun μ11 h => ?_)
      obtain ⟨g12, h⟩ := h
      refine WQ_iinc dX10_week_65 rfl (by decide) g12 (fun v13 e13 => ?_)
      refine WP_same (L' := [(2, 183), (9, 0), (0, x2), (0, v13), (0, x4), (0, r5)]) rfl ?_
      replace h := h v13 e13
      obtain ⟨g14, h⟩ := h
      refine WQ_iinc dX10_week_68 rfl (by decide) g14 (fun v15 e15 => ?_)
      refine WP_same (L' := [(2, 183), (9, 0), (0, x2), (0, v13), (0, v15), (0, r5)]) rfl ?_
      replace h := h v15 e15
      refine WP_goto (tgt := 34) dX10_week_71 (by decide) ?_
      refine WP_lforget (L' := [(2, 183), (9, 0), (0, x2), (0, v13), (0, v15), (9, 0)]) rfl (fun i hi => ?_) h
      match i, hi with
      | 0, _ => exact Or.inl rfl
      | 1, _ => exact Or.inl rfl
      | 2, _ => exact Or.inl rfl
      | 3, _ => exact Or.inl rfl
      | 4, _ => exact Or.inl rfl
      | 5, _ => exact Or.inr rfl
      | i + 6, hi => exact absurd hi (by simp only [List.length_cons, List.length_nil]; omega)
    · replace h := h.2 c9
      refine WP_goto (tgt := 68) dX10_week_56 (by decide) ?_
      obtain ⟨g16, h⟩ := h
      refine WQ_iinc dX10_week_68 rfl (by decide) g16 (fun v17 e17 => ?_)
      refine WP_same (L' := [(2, 183), (9, 0), (0, x2), (0, x3), (0, v17), (0, r5)]) rfl ?_
      replace h := h v17 e17
      refine WP_goto (tgt := 34) dX10_week_71 (by decide) ?_
      refine WP_lforget (L' := [(2, 183), (9, 0), (0, x2), (0, x3), (0, v17), (9, 0)]) rfl (fun i hi => ?_) h
      match i, hi with
      | 0, _ => exact Or.inl rfl
      | 1, _ => exact Or.inl rfl
      | 2, _ => exact Or.inl rfl
      | 3, _ => exact Or.inl rfl
      | 4, _ => exact Or.inl rfl
      | 5, _ => exact Or.inr rfl
      | i + 6, hi => exact absurd hi (by simp only [List.length_cons, List.length_nil]; omega)

theorem s_X10_who_0 {d : Nat} {sc : SC} {Q : Int → Mem → Prop} {μ : Mem} {a1 a2 a3 : Int}
    (h : ∀ μ1, μ1 = mup μ 183 0 0 → CAi mX10_isPerson d sc [(2, 183), (1, a1)] μ1 (fun r2 μ3 => (r2 ≠ 0 → CAi mX10_within d sc [(1, a2), (1, 1), (1, 20)] μ3 (fun r5 μ6 => (r5 = 0 → Q (-3) μ6) ∧ (r5 ≠ 0 → CAi mX10_within d sc [(1, a3), (1, 0), (1, 9)] μ6 (fun r8 μ9 => (r8 ≠ 0 → WQ mX10_who d sc (ZI sc Q) 50 [(2, 183), (0, a1), (0, a2), (0, a3), (0, 0), (0, 0)] [] μ9) ∧ (r8 = 0 → Q (-3) μ9))))) ∧ (r2 = 0 → Q (-2) μ3))) :
    WQ mX10_who d sc (ZI sc Q) 0 [(2, 183), (0, a1), (0, a2), (0, a3), (9, 0), (9, 0)] [] μ := by
  refine WP_aload_n dX10_who_0 rfl rfl ⟨Nat.le_of_ble_eq_true rfl, Nat.le_of_ble_eq_true rfl⟩ ?_
  refine WP_iconst dX10_who_1 (by decide) ?_
  refine WQ_put (ci := 10) (j := 0) (n := 49) dX10_who_2 f_X10_1 k_183 rfl (fun μ1 eμ1 => ?_)
  replace h := h μ1 eμ1
  refine WP_aload_n dX10_who_5 rfl rfl ⟨Nat.le_of_ble_eq_true rfl, Nat.le_of_ble_eq_true rfl⟩ ?_
  refine WP_iload_n dX10_who_6 rfl rfl ?_
  refine WP_i2l dX10_who_7 ?_
  refine WQ_invVi (v := (2, 183)) (as := [(1, a1)]) dX10_who_8 l_X10_235 mw_X10_isPerson mi_X10_isPerson ms_X10_isPerson mo_X10_isPerson (rcv (ci := 10) (n := 49) (r := (RX10, TX10, 49)) k_183 rfl rfl) (Nat.le_of_ble_eq_true rfl) h rfl (fun r2 μ3 h => ?_)
  refine WQ_ifne (tgt := 17) dX10_who_11 (by decide) (fun c4 => ?_) (fun c4 => ?_)
  · replace h := h.1 c4
    refine WP_iload_n dX10_who_17 rfl rfl ?_
    refine WP_i2l dX10_who_18 ?_
    refine WP_lconst dX10_who_19 rfl ?_
    refine WP_ldc2 dX10_who_20 c_X10_405 (by decide) ?_
    refine WQ_invSi (as := [(1, a2), (1, 1), (1, 20)]) dX10_who_23 l_X10_170 mw_X10_within mt_X10_within mo_X10_within (Nat.le_of_ble_eq_true rfl) h rfl (fun r5 μ6 h => ?_)
    refine WQ_ifeq (tgt := 41) dX10_who_26 (by decide) (fun c7 => ?_) (fun c7 => ?_)
    · replace h := h.1 c7
      refine WP_bipush dX10_who_41 (by decide +kernel) (by decide) ?_
      exact WQ_ireturn dX10_who_43 rfl h
    · replace h := h.2 c7
      refine WP_iload_n dX10_who_29 rfl rfl ?_
      refine WP_i2l dX10_who_30 ?_
      refine WP_lconst dX10_who_31 rfl ?_
      refine WP_ldc2 dX10_who_32 c_X10_338 (by decide) ?_
      refine WQ_invSi (as := [(1, a3), (1, 0), (1, 9)]) dX10_who_35 l_X10_170 mw_X10_within mt_X10_within mo_X10_within (Nat.le_of_ble_eq_true rfl) h rfl (fun r8 μ9 h => ?_)
      refine WQ_ifne (tgt := 44) dX10_who_38 (by decide) (fun c10 => ?_) (fun c10 => ?_)
      · replace h := h.1 c10
        refine WP_iconst dX10_who_44 (by decide) ?_
        refine WP_istore (L' := [(2, 183), (0, a1), (0, a2), (0, a3), (0, 0), (9, 0)]) dX10_who_45 (by decide) rfl ?_
        refine WP_iconst dX10_who_47 (by decide) ?_
        refine WP_istore (L' := [(2, 183), (0, a1), (0, a2), (0, a3), (0, 0), (0, 0)]) dX10_who_48 (by decide) rfl ?_
        exact h
      · replace h := h.2 c10
        refine WP_bipush dX10_who_41 (by decide +kernel) (by decide) ?_
        exact WQ_ireturn dX10_who_43 rfl h
  · replace h := h.2 c4
    refine WP_bipush dX10_who_14 (by decide +kernel) (by decide) ?_
    exact WQ_ireturn dX10_who_16 rfl h

theorem s_X10_who_50 {d : Nat} {sc : SC} {Q : Int → Mem → Prop} {μ : Mem} {x1 x2 x3 x4 x5 : Int}
    (h : (μ 184 3 ≤ x5 → Q x4 μ) ∧ (x5 < μ 184 3 → (x5 = x1 → ∀ v4 : Int, v4 = iOr x4 0 → (-2147483648 ≤ x5 + 1 ∧ x5 + 1 < 2147483648) ∧ ∀ v6 : Int, v6 = x5 + 1 → WQ mX10_who d sc (ZI sc Q) 50 [(2, 183), (0, x1), (0, x2), (0, x3), (0, v4), (0, v6)] [] μ) ∧ (x5 ≠ x1 → CAi mX10_gapOf d sc [(2, 183), (0, x5), (0, x1)] μ (fun r7 μ8 => (r7 ≠ x2 → ∀ v10 : Int, v10 = iOr x4 0 → (-2147483648 ≤ x5 + 1 ∧ x5 + 1 < 2147483648) ∧ ∀ v12 : Int, v12 = x5 + 1 → WQ mX10_who d sc (ZI sc Q) 50 [(2, 183), (0, x1), (0, x2), (0, x3), (0, v10), (0, v12)] [] μ8) ∧ (r7 = x2 → CAi mX10_pitchOf d sc [(2, 183), (0, x5), (0, x1)] μ8 (fun r13 μ14 => (r13 ≠ x3 → ∀ v16 : Int, v16 = iOr x4 0 → (-2147483648 ≤ x5 + 1 ∧ x5 + 1 < 2147483648) ∧ ∀ v18 : Int, v18 = x5 + 1 → WQ mX10_who d sc (ZI sc Q) 50 [(2, 183), (0, x1), (0, x2), (0, x3), (0, v16), (0, v18)] [] μ14) ∧ (r13 = x3 → ∀ v19 : Int, v19 = iOr x4 (iShl 1 x5) → (-2147483648 ≤ x5 + 1 ∧ x5 + 1 < 2147483648) ∧ ∀ v21 : Int, v21 = x5 + 1 → WQ mX10_who d sc (ZI sc Q) 50 [(2, 183), (0, x1), (0, x2), (0, x3), (0, v19), (0, v21)] [] μ14))))))) :
    WQ mX10_who d sc (ZI sc Q) 50 [(2, 183), (0, x1), (0, x2), (0, x3), (0, x4), (0, x5)] [] μ := by
  refine WP_iload dX10_who_50 rfl ?_
  refine WP_aload_n dX10_who_52 rfl rfl ⟨Nat.le_of_ble_eq_true rfl, Nat.le_of_ble_eq_true rfl⟩ ?_
  refine WP_getfield (ci := 10) (j := 1) (n := 49) (t := 2) (x := 184) dX10_who_53 f_X10_13 k_183 rfl rfl ?_
  refine WP_iconst dX10_who_56 (by decide) ?_
  refine WP_iaload (n := 4119) dX10_who_57 k_184 ⟨by decide, by decide⟩ ?_
  refine WQ_icmp_ge (tgt := 108) dX10_who_58 (by decide) (fun c2 => ?_) (fun c2 => ?_)
  · replace h := h.1 c2
    refine WP_iload dX10_who_108 rfl ?_
    exact WQ_ireturn dX10_who_110 rfl h
  · replace h := h.2 c2
    refine WP_iload dX10_who_61 rfl ?_
    refine WP_iload dX10_who_63 rfl ?_
    refine WP_iload_n dX10_who_65 rfl rfl ?_
    refine WQ_icmp_eq (tgt := 98) dX10_who_66 (by decide) (fun c3 => ?_) (fun c3 => ?_)
    · replace h := h.1 c3
      refine WP_iconst dX10_who_98 (by decide) ?_
      refine WP_ior dX10_who_99 ?_
      refine WQ_nm0 (fun v4 e4 => ?_)
      replace h := h v4 e4
      refine WP_istore (L' := [(2, 183), (0, x1), (0, x2), (0, x3), (0, v4), (0, x5)]) dX10_who_100 (by decide) rfl ?_
      obtain ⟨g5, h⟩ := h
      refine WQ_iinc dX10_who_102 rfl (by decide) g5 (fun v6 e6 => ?_)
      refine WP_same (L' := [(2, 183), (0, x1), (0, x2), (0, x3), (0, v4), (0, v6)]) rfl ?_
      replace h := h v6 e6
      refine WP_goto (tgt := 50) dX10_who_105 (by decide) ?_
      exact h
    · replace h := h.2 c3
      refine WP_aload_n dX10_who_69 rfl rfl ⟨Nat.le_of_ble_eq_true rfl, Nat.le_of_ble_eq_true rfl⟩ ?_
      refine WP_iload dX10_who_70 rfl ?_
      refine WP_iload_n dX10_who_72 rfl rfl ?_
      refine WQ_invVi (v := (2, 183)) (as := [(0, x5), (0, x1)]) dX10_who_73 l_X10_263 mw_X10_gapOf mi_X10_gapOf ms_X10_gapOf mo_X10_gapOf (rcv (ci := 10) (n := 49) (r := (RX10, TX10, 49)) k_183 rfl rfl) (Nat.le_of_ble_eq_true rfl) h rfl (fun r7 μ8 h => ?_)
      refine WP_iload_n dX10_who_76 rfl rfl ?_
      refine WQ_icmp_ne (tgt := 98) dX10_who_77 (by decide) (fun c9 => ?_) (fun c9 => ?_)
      · replace h := h.1 c9
        refine WP_iconst dX10_who_98 (by decide) ?_
        refine WP_ior dX10_who_99 ?_
        refine WQ_nm0 (fun v10 e10 => ?_)
        replace h := h v10 e10
        refine WP_istore (L' := [(2, 183), (0, x1), (0, x2), (0, x3), (0, v10), (0, x5)]) dX10_who_100 (by decide) rfl ?_
        obtain ⟨g11, h⟩ := h
        refine WQ_iinc dX10_who_102 rfl (by decide) g11 (fun v12 e12 => ?_)
        refine WP_same (L' := [(2, 183), (0, x1), (0, x2), (0, x3), (0, v10), (0, v12)]) rfl ?_
        replace h := h v12 e12
        refine WP_goto (tgt := 50) dX10_who_105 (by decide) ?_
        exact h
      · replace h := h.2 c9
        refine WP_aload_n dX10_who_80 rfl rfl ⟨Nat.le_of_ble_eq_true rfl, Nat.le_of_ble_eq_true rfl⟩ ?_
        refine WP_iload dX10_who_81 rfl ?_
        refine WP_iload_n dX10_who_83 rfl rfl ?_
        refine WQ_invVi (v := (2, 183)) (as := [(0, x5), (0, x1)]) dX10_who_84 l_X10_266 mw_X10_pitchOf mi_X10_pitchOf ms_X10_pitchOf mo_X10_pitchOf (rcv (ci := 10) (n := 49) (r := (RX10, TX10, 49)) k_183 rfl rfl) (Nat.le_of_ble_eq_true rfl) h rfl (fun r13 μ14 h => ?_)
        refine WP_iload_n dX10_who_87 rfl rfl ?_
        refine WQ_icmp_ne (tgt := 98) dX10_who_88 (by decide) (fun c15 => ?_) (fun c15 => ?_)
        · replace h := h.1 c15
          refine WP_iconst dX10_who_98 (by decide) ?_
          refine WP_ior dX10_who_99 ?_
          refine WQ_nm0 (fun v16 e16 => ?_)
          replace h := h v16 e16
          refine WP_istore (L' := [(2, 183), (0, x1), (0, x2), (0, x3), (0, v16), (0, x5)]) dX10_who_100 (by decide) rfl ?_
          obtain ⟨g17, h⟩ := h
          refine WQ_iinc dX10_who_102 rfl (by decide) g17 (fun v18 e18 => ?_)
          refine WP_same (L' := [(2, 183), (0, x1), (0, x2), (0, x3), (0, v16), (0, v18)]) rfl ?_
          replace h := h v18 e18
          refine WP_goto (tgt := 50) dX10_who_105 (by decide) ?_
          exact h
        · replace h := h.2 c15
          refine WP_iconst dX10_who_91 (by decide) ?_
          refine WP_iload dX10_who_92 rfl ?_
          refine WP_ishl dX10_who_94 ?_
          refine WP_goto (tgt := 99) dX10_who_95 (by decide) ?_
          refine WP_ior dX10_who_99 ?_
          refine WQ_nm0 (fun v19 e19 => ?_)
          replace h := h v19 e19
          refine WP_istore (L' := [(2, 183), (0, x1), (0, x2), (0, x3), (0, v19), (0, x5)]) dX10_who_100 (by decide) rfl ?_
          obtain ⟨g20, h⟩ := h
          refine WQ_iinc dX10_who_102 rfl (by decide) g20 (fun v21 e21 => ?_)
          refine WP_same (L' := [(2, 183), (0, x1), (0, x2), (0, x3), (0, v19), (0, v21)]) rfl ?_
          replace h := h v21 e21
          refine WP_goto (tgt := 50) dX10_who_105 (by decide) ?_
          exact h

theorem s_X10_wholeOf_0 {d : Nat} {sc : SC} {Q : Int → Mem → Prop} {μ : Mem} {a0 : Int}
    (h : WQ mX10_wholeOf d sc (ZL sc Q) 4 [(0, a0), (1, 1), (9, 0), (0, 0)] [] μ) :
    WQ mX10_wholeOf d sc (ZL sc Q) 0 [(0, a0), (9, 0), (9, 0), (9, 0)] [] μ := by
  refine WP_lconst dX10_wholeOf_0 rfl ?_
  refine WP_lstore_n (L' := [(0, a0), (1, 1), (9, 0), (9, 0)]) dX10_wholeOf_1 rfl (by decide) rfl ?_
  refine WP_iconst dX10_wholeOf_2 (by decide) ?_
  refine WP_istore_n (L' := [(0, a0), (1, 1), (9, 0), (0, 0)]) dX10_wholeOf_3 rfl (by decide) rfl ?_
  exact h

theorem s_X10_wholeOf_4 {d : Nat} {sc : SC} {Q : Int → Mem → Prop} {μ : Mem} {x0 x1 x3 : Int}
    (h : (x0 ≤ x3 → Q x1 μ) ∧ (x3 < x0 → (-9223372036854775808 ≤ x1 * 10 ∧ x1 * 10 < 9223372036854775808) ∧ (∀ v3 : Int, v3 = x1 * 10 → (-2147483648 ≤ x3 + 1 ∧ x3 + 1 < 2147483648) ∧ ∀ v5 : Int, v5 = x3 + 1 → WQ mX10_wholeOf d sc (ZL sc Q) 4 [(0, x0), (1, v3), (9, 0), (0, v5)] [] μ))) :
    WQ mX10_wholeOf d sc (ZL sc Q) 4 [(0, x0), (1, x1), (9, 0), (0, x3)] [] μ := by
  refine WP_iload_n dX10_wholeOf_4 rfl rfl ?_
  refine WP_iload_n dX10_wholeOf_5 rfl rfl ?_
  refine WQ_icmp_ge (tgt := 21) dX10_wholeOf_6 (by decide) (fun c1 => ?_) (fun c1 => ?_)
  · replace h := h.1 c1
    refine WP_lload_n dX10_wholeOf_21 rfl rfl ?_
    exact WQ_lreturn dX10_wholeOf_22 rfl h
  · replace h := h.2 c1
    refine WP_lload_n dX10_wholeOf_9 rfl rfl ?_
    refine WP_ldc2 dX10_wholeOf_10 c_X10_340 (by decide) ?_
    obtain ⟨g2, h⟩ := h
    refine WP_lmul dX10_wholeOf_13 g2 ?_
    refine WQ_nm1 (fun v3 e3 => ?_)
    replace h := h v3 e3
    refine WP_lstore_n (L' := [(0, x0), (1, v3), (9, 0), (0, x3)]) dX10_wholeOf_14 rfl (by decide) rfl ?_
    obtain ⟨g4, h⟩ := h
    refine WQ_iinc dX10_wholeOf_15 rfl (by decide) g4 (fun v5 e5 => ?_)
    refine WP_same (L' := [(0, x0), (1, v3), (9, 0), (0, v5)]) rfl ?_
    replace h := h v5 e5
    refine WP_goto (tgt := 4) dX10_wholeOf_18 (by decide) ?_
    exact h

theorem s_X10_whyNot_0 {d : Nat} {sc : SC} {Q : Int → Mem → Prop} {μ : Mem} {a1 : Int}
    (h : CAi mX10_within d sc [(1, a1), (1, 0), (1, 7999)] μ (fun r1 μ2 => (r1 = 0 → CAi mX10_within d sc [(1, a1), (1, 8000), (1, 8009)] μ2 (fun r4 μ5 => (r4 = 0 → CAi mX10_within d sc [(1, a1), (1, 8100), (1, 8999)] μ5 (fun r7 μ8 => (r7 = 0 → CAi mX10_within d sc [(1, a1), (1, 9000), (1, 9009)] μ8 (fun r10 μ11 => (r10 = 0 → Q 1 μ11) ∧ (r10 ≠ 0 → Q 0 μ11))) ∧ (r7 ≠ 0 → (-9223372036854775808 ≤ a1 - 8100 ∧ a1 - 8100 < 9223372036854775808) ∧ 0 ≤ a1 - 8100 ∧ CAi mX10_isPerson d sc [(2, 183), (1, (a1 - 8100) / 100)] μ8 (fun r15 μ16 => (r15 = 0 → Q 1 μ16) ∧ (r15 ≠ 0 → 0 ≤ a1 ∧ CAi mX10_isCell d sc [(2, 183), (1, a1 % 100)] μ16 (fun r19 μ20 => (r19 = 0 → Q 1 μ20) ∧ (r19 ≠ 0 → Q 0 μ20))))))) ∧ (r4 ≠ 0 → (-9223372036854775808 ≤ a1 - 8000 ∧ a1 - 8000 < 9223372036854775808) ∧ CAi mX10_isNaming d sc [(2, 183), (1, a1 - 8000)] μ5 (fun r23 μ24 => (r23 = 0 → Q 1 μ24) ∧ (r23 ≠ 0 → Q 0 μ24))))) ∧ (r1 ≠ 0 → 0 ≤ a1 ∧ 0 ≤ a1 ∧ 0 ≤ a1 / 100 ∧ 0 ≤ a1 ∧ CAi mX10_whyTell d sc [(2, 183), (1, a1 / 1000), (1, (a1 / 100) % 10), (1, a1 % 100)] μ2 (fun r30 μ31 => Q r30 μ31)))) :
    WQ mX10_whyNot d sc (ZI sc Q) 0 [(2, 183), (1, a1), (9, 0)] [] μ := by
  refine WP_lload_n dX10_whyNot_0 rfl rfl ?_
  refine WP_lconst dX10_whyNot_1 rfl ?_
  refine WP_ldc2 dX10_whyNot_2 c_X10_342 (by decide) ?_
  refine WQ_invSi (as := [(1, a1), (1, 0), (1, 7999)]) dX10_whyNot_5 l_X10_170 mw_X10_within mt_X10_within mo_X10_within (Nat.le_of_ble_eq_true rfl) h rfl (fun r1 μ2 h => ?_)
  refine WQ_ifeq (tgt := 35) dX10_whyNot_8 (by decide) (fun c3 => ?_) (fun c3 => ?_)
  · replace h := h.1 c3
    refine WP_lload_n dX10_whyNot_35 rfl rfl ?_
    refine WP_ldc2 dX10_whyNot_36 c_X10_348 (by decide) ?_
    refine WP_ldc2 dX10_whyNot_39 c_X10_350 (by decide) ?_
    refine WQ_invSi (as := [(1, a1), (1, 8000), (1, 8009)]) dX10_whyNot_42 l_X10_170 mw_X10_within mt_X10_within mo_X10_within (Nat.le_of_ble_eq_true rfl) h rfl (fun r4 μ5 h => ?_)
    refine WQ_ifeq (tgt := 66) dX10_whyNot_45 (by decide) (fun c6 => ?_) (fun c6 => ?_)
    · replace h := h.1 c6
      refine WP_lload_n dX10_whyNot_66 rfl rfl ?_
      refine WP_ldc2 dX10_whyNot_67 c_X10_352 (by decide) ?_
      refine WP_ldc2 dX10_whyNot_70 c_X10_354 (by decide) ?_
      refine WQ_invSi (as := [(1, a1), (1, 8100), (1, 8999)]) dX10_whyNot_73 l_X10_170 mw_X10_within mt_X10_within mo_X10_within (Nat.le_of_ble_eq_true rfl) h rfl (fun r7 μ8 h => ?_)
      refine WQ_ifeq (tgt := 113) dX10_whyNot_76 (by decide) (fun c9 => ?_) (fun c9 => ?_)
      · replace h := h.1 c9
        refine WP_lload_n dX10_whyNot_113 rfl rfl ?_
        refine WP_ldc2 dX10_whyNot_114 c_X10_356 (by decide) ?_
        refine WP_ldc2 dX10_whyNot_117 c_X10_358 (by decide) ?_
        refine WQ_invSi (as := [(1, a1), (1, 9000), (1, 9009)]) dX10_whyNot_120 l_X10_170 mw_X10_within mt_X10_within mo_X10_within (Nat.le_of_ble_eq_true rfl) h rfl (fun r10 μ11 h => ?_)
        refine WQ_ifeq (tgt := 130) dX10_whyNot_123 (by decide) (fun c12 => ?_) (fun c12 => ?_)
        · replace h := h.1 c12
          refine WP_iconst dX10_whyNot_130 (by decide) ?_
          exact WQ_ireturn dX10_whyNot_131 rfl h
        · replace h := h.2 c12
          refine WP_iconst dX10_whyNot_126 (by decide) ?_
          refine WP_goto (tgt := 131) dX10_whyNot_127 (by decide) ?_
          exact WQ_ireturn dX10_whyNot_131 rfl h
      · replace h := h.2 c9
        refine WP_aload_n dX10_whyNot_79 rfl rfl ⟨Nat.le_of_ble_eq_true rfl, Nat.le_of_ble_eq_true rfl⟩ ?_
        refine WP_lload_n dX10_whyNot_80 rfl rfl ?_
        refine WP_ldc2 dX10_whyNot_81 c_X10_352 (by decide) ?_
        obtain ⟨g13, h⟩ := h
        refine WP_lsub dX10_whyNot_84 g13 ?_
        refine WP_ldc2 dX10_whyNot_85 c_X10_346 (by decide) ?_
        obtain ⟨g14, h⟩ := h
        refine WP_ldiv dX10_whyNot_88 ⟨g14, by decide⟩ ?_
        refine WQ_invVi (v := (2, 183)) (as := [(1, (a1 - 8100) / 100)]) dX10_whyNot_89 l_X10_235 mw_X10_isPerson mi_X10_isPerson ms_X10_isPerson mo_X10_isPerson (rcv (ci := 10) (n := 49) (r := (RX10, TX10, 49)) k_183 rfl rfl) (Nat.le_of_ble_eq_true rfl) h rfl (fun r15 μ16 h => ?_)
        refine WQ_ifeq (tgt := 111) dX10_whyNot_92 (by decide) (fun c17 => ?_) (fun c17 => ?_)
        · replace h := h.1 c17
          refine WP_iconst dX10_whyNot_111 (by decide) ?_
          exact WQ_ireturn dX10_whyNot_112 rfl h
        · replace h := h.2 c17
          refine WP_aload_n dX10_whyNot_95 rfl rfl ⟨Nat.le_of_ble_eq_true rfl, Nat.le_of_ble_eq_true rfl⟩ ?_
          refine WP_lload_n dX10_whyNot_96 rfl rfl ?_
          refine WP_ldc2 dX10_whyNot_97 c_X10_346 (by decide) ?_
          obtain ⟨g18, h⟩ := h
          refine WP_lrem dX10_whyNot_100 ⟨g18, by decide⟩ ?_
          refine WQ_invVi (v := (2, 183)) (as := [(1, a1 % 100)]) dX10_whyNot_101 l_X10_335 mw_X10_isCell mi_X10_isCell ms_X10_isCell mo_X10_isCell (rcv (ci := 10) (n := 49) (r := (RX10, TX10, 49)) k_183 rfl rfl) (Nat.le_of_ble_eq_true rfl) h rfl (fun r19 μ20 h => ?_)
          refine WQ_ifeq (tgt := 111) dX10_whyNot_104 (by decide) (fun c21 => ?_) (fun c21 => ?_)
          · replace h := h.1 c21
            refine WP_iconst dX10_whyNot_111 (by decide) ?_
            exact WQ_ireturn dX10_whyNot_112 rfl h
          · replace h := h.2 c21
            refine WP_iconst dX10_whyNot_107 (by decide) ?_
            refine WP_goto (tgt := 112) dX10_whyNot_108 (by decide) ?_
            exact WQ_ireturn dX10_whyNot_112 rfl h
    · replace h := h.2 c6
      refine WP_aload_n dX10_whyNot_48 rfl rfl ⟨Nat.le_of_ble_eq_true rfl, Nat.le_of_ble_eq_true rfl⟩ ?_
      refine WP_lload_n dX10_whyNot_49 rfl rfl ?_
      refine WP_ldc2 dX10_whyNot_50 c_X10_348 (by decide) ?_
      obtain ⟨g22, h⟩ := h
      refine WP_lsub dX10_whyNot_53 g22 ?_
      refine WQ_invVi (v := (2, 183)) (as := [(1, a1 - 8000)]) dX10_whyNot_54 l_X10_329 mw_X10_isNaming mi_X10_isNaming ms_X10_isNaming mo_X10_isNaming (rcv (ci := 10) (n := 49) (r := (RX10, TX10, 49)) k_183 rfl rfl) (Nat.le_of_ble_eq_true rfl) h rfl (fun r23 μ24 h => ?_)
      refine WQ_ifeq (tgt := 64) dX10_whyNot_57 (by decide) (fun c25 => ?_) (fun c25 => ?_)
      · replace h := h.1 c25
        refine WP_iconst dX10_whyNot_64 (by decide) ?_
        exact WQ_ireturn dX10_whyNot_65 rfl h
      · replace h := h.2 c25
        refine WP_iconst dX10_whyNot_60 (by decide) ?_
        refine WP_goto (tgt := 65) dX10_whyNot_61 (by decide) ?_
        exact WQ_ireturn dX10_whyNot_65 rfl h
  · replace h := h.2 c3
    refine WP_aload_n dX10_whyNot_11 rfl rfl ⟨Nat.le_of_ble_eq_true rfl, Nat.le_of_ble_eq_true rfl⟩ ?_
    refine WP_lload_n dX10_whyNot_12 rfl rfl ?_
    refine WP_ldc2 dX10_whyNot_13 c_X10_344 (by decide) ?_
    obtain ⟨g26, h⟩ := h
    refine WP_ldiv dX10_whyNot_16 ⟨g26, by decide⟩ ?_
    refine WP_lload_n dX10_whyNot_17 rfl rfl ?_
    refine WP_ldc2 dX10_whyNot_18 c_X10_346 (by decide) ?_
    obtain ⟨g27, h⟩ := h
    refine WP_ldiv dX10_whyNot_21 ⟨g27, by decide⟩ ?_
    refine WP_ldc2 dX10_whyNot_22 c_X10_340 (by decide) ?_
    obtain ⟨g28, h⟩ := h
    refine WP_lrem dX10_whyNot_25 ⟨g28, by decide⟩ ?_
    refine WP_lload_n dX10_whyNot_26 rfl rfl ?_
    refine WP_ldc2 dX10_whyNot_27 c_X10_346 (by decide) ?_
    obtain ⟨g29, h⟩ := h
    refine WP_lrem dX10_whyNot_30 ⟨g29, by decide⟩ ?_
    refine WQ_invVi (v := (2, 183)) (as := [(1, a1 / 1000), (1, (a1 / 100) % 10), (1, a1 % 100)]) dX10_whyNot_31 l_X10_316 mw_X10_whyTell mi_X10_whyTell ms_X10_whyTell mo_X10_whyTell (rcv (ci := 10) (n := 49) (r := (RX10, TX10, 49)) k_183 rfl rfl) (Nat.le_of_ble_eq_true rfl) h rfl (fun r30 μ31 h => ?_)
    exact WQ_ireturn dX10_whyNot_34 rfl h

theorem s_X10_whyTell_0 {d : Nat} {sc : SC} {Q : Int → Mem → Prop} {μ : Mem} {a1 a3 a5 : Int}
    (h : CAi mX10_areTwo d sc [(2, 183), (1, a1), (1, a3)] μ (fun r1 μ2 => (r1 = 0 → Q 1 μ2) ∧ (r1 ≠ 0 → CAi mX10_within d sc [(1, a5), (1, 0), (1, 99)] μ2 (fun r4 μ5 => (r4 ≠ 0 → (μ5 184 31 ≠ 8 → Q 0 μ5) ∧ (μ5 184 31 = 8 → Q 2 μ5)) ∧ (r4 = 0 → Q 1 μ5))))) :
    WQ mX10_whyTell d sc (ZI sc Q) 0 [(2, 183), (1, a1), (9, 0), (1, a3), (9, 0), (1, a5), (9, 0)] [] μ := by
  refine WP_aload_n dX10_whyTell_0 rfl rfl ⟨Nat.le_of_ble_eq_true rfl, Nat.le_of_ble_eq_true rfl⟩ ?_
  refine WP_lload_n dX10_whyTell_1 rfl rfl ?_
  refine WP_lload_n dX10_whyTell_2 rfl rfl ?_
  refine WQ_invVi (v := (2, 183)) (as := [(1, a1), (1, a3)]) dX10_whyTell_3 l_X10_259 mw_X10_areTwo mi_X10_areTwo ms_X10_areTwo mo_X10_areTwo (rcv (ci := 10) (n := 49) (r := (RX10, TX10, 49)) k_183 rfl rfl) (Nat.le_of_ble_eq_true rfl) h rfl (fun r1 μ2 h => ?_)
  refine WQ_ifeq (tgt := 21) dX10_whyTell_6 (by decide) (fun c3 => ?_) (fun c3 => ?_)
  · replace h := h.1 c3
    refine WP_iconst dX10_whyTell_21 (by decide) ?_
    refine WP_goto (tgt := 42) dX10_whyTell_22 (by decide) ?_
    exact WQ_ireturn dX10_whyTell_42 rfl h
  · replace h := h.2 c3
    refine WP_lload dX10_whyTell_9 rfl ?_
    refine WP_lconst dX10_whyTell_11 rfl ?_
    refine WP_ldc2 dX10_whyTell_12 c_X10_311 (by decide) ?_
    refine WQ_invSi (as := [(1, a5), (1, 0), (1, 99)]) dX10_whyTell_15 l_X10_170 mw_X10_within mt_X10_within mo_X10_within (Nat.le_of_ble_eq_true rfl) h rfl (fun r4 μ5 h => ?_)
    refine WQ_ifne (tgt := 25) dX10_whyTell_18 (by decide) (fun c6 => ?_) (fun c6 => ?_)
    · replace h := h.1 c6
      refine WP_aload_n dX10_whyTell_25 rfl rfl ⟨Nat.le_of_ble_eq_true rfl, Nat.le_of_ble_eq_true rfl⟩ ?_
      refine WP_getfield (ci := 10) (j := 1) (n := 49) (t := 2) (x := 184) dX10_whyTell_26 f_X10_13 k_183 rfl rfl ?_
      refine WP_bipush dX10_whyTell_29 (by decide +kernel) (by decide) ?_
      refine WP_iaload (n := 4119) dX10_whyTell_31 k_184 ⟨by decide, by decide⟩ ?_
      refine WP_bipush dX10_whyTell_32 (by decide +kernel) (by decide) ?_
      refine WQ_icmp_ne (tgt := 41) dX10_whyTell_34 (by decide) (fun c8 => ?_) (fun c8 => ?_)
      · replace h := h.1 c8
        refine WP_iconst dX10_whyTell_41 (by decide) ?_
        exact WQ_ireturn dX10_whyTell_42 rfl h
      · replace h := h.2 c8
        refine WP_iconst dX10_whyTell_37 (by decide) ?_
        refine WP_goto (tgt := 42) dX10_whyTell_38 (by decide) ?_
        exact WQ_ireturn dX10_whyTell_42 rfl h
    · replace h := h.2 c6
      refine WP_iconst dX10_whyTell_21 (by decide) ?_
      refine WP_goto (tgt := 42) dX10_whyTell_22 (by decide) ?_
      exact WQ_ireturn dX10_whyTell_42 rfl h

theorem s_X10_wind_0 {d : Nat} {sc : SC} {Q : Int → Mem → Prop} {μ : Mem} {a1 : Int}
    (h : ∀ μ1, μ1 = mup μ 183 0 0 → CAi mX10_within d sc [(1, a1), (1, 0), (1, 9)] μ1 (fun r2 μ3 => (r2 ≠ 0 → CAv mX10_stores d sc [(2, 183)] μ3 (fun μ6 => ∀ μ8, μ8 = mup μ6 184 70 a1 → CAv mX10_notes d sc [(2, 183)] μ8 (fun μ10 => Q (μ10 205 39) μ10))) ∧ (r2 = 0 → Q (-11) μ3))) :
    WQ mX10_wind d sc (ZI sc Q) 0 [(2, 183), (0, a1)] [] μ := by
  refine WP_aload_n dX10_wind_0 rfl rfl ⟨Nat.le_of_ble_eq_true rfl, Nat.le_of_ble_eq_true rfl⟩ ?_
  refine WP_iconst dX10_wind_1 (by decide) ?_
  refine WQ_put (ci := 10) (j := 0) (n := 49) dX10_wind_2 f_X10_1 k_183 rfl (fun μ1 eμ1 => ?_)
  replace h := h μ1 eμ1
  refine WP_iload_n dX10_wind_5 rfl rfl ?_
  refine WP_i2l dX10_wind_6 ?_
  refine WP_lconst dX10_wind_7 rfl ?_
  refine WP_ldc2 dX10_wind_8 c_X10_338 (by decide) ?_
  refine WQ_invSi (as := [(1, a1), (1, 0), (1, 9)]) dX10_wind_11 l_X10_170 mw_X10_within mt_X10_within mo_X10_within (Nat.le_of_ble_eq_true rfl) h rfl (fun r2 μ3 h => ?_)
  refine WQ_ifne (tgt := 20) dX10_wind_14 (by decide) (fun c4 => ?_) (fun c4 => ?_)
  · replace h := h.1 c4
    refine WP_aload_n dX10_wind_20 rfl rfl ⟨Nat.le_of_ble_eq_true rfl, Nat.le_of_ble_eq_true rfl⟩ ?_
    refine WQ_invVv (v := (2, 183)) (as := []) dX10_wind_21 l_X10_320 mw_X10_stores mi_X10_stores ms_X10_stores mo_X10_stores (rcv (ci := 10) (n := 49) (r := (RX10, TX10, 49)) k_183 rfl rfl) (Nat.le_of_ble_eq_true rfl) h rfl (fun μ6 h => ?_)
    refine WP_aload_n dX10_wind_24 rfl rfl ⟨Nat.le_of_ble_eq_true rfl, Nat.le_of_ble_eq_true rfl⟩ ?_
    refine WP_getfield (ci := 10) (j := 1) (n := 49) (t := 2) (x := 184) dX10_wind_25 f_X10_13 k_183 rfl rfl ?_
    refine WP_bipush dX10_wind_28 (by decide +kernel) (by decide) ?_
    refine WP_iload_n dX10_wind_30 rfl rfl ?_
    refine WQ_iast (n := 4119) dX10_wind_31 k_184 ⟨by decide, by decide⟩ (fun μ8 eμ8 => ?_)
    replace h := h μ8 eμ8
    refine WP_aload_n dX10_wind_32 rfl rfl ⟨Nat.le_of_ble_eq_true rfl, Nat.le_of_ble_eq_true rfl⟩ ?_
    refine WQ_invVv (v := (2, 183)) (as := []) dX10_wind_33 l_X10_326 mw_X10_notes mi_X10_notes ms_X10_notes mo_X10_notes (rcv (ci := 10) (n := 49) (r := (RX10, TX10, 49)) k_183 rfl rfl) (Nat.le_of_ble_eq_true rfl) h rfl (fun μ10 h => ?_)
    refine WP_aload_n dX10_wind_36 rfl rfl ⟨Nat.le_of_ble_eq_true rfl, Nat.le_of_ble_eq_true rfl⟩ ?_
    refine WP_getfield (ci := 10) (j := 37) (n := 49) (t := 2) (x := 205) dX10_wind_37 f_X10_82 k_183 rfl rfl ?_
    refine WP_bipush dX10_wind_40 (by decide +kernel) (by decide) ?_
    refine WP_iaload (n := 40) dX10_wind_42 k_205 ⟨by decide, by decide⟩ ?_
    exact WQ_ireturn dX10_wind_43 rfl h
  · replace h := h.2 c4
    refine WP_bipush dX10_wind_17 (by decide +kernel) (by decide) ?_
    exact WQ_ireturn dX10_wind_19 rfl h

theorem s_X10_winds_0 {d : Nat} {sc : SC} {Q : Int → Mem → Prop} {μ : Mem} {a1 a2 : Int}
    (h : ∀ μ1, μ1 = mup μ 183 0 0 → CAi mX10_within d sc [(1, a1), (1, 0), (1, 3)] μ1 (fun r2 μ3 => (r2 = 0 → Q (-2) μ3) ∧ (r2 ≠ 0 → CAi mX10_isPerson d sc [(2, 183), (1, a2)] μ3 (fun r5 μ6 => (r5 ≠ 0 → CAi mX10_noTray d sc [(2, 183), (0, a1)] μ6 (fun r8 μ9 => (r8 = 0 → (0 ≤ a1 ∧ a1 < 4) ∧ CAi mX10_within d sc [(1, μ9 210 a1), (1, 1), (1, 8)] μ9 (fun r12 μ13 => (r12 ≠ 0 → WQ mX10_winds d sc (ZI sc Q) 64 [(2, 183), (0, a1), (0, a2), (9, 0), (0, 0), (9, 0), (9, 0)] [] μ13) ∧ (r12 = 0 → Q (-4) μ13))) ∧ (r8 ≠ 0 → Q r8 μ9))) ∧ (r5 = 0 → Q (-2) μ6))))) :
    WQ mX10_winds d sc (ZI sc Q) 0 [(2, 183), (0, a1), (0, a2), (9, 0), (9, 0), (9, 0), (9, 0)] [] μ := by
  refine WP_aload_n dX10_winds_0 rfl rfl ⟨Nat.le_of_ble_eq_true rfl, Nat.le_of_ble_eq_true rfl⟩ ?_
  refine WP_iconst dX10_winds_1 (by decide) ?_
  refine WQ_put (ci := 10) (j := 0) (n := 49) dX10_winds_2 f_X10_1 k_183 rfl (fun μ1 eμ1 => ?_)
  replace h := h μ1 eμ1
  refine WP_iload_n dX10_winds_5 rfl rfl ?_
  refine WP_i2l dX10_winds_6 ?_
  refine WP_lconst dX10_winds_7 rfl ?_
  refine WP_ldc2 dX10_winds_8 c_X10_370 (by decide) ?_
  refine WQ_invSi (as := [(1, a1), (1, 0), (1, 3)]) dX10_winds_11 l_X10_170 mw_X10_within mt_X10_within mo_X10_within (Nat.le_of_ble_eq_true rfl) h rfl (fun r2 μ3 h => ?_)
  refine WQ_ifeq (tgt := 26) dX10_winds_14 (by decide) (fun c4 => ?_) (fun c4 => ?_)
  · replace h := h.1 c4
    refine WP_bipush dX10_winds_26 (by decide +kernel) (by decide) ?_
    exact WQ_ireturn dX10_winds_28 rfl h
  · replace h := h.2 c4
    refine WP_aload_n dX10_winds_17 rfl rfl ⟨Nat.le_of_ble_eq_true rfl, Nat.le_of_ble_eq_true rfl⟩ ?_
    refine WP_iload_n dX10_winds_18 rfl rfl ?_
    refine WP_i2l dX10_winds_19 ?_
    refine WQ_invVi (v := (2, 183)) (as := [(1, a2)]) dX10_winds_20 l_X10_235 mw_X10_isPerson mi_X10_isPerson ms_X10_isPerson mo_X10_isPerson (rcv (ci := 10) (n := 49) (r := (RX10, TX10, 49)) k_183 rfl rfl) (Nat.le_of_ble_eq_true rfl) h rfl (fun r5 μ6 h => ?_)
    refine WQ_ifne (tgt := 29) dX10_winds_23 (by decide) (fun c7 => ?_) (fun c7 => ?_)
    · replace h := h.1 c7
      refine WP_aload_n dX10_winds_29 rfl rfl ⟨Nat.le_of_ble_eq_true rfl, Nat.le_of_ble_eq_true rfl⟩ ?_
      refine WP_iload_n dX10_winds_30 rfl rfl ?_
      refine WQ_invVi (v := (2, 183)) (as := [(0, a1)]) dX10_winds_31 l_X10_372 mw_X10_noTray mi_X10_noTray ms_X10_noTray mo_X10_noTray (rcv (ci := 10) (n := 49) (r := (RX10, TX10, 49)) k_183 rfl rfl) (Nat.le_of_ble_eq_true rfl) h rfl (fun r8 μ9 h => ?_)
      refine WP_istore_n (L' := [(2, 183), (0, a1), (0, a2), (0, r8), (9, 0), (9, 0), (9, 0)]) dX10_winds_34 rfl (by decide) rfl ?_
      refine WP_iload_n dX10_winds_35 rfl rfl ?_
      refine WQ_ifeq (tgt := 41) dX10_winds_36 (by decide) (fun c10 => ?_) (fun c10 => ?_)
      · replace h := h.1 c10
        refine WP_aload_n dX10_winds_41 rfl rfl ⟨Nat.le_of_ble_eq_true rfl, Nat.le_of_ble_eq_true rfl⟩ ?_
        refine WP_getfield (ci := 10) (j := 47) (n := 49) (t := 2) (x := 210) dX10_winds_42 f_X10_98 k_183 rfl rfl ?_
        refine WP_iload_n dX10_winds_45 rfl rfl ?_
        obtain ⟨g11, h⟩ := h
        refine WP_iaload (n := 4) dX10_winds_46 k_210 g11 ?_
        refine WP_i2l dX10_winds_47 ?_
        refine WP_lconst dX10_winds_48 rfl ?_
        refine WP_ldc2 dX10_winds_49 c_X10_453 (by decide) ?_
        refine WQ_invSi (as := [(1, μ9 210 a1), (1, 1), (1, 8)]) dX10_winds_52 l_X10_170 mw_X10_within mt_X10_within mo_X10_within (Nat.le_of_ble_eq_true rfl) h rfl (fun r12 μ13 h => ?_)
        refine WQ_ifne (tgt := 61) dX10_winds_55 (by decide) (fun c14 => ?_) (fun c14 => ?_)
        · replace h := h.1 c14
          refine WP_iconst dX10_winds_61 (by decide) ?_
          refine WP_istore (L' := [(2, 183), (0, a1), (0, a2), (0, r8), (0, 0), (9, 0), (9, 0)]) dX10_winds_62 (by decide) rfl ?_
          refine WP_lforget (L' := [(2, 183), (0, a1), (0, a2), (9, 0), (0, 0), (9, 0), (9, 0)]) rfl (fun i hi => ?_) h
          match i, hi with
          | 0, _ => exact Or.inl rfl
          | 1, _ => exact Or.inl rfl
          | 2, _ => exact Or.inl rfl
          | 3, _ => exact Or.inr rfl
          | 4, _ => exact Or.inl rfl
          | 5, _ => exact Or.inl rfl
          | 6, _ => exact Or.inl rfl
          | i + 7, hi => exact absurd hi (by simp only [List.length_cons, List.length_nil]; omega)
        · replace h := h.2 c14
          refine WP_bipush dX10_winds_58 (by decide +kernel) (by decide) ?_
          exact WQ_ireturn dX10_winds_60 rfl h
      · replace h := h.2 c10
        refine WP_iload_n dX10_winds_39 rfl rfl ?_
        exact WQ_ireturn dX10_winds_40 rfl h
    · replace h := h.2 c7
      refine WP_bipush dX10_winds_26 (by decide +kernel) (by decide) ?_
      exact WQ_ireturn dX10_winds_28 rfl h

theorem s_X10_winds_64 {d : Nat} {sc : SC} {Q : Int → Mem → Prop} {μ : Mem} {x1 x2 x4 : Int}
    (h : (0 ≤ x1 ∧ x1 < 4) ∧ (μ 210 x1 ≤ x4 → ∀ v4 : Int, v4 = μ 184 70 → WQ mX10_winds d sc (ZI sc Q) 121 [(2, 183), (0, x1), (0, x2), (9, 0), (0, v4), (0, 0), (0, 0)] [] μ) ∧ (x4 < μ 210 x1 → (-2147483648 ≤ 40 * x1 ∧ 40 * x1 < 2147483648) ∧ (-2147483648 ≤ (40 * x1) + x4 ∧ (40 * x1) + x4 < 2147483648) ∧ (0 ≤ (40 * x1) + x4 ∧ (40 * x1) + x4 < 160) ∧ CAi mX10_within d sc [(1, μ 211 ((40 * x1) + x4)), (1, 0), (1, 99)] μ (fun r8 μ9 => (r8 ≠ 0 → (-2147483648 ≤ x4 + 1 ∧ x4 + 1 < 2147483648) ∧ ∀ v12 : Int, v12 = x4 + 1 → WQ mX10_winds d sc (ZI sc Q) 64 [(2, 183), (0, x1), (0, x2), (9, 0), (0, v12), (9, 0), (9, 0)] [] μ9) ∧ (r8 = 0 → Q (-3) μ9)))) :
    WQ mX10_winds d sc (ZI sc Q) 64 [(2, 183), (0, x1), (0, x2), (9, 0), (0, x4), (9, 0), (9, 0)] [] μ := by
  refine WP_iload dX10_winds_64 rfl ?_
  refine WP_aload_n dX10_winds_66 rfl rfl ⟨Nat.le_of_ble_eq_true rfl, Nat.le_of_ble_eq_true rfl⟩ ?_
  refine WP_getfield (ci := 10) (j := 47) (n := 49) (t := 2) (x := 210) dX10_winds_67 f_X10_98 k_183 rfl rfl ?_
  refine WP_iload_n dX10_winds_70 rfl rfl ?_
  obtain ⟨g1, h⟩ := h
  refine WP_iaload (n := 4) dX10_winds_71 k_210 g1 ?_
  refine WQ_icmp_ge (tgt := 106) dX10_winds_72 (by decide) (fun c2 => ?_) (fun c2 => ?_)
  · replace h := h.1 c2
    refine WP_aload_n dX10_winds_106 rfl rfl ⟨Nat.le_of_ble_eq_true rfl, Nat.le_of_ble_eq_true rfl⟩ ?_
    refine WP_getfield (ci := 10) (j := 1) (n := 49) (t := 2) (x := 184) dX10_winds_107 f_X10_13 k_183 rfl rfl ?_
    refine WP_bipush dX10_winds_110 (by decide +kernel) (by decide) ?_
    refine WP_iaload (n := 4119) dX10_winds_112 k_184 ⟨by decide, by decide⟩ ?_
    refine WQ_nm0 (fun v4 e4 => ?_)
    replace h := h v4 e4
    refine WP_istore (L' := [(2, 183), (0, x1), (0, x2), (9, 0), (0, v4), (9, 0), (9, 0)]) dX10_winds_113 (by decide) rfl ?_
    refine WP_iconst dX10_winds_115 (by decide) ?_
    refine WP_istore (L' := [(2, 183), (0, x1), (0, x2), (9, 0), (0, v4), (0, 0), (9, 0)]) dX10_winds_116 (by decide) rfl ?_
    refine WP_iconst dX10_winds_118 (by decide) ?_
    refine WP_istore (L' := [(2, 183), (0, x1), (0, x2), (9, 0), (0, v4), (0, 0), (0, 0)]) dX10_winds_119 (by decide) rfl ?_
    exact h
  · replace h := h.2 c2
    refine WP_aload_n dX10_winds_75 rfl rfl ⟨Nat.le_of_ble_eq_true rfl, Nat.le_of_ble_eq_true rfl⟩ ?_
    refine WP_getfield (ci := 10) (j := 48) (n := 49) (t := 2) (x := 211) dX10_winds_76 f_X10_101 k_183 rfl rfl ?_
    refine WP_bipush dX10_winds_79 (by decide +kernel) (by decide) ?_
    refine WP_iload_n dX10_winds_81 rfl rfl ?_
    obtain ⟨g5, h⟩ := h
    refine WP_imul dX10_winds_82 g5 ?_
    refine WP_iload dX10_winds_83 rfl ?_
    obtain ⟨g6, h⟩ := h
    refine WP_iadd dX10_winds_85 g6 ?_
    obtain ⟨g7, h⟩ := h
    refine WP_laload (n := 160) dX10_winds_86 k_211 g7 ?_
    refine WP_lconst dX10_winds_87 rfl ?_
    refine WP_ldc2 dX10_winds_88 c_X10_311 (by decide) ?_
    refine WQ_invSi (as := [(1, μ 211 ((40 * x1) + x4)), (1, 0), (1, 99)]) dX10_winds_91 l_X10_170 mw_X10_within mt_X10_within mo_X10_within (Nat.le_of_ble_eq_true rfl) h rfl (fun r8 μ9 h => ?_)
    refine WQ_ifne (tgt := 100) dX10_winds_94 (by decide) (fun c10 => ?_) (fun c10 => ?_)
    · replace h := h.1 c10
      obtain ⟨g11, h⟩ := h
      refine WQ_iinc dX10_winds_100 rfl (by decide) g11 (fun v12 e12 => ?_)
      refine WP_same (L' := [(2, 183), (0, x1), (0, x2), (9, 0), (0, v12), (9, 0), (9, 0)]) rfl ?_
      replace h := h v12 e12
      refine WP_goto (tgt := 64) dX10_winds_103 (by decide) ?_
      exact h
    · replace h := h.2 c10
      refine WP_bipush dX10_winds_97 (by decide +kernel) (by decide) ?_
      exact WQ_ireturn dX10_winds_99 rfl h

theorem s_X10_winds_121 {d : Nat} {sc : SC} {Q : Int → Mem → Prop} {μ : Mem} {x1 x2 x4 x5 x6 : Int}
    (h : (10 ≤ x6 → ∀ μ3, μ3 = mup μ 184 70 x4 → Q x5 μ3) ∧ (x6 < 10 → ∀ μ5, μ5 = mup μ 184 70 x6 → CAv mX10_laysDay d sc [(2, 183)] μ5 (fun μ7 => CAi mX10_isTimed d sc [(2, 183), (0, x1), (0, x2)] μ7 (fun r8 μ9 => (r8 = 0 → ∀ v11 : Int, v11 = iOr x5 0 → (-2147483648 ≤ x6 + 1 ∧ x6 + 1 < 2147483648) ∧ ∀ v13 : Int, v13 = x6 + 1 → WQ mX10_winds d sc (ZI sc Q) 121 [(2, 183), (0, x1), (0, x2), (9, 0), (0, x4), (0, v11), (0, v13)] [] μ9) ∧ (r8 ≠ 0 → ∀ v14 : Int, v14 = iOr x5 (iShl 1 x6) → (-2147483648 ≤ x6 + 1 ∧ x6 + 1 < 2147483648) ∧ ∀ v16 : Int, v16 = x6 + 1 → WQ mX10_winds d sc (ZI sc Q) 121 [(2, 183), (0, x1), (0, x2), (9, 0), (0, x4), (0, v14), (0, v16)] [] μ9))))) :
    WQ mX10_winds d sc (ZI sc Q) 121 [(2, 183), (0, x1), (0, x2), (9, 0), (0, x4), (0, x5), (0, x6)] [] μ := by
  refine WP_iload dX10_winds_121 rfl ?_
  refine WP_bipush dX10_winds_123 (by decide +kernel) (by decide) ?_
  refine WQ_icmp_ge (tgt := 169) dX10_winds_125 (by decide) (fun c1 => ?_) (fun c1 => ?_)
  · replace h := h.1 c1
    refine WP_aload_n dX10_winds_169 rfl rfl ⟨Nat.le_of_ble_eq_true rfl, Nat.le_of_ble_eq_true rfl⟩ ?_
    refine WP_getfield (ci := 10) (j := 1) (n := 49) (t := 2) (x := 184) dX10_winds_170 f_X10_13 k_183 rfl rfl ?_
    refine WP_bipush dX10_winds_173 (by decide +kernel) (by decide) ?_
    refine WP_iload dX10_winds_175 rfl ?_
    refine WQ_iast (n := 4119) dX10_winds_177 k_184 ⟨by decide, by decide⟩ (fun μ3 eμ3 => ?_)
    replace h := h μ3 eμ3
    refine WP_iload dX10_winds_178 rfl ?_
    exact WQ_ireturn dX10_winds_180 rfl h
  · replace h := h.2 c1
    refine WP_aload_n dX10_winds_128 rfl rfl ⟨Nat.le_of_ble_eq_true rfl, Nat.le_of_ble_eq_true rfl⟩ ?_
    refine WP_getfield (ci := 10) (j := 1) (n := 49) (t := 2) (x := 184) dX10_winds_129 f_X10_13 k_183 rfl rfl ?_
    refine WP_bipush dX10_winds_132 (by decide +kernel) (by decide) ?_
    refine WP_iload dX10_winds_134 rfl ?_
    refine WQ_iast (n := 4119) dX10_winds_136 k_184 ⟨by decide, by decide⟩ (fun μ5 eμ5 => ?_)
    replace h := h μ5 eμ5
    refine WP_aload_n dX10_winds_137 rfl rfl ⟨Nat.le_of_ble_eq_true rfl, Nat.le_of_ble_eq_true rfl⟩ ?_
    refine WQ_invVv (v := (2, 183)) (as := []) dX10_winds_138 l_X10_308 mw_X10_laysDay mi_X10_laysDay ms_X10_laysDay mo_X10_laysDay (rcv (ci := 10) (n := 49) (r := (RX10, TX10, 49)) k_183 rfl rfl) (Nat.le_of_ble_eq_true rfl) h rfl (fun μ7 h => ?_)
    refine WP_iload dX10_winds_141 rfl ?_
    refine WP_aload_n dX10_winds_143 rfl rfl ⟨Nat.le_of_ble_eq_true rfl, Nat.le_of_ble_eq_true rfl⟩ ?_
    refine WP_iload_n dX10_winds_144 rfl rfl ?_
    refine WP_iload_n dX10_winds_145 rfl rfl ?_
    refine WQ_invVi (v := (2, 183)) (as := [(0, x1), (0, x2)]) dX10_winds_146 l_X10_455 mw_X10_isTimed mi_X10_isTimed ms_X10_isTimed mo_X10_isTimed (rcv (ci := 10) (n := 49) (r := (RX10, TX10, 49)) k_183 rfl rfl) (Nat.le_of_ble_eq_true rfl) h rfl (fun r8 μ9 h => ?_)
    refine WQ_ifeq (tgt := 159) dX10_winds_149 (by decide) (fun c10 => ?_) (fun c10 => ?_)
    · replace h := h.1 c10
      refine WP_iconst dX10_winds_159 (by decide) ?_
      refine WP_ior dX10_winds_160 ?_
      refine WQ_nm0 (fun v11 e11 => ?_)
      replace h := h v11 e11
      refine WP_istore (L' := [(2, 183), (0, x1), (0, x2), (9, 0), (0, x4), (0, v11), (0, x6)]) dX10_winds_161 (by decide) rfl ?_
      obtain ⟨g12, h⟩ := h
      refine WQ_iinc dX10_winds_163 rfl (by decide) g12 (fun v13 e13 => ?_)
      refine WP_same (L' := [(2, 183), (0, x1), (0, x2), (9, 0), (0, x4), (0, v11), (0, v13)]) rfl ?_
      replace h := h v13 e13
      refine WP_goto (tgt := 121) dX10_winds_166 (by decide) ?_
      exact h
    · replace h := h.2 c10
      refine WP_iconst dX10_winds_152 (by decide) ?_
      refine WP_iload dX10_winds_153 rfl ?_
      refine WP_ishl dX10_winds_155 ?_
      refine WP_goto (tgt := 160) dX10_winds_156 (by decide) ?_
      refine WP_ior dX10_winds_160 ?_
      refine WQ_nm0 (fun v14 e14 => ?_)
      replace h := h v14 e14
      refine WP_istore (L' := [(2, 183), (0, x1), (0, x2), (9, 0), (0, x4), (0, v14), (0, x6)]) dX10_winds_161 (by decide) rfl ?_
      obtain ⟨g15, h⟩ := h
      refine WQ_iinc dX10_winds_163 rfl (by decide) g15 (fun v16 e16 => ?_)
      refine WP_same (L' := [(2, 183), (0, x1), (0, x2), (9, 0), (0, x4), (0, v14), (0, v16)]) rfl ?_
      replace h := h v16 e16
      refine WP_goto (tgt := 121) dX10_winds_166 (by decide) ?_
      exact h

theorem s_X10_within_0 {d : Nat} {sc : SC} {Q : Int → Mem → Prop} {μ : Mem} {a0 a2 a4 : Int}
    (h : (a0 < a2 → Q 0 μ) ∧ (a2 ≤ a0 → (a4 < a0 → Q 0 μ) ∧ (a0 ≤ a4 → Q 1 μ))) :
    WQ mX10_within d sc (ZI sc Q) 0 [(1, a0), (9, 0), (1, a2), (9, 0), (1, a4), (9, 0)] [] μ := by
  refine WP_lload_n dX10_within_0 rfl rfl ?_
  refine WP_lload_n dX10_within_1 rfl rfl ?_
  refine WQ_liflt (tgt := 17) dX10_within_2 dX10_within_3 (by decide) (fun c1 => ?_) (fun c1 => ?_)
  · replace h := h.1 c1
    refine WP_iconst dX10_within_17 (by decide) ?_
    exact WQ_zreturn dX10_within_18 rfl ⟨by decide, by decide⟩ h
  · replace h := h.2 c1
    refine WP_lload_n dX10_within_6 rfl rfl ?_
    refine WP_lload dX10_within_7 rfl ?_
    refine WQ_lifgt (tgt := 17) dX10_within_9 dX10_within_10 (by decide) (fun c2 => ?_) (fun c2 => ?_)
    · replace h := h.1 c2
      refine WP_iconst dX10_within_17 (by decide) ?_
      exact WQ_zreturn dX10_within_18 rfl ⟨by decide, by decide⟩ h
    · replace h := h.2 c2
      refine WP_iconst dX10_within_13 (by decide) ?_
      refine WP_goto (tgt := 18) dX10_within_14 (by decide) ?_
      exact WQ_zreturn dX10_within_18 rfl ⟨by decide, by decide⟩ h

theorem s_X10_wordOf_0 {d : Nat} {sc : SC} {Q : Int → Mem → Prop} {μ : Mem} {a1 : Int}
    (h : (a1 = 2 → Q 3 μ) ∧ (a1 = 3 → Q 4 μ) ∧ (a1 = 4 → Q 5 μ) ∧ (a1 = 8 → Q 6 μ) ∧ (a1 = 16 → Q 0 μ) ∧ (a1 = 17 → Q 1 μ) ∧ (a1 = 18 → Q 2 μ) ∧ (a1 = 19 → (μ 183 15 ≠ 2 → Q (-1) μ) ∧ (μ 183 15 = 2 → Q 7 μ)) ∧ (a1 = 20 → (μ 183 15 ≠ 2 → Q (-1) μ) ∧ (μ 183 15 = 2 → Q 8 μ)) ∧ ((a1 ≠ 2 ∧ a1 ≠ 3 ∧ a1 ≠ 4 ∧ a1 ≠ 8 ∧ a1 ≠ 16 ∧ a1 ≠ 17 ∧ a1 ≠ 18 ∧ a1 ≠ 19 ∧ a1 ≠ 20) → Q (-1) μ)) :
    WQ mX10_wordOf d sc (ZI sc Q) 0 [(2, 183), (0, a1)] [] μ := by
  refine WP_iload_n dX10_wordOf_0 rfl rfl ?_
  have hD : (a1 ≠ 2 ∧ a1 ≠ 3 ∧ a1 ≠ 4 ∧ a1 ≠ 8 ∧ a1 ≠ 16 ∧ a1 ≠ 17 ∧ a1 ≠ 18 ∧ a1 ≠ 19 ∧ a1 ≠ 20) → WQ mX10_wordOf d sc (ZI sc Q) 137 [(2, 183), (0, a1)] [] μ := by
    intro c1
    replace h := h.2.2.2.2.2.2.2.2.2 c1
    refine WP_iconst dX10_wordOf_137 (by decide) ?_
    exact WQ_ireturn dX10_wordOf_138 rfl h
  rcases (show (a1 < 2 ∨ 20 < a1) ∨ a1 = 2 ∨ a1 = 3 ∨ a1 = 4 ∨ a1 = 5 ∨ a1 = 6 ∨ a1 = 7 ∨ a1 = 8 ∨ a1 = 9 ∨ a1 = 10 ∨ a1 = 11 ∨ a1 = 12 ∨ a1 = 13 ∨ a1 = 14 ∨ a1 = 15 ∨ a1 = 16 ∨ a1 = 17 ∨ a1 = 18 ∨ a1 = 19 ∨ a1 = 20 by omega) with c1 | c1 | c1 | c1 | c1 | c1 | c1 | c1 | c1 | c1 | c1 | c1 | c1 | c1 | c1 | c1 | c1 | c1 | c1 | c1
  · exact WP_tableOut (tgt := 137) dX10_wordOf_1 c1 (by decide) (hD (by omega))
  · refine WP_tableIn (tgt := 98) dX10_wordOf_1 (by omega) (by omega) (by rw [c1]; rfl) (by decide) ?_
    replace h := h.1 c1
    refine WP_iconst dX10_wordOf_98 (by decide) ?_
    exact WQ_ireturn dX10_wordOf_99 rfl h
  · refine WP_tableIn (tgt := 100) dX10_wordOf_1 (by omega) (by omega) (by rw [c1]; rfl) (by decide) ?_
    replace h := h.2.1 c1
    refine WP_iconst dX10_wordOf_100 (by decide) ?_
    exact WQ_ireturn dX10_wordOf_101 rfl h
  · refine WP_tableIn (tgt := 102) dX10_wordOf_1 (by omega) (by omega) (by rw [c1]; rfl) (by decide) ?_
    replace h := h.2.2.1 c1
    refine WP_iconst dX10_wordOf_102 (by decide) ?_
    exact WQ_ireturn dX10_wordOf_103 rfl h
  · exact WP_tableIn (tgt := 137) dX10_wordOf_1 (by omega) (by omega) (by rw [c1]; rfl) (by decide) (hD (by omega))
  · exact WP_tableIn (tgt := 137) dX10_wordOf_1 (by omega) (by omega) (by rw [c1]; rfl) (by decide) (hD (by omega))
  · exact WP_tableIn (tgt := 137) dX10_wordOf_1 (by omega) (by omega) (by rw [c1]; rfl) (by decide) (hD (by omega))
  · refine WP_tableIn (tgt := 104) dX10_wordOf_1 (by omega) (by omega) (by rw [c1]; rfl) (by decide) ?_
    replace h := h.2.2.2.1 c1
    refine WP_bipush dX10_wordOf_104 (by decide +kernel) (by decide) ?_
    exact WQ_ireturn dX10_wordOf_106 rfl h
  · exact WP_tableIn (tgt := 137) dX10_wordOf_1 (by omega) (by omega) (by rw [c1]; rfl) (by decide) (hD (by omega))
  · exact WP_tableIn (tgt := 137) dX10_wordOf_1 (by omega) (by omega) (by rw [c1]; rfl) (by decide) (hD (by omega))
  · exact WP_tableIn (tgt := 137) dX10_wordOf_1 (by omega) (by omega) (by rw [c1]; rfl) (by decide) (hD (by omega))
  · exact WP_tableIn (tgt := 137) dX10_wordOf_1 (by omega) (by omega) (by rw [c1]; rfl) (by decide) (hD (by omega))
  · exact WP_tableIn (tgt := 137) dX10_wordOf_1 (by omega) (by omega) (by rw [c1]; rfl) (by decide) (hD (by omega))
  · exact WP_tableIn (tgt := 137) dX10_wordOf_1 (by omega) (by omega) (by rw [c1]; rfl) (by decide) (hD (by omega))
  · exact WP_tableIn (tgt := 137) dX10_wordOf_1 (by omega) (by omega) (by rw [c1]; rfl) (by decide) (hD (by omega))
  · refine WP_tableIn (tgt := 92) dX10_wordOf_1 (by omega) (by omega) (by rw [c1]; rfl) (by decide) ?_
    replace h := h.2.2.2.2.1 c1
    refine WP_iconst dX10_wordOf_92 (by decide) ?_
    exact WQ_ireturn dX10_wordOf_93 rfl h
  · refine WP_tableIn (tgt := 94) dX10_wordOf_1 (by omega) (by omega) (by rw [c1]; rfl) (by decide) ?_
    replace h := h.2.2.2.2.2.1 c1
    refine WP_iconst dX10_wordOf_94 (by decide) ?_
    exact WQ_ireturn dX10_wordOf_95 rfl h
  · refine WP_tableIn (tgt := 96) dX10_wordOf_1 (by omega) (by omega) (by rw [c1]; rfl) (by decide) ?_
    replace h := h.2.2.2.2.2.2.1 c1
    refine WP_iconst dX10_wordOf_96 (by decide) ?_
    exact WQ_ireturn dX10_wordOf_97 rfl h
  · refine WP_tableIn (tgt := 107) dX10_wordOf_1 (by omega) (by omega) (by rw [c1]; rfl) (by decide) ?_
    replace h := h.2.2.2.2.2.2.2.1 c1
    refine WP_aload_n dX10_wordOf_107 rfl rfl ⟨Nat.le_of_ble_eq_true rfl, Nat.le_of_ble_eq_true rfl⟩ ?_
    refine WP_getfield (ci := 10) (j := 15) (n := 49) (t := 0) (x := μ 183 15) dX10_wordOf_108 f_X10_174 k_183 rfl rfl ?_
    refine WP_iconst dX10_wordOf_111 (by decide) ?_
    refine WQ_icmp_ne (tgt := 120) dX10_wordOf_112 (by decide) (fun c2 => ?_) (fun c2 => ?_)
    · replace h := h.1 c2
      refine WP_iconst dX10_wordOf_120 (by decide) ?_
      exact WQ_ireturn dX10_wordOf_121 rfl h
    · replace h := h.2 c2
      refine WP_bipush dX10_wordOf_115 (by decide +kernel) (by decide) ?_
      refine WP_goto (tgt := 121) dX10_wordOf_117 (by decide) ?_
      exact WQ_ireturn dX10_wordOf_121 rfl h
  · refine WP_tableIn (tgt := 122) dX10_wordOf_1 (by omega) (by omega) (by rw [c1]; rfl) (by decide) ?_
    replace h := h.2.2.2.2.2.2.2.2.1 c1
    refine WP_aload_n dX10_wordOf_122 rfl rfl ⟨Nat.le_of_ble_eq_true rfl, Nat.le_of_ble_eq_true rfl⟩ ?_
    refine WP_getfield (ci := 10) (j := 15) (n := 49) (t := 0) (x := μ 183 15) dX10_wordOf_123 f_X10_174 k_183 rfl rfl ?_
    refine WP_iconst dX10_wordOf_126 (by decide) ?_
    refine WQ_icmp_ne (tgt := 135) dX10_wordOf_127 (by decide) (fun c3 => ?_) (fun c3 => ?_)
    · replace h := h.1 c3
      refine WP_iconst dX10_wordOf_135 (by decide) ?_
      exact WQ_ireturn dX10_wordOf_136 rfl h
    · replace h := h.2 c3
      refine WP_bipush dX10_wordOf_130 (by decide +kernel) (by decide) ?_
      refine WP_goto (tgt := 136) dX10_wordOf_132 (by decide) ?_
      exact WQ_ireturn dX10_wordOf_136 rfl h

theorem s_X10_worst_0 {d : Nat} {sc : SC} {Q : Int → Mem → Prop} {μ : Mem}
    (h : ∀ μ1, μ1 = mup μ 183 0 0 → CAv mX10_laysDay d sc [(2, 183)] μ1 (fun μ3 => WQ mX10_worst d sc (ZI sc Q) 15 [(2, 183), (0, (-1)), (0, 0), (0, 0)] [] μ3)) :
    WQ mX10_worst d sc (ZI sc Q) 0 [(2, 183), (9, 0), (9, 0), (9, 0)] [] μ := by
  refine WP_aload_n dX10_worst_0 rfl rfl ⟨Nat.le_of_ble_eq_true rfl, Nat.le_of_ble_eq_true rfl⟩ ?_
  refine WP_iconst dX10_worst_1 (by decide) ?_
  refine WQ_put (ci := 10) (j := 0) (n := 49) dX10_worst_2 f_X10_1 k_183 rfl (fun μ1 eμ1 => ?_)
  replace h := h μ1 eμ1
  refine WP_aload_n dX10_worst_5 rfl rfl ⟨Nat.le_of_ble_eq_true rfl, Nat.le_of_ble_eq_true rfl⟩ ?_
  refine WQ_invVv (v := (2, 183)) (as := []) dX10_worst_6 l_X10_308 mw_X10_laysDay mi_X10_laysDay ms_X10_laysDay mo_X10_laysDay (rcv (ci := 10) (n := 49) (r := (RX10, TX10, 49)) k_183 rfl rfl) (Nat.le_of_ble_eq_true rfl) h rfl (fun μ3 h => ?_)
  refine WP_iconst dX10_worst_9 (by decide) ?_
  refine WP_istore_n (L' := [(2, 183), (0, (-1)), (9, 0), (9, 0)]) dX10_worst_10 rfl (by decide) rfl ?_
  refine WP_iconst dX10_worst_11 (by decide) ?_
  refine WP_istore_n (L' := [(2, 183), (0, (-1)), (0, 0), (9, 0)]) dX10_worst_12 rfl (by decide) rfl ?_
  refine WP_iconst dX10_worst_13 (by decide) ?_
  refine WP_istore_n (L' := [(2, 183), (0, (-1)), (0, 0), (0, 0)]) dX10_worst_14 rfl (by decide) rfl ?_
  exact h

theorem s_X10_worst_15 {d : Nat} {sc : SC} {Q : Int → Mem → Prop} {μ : Mem} {x1 x2 x3 : Int}
    (h : (100 ≤ x3 → Q x1 μ) ∧ (x3 < 100 → CAi mX10_crowdAt d sc [(2, 183), (0, x3)] μ (fun r2 μ3 => (x2 < r2 → CAi mX10_crowdAt d sc [(2, 183), (0, x3)] μ3 (fun r5 μ6 => (-2147483648 ≤ x3 + 1 ∧ x3 + 1 < 2147483648) ∧ ∀ v8 : Int, v8 = x3 + 1 → WQ mX10_worst d sc (ZI sc Q) 15 [(2, 183), (0, x3), (0, r5), (0, v8)] [] μ6)) ∧ (r2 ≤ x2 → (-2147483648 ≤ x3 + 1 ∧ x3 + 1 < 2147483648) ∧ ∀ v10 : Int, v10 = x3 + 1 → WQ mX10_worst d sc (ZI sc Q) 15 [(2, 183), (0, x1), (0, x2), (0, v10)] [] μ3)))) :
    WQ mX10_worst d sc (ZI sc Q) 15 [(2, 183), (0, x1), (0, x2), (0, x3)] [] μ := by
  refine WP_iload_n dX10_worst_15 rfl rfl ?_
  refine WP_bipush dX10_worst_16 (by decide +kernel) (by decide) ?_
  refine WQ_icmp_ge (tgt := 47) dX10_worst_18 (by decide) (fun c1 => ?_) (fun c1 => ?_)
  · replace h := h.1 c1
    refine WP_iload_n dX10_worst_47 rfl rfl ?_
    exact WQ_ireturn dX10_worst_48 rfl h
  · replace h := h.2 c1
    refine WP_aload_n dX10_worst_21 rfl rfl ⟨Nat.le_of_ble_eq_true rfl, Nat.le_of_ble_eq_true rfl⟩ ?_
    refine WP_iload_n dX10_worst_22 rfl rfl ?_
    refine WQ_invVi (v := (2, 183)) (as := [(0, x3)]) dX10_worst_23 l_X10_402 mw_X10_crowdAt mi_X10_crowdAt ms_X10_crowdAt mo_X10_crowdAt (rcv (ci := 10) (n := 49) (r := (RX10, TX10, 49)) k_183 rfl rfl) (Nat.le_of_ble_eq_true rfl) h rfl (fun r2 μ3 h => ?_)
    refine WP_iload_n dX10_worst_26 rfl rfl ?_
    refine WQ_icmp_gt (tgt := 33) dX10_worst_27 (by decide) (fun c4 => ?_) (fun c4 => ?_)
    · replace h := h.1 c4
      refine WP_iload_n dX10_worst_33 rfl rfl ?_
      refine WP_istore_n (L' := [(2, 183), (0, x3), (0, x2), (0, x3)]) dX10_worst_34 rfl (by decide) rfl ?_
      refine WP_aload_n dX10_worst_35 rfl rfl ⟨Nat.le_of_ble_eq_true rfl, Nat.le_of_ble_eq_true rfl⟩ ?_
      refine WP_iload_n dX10_worst_36 rfl rfl ?_
      refine WQ_invVi (v := (2, 183)) (as := [(0, x3)]) dX10_worst_37 l_X10_402 mw_X10_crowdAt mi_X10_crowdAt ms_X10_crowdAt mo_X10_crowdAt (rcv (ci := 10) (n := 49) (r := (RX10, TX10, 49)) k_183 rfl rfl) (Nat.le_of_ble_eq_true rfl) h rfl (fun r5 μ6 h => ?_)
      refine WP_istore_n (L' := [(2, 183), (0, x3), (0, r5), (0, x3)]) dX10_worst_40 rfl (by decide) rfl ?_
      obtain ⟨g7, h⟩ := h
      refine WQ_iinc dX10_worst_41 rfl (by decide) g7 (fun v8 e8 => ?_)
      refine WP_same (L' := [(2, 183), (0, x3), (0, r5), (0, v8)]) rfl ?_
      replace h := h v8 e8
      refine WP_goto (tgt := 15) dX10_worst_44 (by decide) ?_
      exact h
    · replace h := h.2 c4
      refine WP_goto (tgt := 41) dX10_worst_30 (by decide) ?_
      obtain ⟨g9, h⟩ := h
      refine WQ_iinc dX10_worst_41 rfl (by decide) g9 (fun v10 e10 => ?_)
      refine WP_same (L' := [(2, 183), (0, x1), (0, x2), (0, v10)]) rfl ?_
      replace h := h v10 e10
      refine WP_goto (tgt := 15) dX10_worst_44 (by decide) ?_
      exact h

theorem s_X10_write_0 {d : Nat} {sc : SC} {Q : Int → Mem → Prop} {μ : Mem} {a1 a2 a3 : Int}
    (h : ∀ μ1, μ1 = mup μ 183 0 0 → CAi mX10_noTray d sc [(2, 183), (0, a1)] μ1 (fun r2 μ3 => (r2 = 0 → (0 ≤ a1 ∧ a1 < 4) ∧ (-2147483648 ≤ (μ3 210 a1) - 1 ∧ (μ3 210 a1) - 1 < 2147483648) ∧ CAi mX10_within d sc [(1, a2), (1, 0), (1, (μ3 210 a1) - 1)] μ3 (fun r7 μ8 => (r7 ≠ 0 → (-2147483648 ≤ 40 * a1 ∧ 40 * a1 < 2147483648) ∧ (-2147483648 ≤ (40 * a1) + a2 ∧ (40 * a1) + a2 < 2147483648) ∧ (0 ≤ a1 ∧ a1 < 4) ∧ CAl mX10_cut d sc [(1, a3), (0, μ8 209 a1)] μ8 (fun r13 μ14 => (0 ≤ (40 * a1) + a2 ∧ (40 * a1) + a2 < 160) ∧ (∀ μ16, μ16 = mup μ14 211 ((40 * a1) + a2) r13 → (-2147483648 ≤ 40 * a1 ∧ 40 * a1 < 2147483648) ∧ (-2147483648 ≤ (40 * a1) + a2 ∧ (40 * a1) + a2 < 2147483648) ∧ (0 ≤ (40 * a1) + a2 ∧ (40 * a1) + a2 < 160) ∧ Q (μ16 211 ((40 * a1) + a2)) μ16))) ∧ (r7 = 0 → Q (-7) μ8))) ∧ (r2 ≠ 0 → Q r2 μ3))) :
    WQ mX10_write d sc (ZL sc Q) 0 [(2, 183), (0, a1), (0, a2), (1, a3), (9, 0), (9, 0)] [] μ := by
  refine WP_aload_n dX10_write_0 rfl rfl ⟨Nat.le_of_ble_eq_true rfl, Nat.le_of_ble_eq_true rfl⟩ ?_
  refine WP_iconst dX10_write_1 (by decide) ?_
  refine WQ_put (ci := 10) (j := 0) (n := 49) dX10_write_2 f_X10_1 k_183 rfl (fun μ1 eμ1 => ?_)
  replace h := h μ1 eμ1
  refine WP_aload_n dX10_write_5 rfl rfl ⟨Nat.le_of_ble_eq_true rfl, Nat.le_of_ble_eq_true rfl⟩ ?_
  refine WP_iload_n dX10_write_6 rfl rfl ?_
  refine WQ_invVi (v := (2, 183)) (as := [(0, a1)]) dX10_write_7 l_X10_372 mw_X10_noTray mi_X10_noTray ms_X10_noTray mo_X10_noTray (rcv (ci := 10) (n := 49) (r := (RX10, TX10, 49)) k_183 rfl rfl) (Nat.le_of_ble_eq_true rfl) h rfl (fun r2 μ3 h => ?_)
  refine WP_istore (L' := [(2, 183), (0, a1), (0, a2), (1, a3), (9, 0), (0, r2)]) dX10_write_10 (by decide) rfl ?_
  refine WP_iload dX10_write_12 rfl ?_
  refine WQ_ifeq (tgt := 21) dX10_write_14 (by decide) (fun c4 => ?_) (fun c4 => ?_)
  · replace h := h.1 c4
    refine WP_iload_n dX10_write_21 rfl rfl ?_
    refine WP_i2l dX10_write_22 ?_
    refine WP_lconst dX10_write_23 rfl ?_
    refine WP_aload_n dX10_write_24 rfl rfl ⟨Nat.le_of_ble_eq_true rfl, Nat.le_of_ble_eq_true rfl⟩ ?_
    refine WP_getfield (ci := 10) (j := 47) (n := 49) (t := 2) (x := 210) dX10_write_25 f_X10_98 k_183 rfl rfl ?_
    refine WP_iload_n dX10_write_28 rfl rfl ?_
    obtain ⟨g5, h⟩ := h
    refine WP_iaload (n := 4) dX10_write_29 k_210 g5 ?_
    refine WP_iconst dX10_write_30 (by decide) ?_
    obtain ⟨g6, h⟩ := h
    refine WP_isub dX10_write_31 g6 ?_
    refine WP_i2l dX10_write_32 ?_
    refine WQ_invSi (as := [(1, a2), (1, 0), (1, (μ3 210 a1) - 1)]) dX10_write_33 l_X10_170 mw_X10_within mt_X10_within mo_X10_within (Nat.le_of_ble_eq_true rfl) h rfl (fun r7 μ8 h => ?_)
    refine WQ_ifne (tgt := 43) dX10_write_36 (by decide) (fun c9 => ?_) (fun c9 => ?_)
    · replace h := h.1 c9
      refine WP_aload_n dX10_write_43 rfl rfl ⟨Nat.le_of_ble_eq_true rfl, Nat.le_of_ble_eq_true rfl⟩ ?_
      refine WP_getfield (ci := 10) (j := 48) (n := 49) (t := 2) (x := 211) dX10_write_44 f_X10_101 k_183 rfl rfl ?_
      refine WP_bipush dX10_write_47 (by decide +kernel) (by decide) ?_
      refine WP_iload_n dX10_write_49 rfl rfl ?_
      obtain ⟨g10, h⟩ := h
      refine WP_imul dX10_write_50 g10 ?_
      refine WP_iload_n dX10_write_51 rfl rfl ?_
      obtain ⟨g11, h⟩ := h
      refine WP_iadd dX10_write_52 g11 ?_
      refine WP_lload_n dX10_write_53 rfl rfl ?_
      refine WP_aload_n dX10_write_54 rfl rfl ⟨Nat.le_of_ble_eq_true rfl, Nat.le_of_ble_eq_true rfl⟩ ?_
      refine WP_getfield (ci := 10) (j := 46) (n := 49) (t := 2) (x := 209) dX10_write_55 f_X10_95 k_183 rfl rfl ?_
      refine WP_iload_n dX10_write_58 rfl rfl ?_
      obtain ⟨g12, h⟩ := h
      refine WP_iaload (n := 4) dX10_write_59 k_209 g12 ?_
      refine WQ_invSl (as := [(1, a3), (0, μ8 209 a1)]) dX10_write_60 l_X10_477 mw_X10_cut mt_X10_cut mo_X10_cut (Nat.le_of_ble_eq_true rfl) h rfl (fun r13 μ14 h => ?_)
      obtain ⟨g15, h⟩ := h
      refine WQ_last (n := 160) dX10_write_63 k_211 g15 (fun μ16 eμ16 => ?_)
      replace h := h μ16 eμ16
      refine WP_aload_n dX10_write_64 rfl rfl ⟨Nat.le_of_ble_eq_true rfl, Nat.le_of_ble_eq_true rfl⟩ ?_
      refine WP_getfield (ci := 10) (j := 48) (n := 49) (t := 2) (x := 211) dX10_write_65 f_X10_101 k_183 rfl rfl ?_
      refine WP_bipush dX10_write_68 (by decide +kernel) (by decide) ?_
      refine WP_iload_n dX10_write_70 rfl rfl ?_
      obtain ⟨g17, h⟩ := h
      refine WP_imul dX10_write_71 g17 ?_
      refine WP_iload_n dX10_write_72 rfl rfl ?_
      obtain ⟨g18, h⟩ := h
      refine WP_iadd dX10_write_73 g18 ?_
      obtain ⟨g19, h⟩ := h
      refine WP_laload (n := 160) dX10_write_74 k_211 g19 ?_
      exact WQ_lreturn dX10_write_75 rfl h
    · replace h := h.2 c9
      refine WP_ldc2 dX10_write_39 c_X10_475 (by decide) ?_
      exact WQ_lreturn dX10_write_42 rfl h
  · replace h := h.2 c4
    refine WP_iload dX10_write_17 rfl ?_
    refine WP_i2l dX10_write_19 ?_
    exact WQ_lreturn dX10_write_20 rfl h

/-! segments, printed by program -/
theorem s_X10_answers_0 {d : Nat} {sc : SC} {Q : Int → Mem → Prop} {μ : Mem} {a1 : Int}
    (h : ∀ μ1, μ1 = mup μ 183 0 0 → CAi mX10_isPerson d sc [(2, 183), (1, a1)] μ1 (fun r2 μ3 => (r2 ≠ 0 → CAv mX10_laysDay d sc [(2, 183)] μ3 (fun μ6 => (0 ≤ a1 ∧ a1 < 6) ∧ Q (μ6 203 a1) μ6)) ∧ (r2 = 0 → Q (-2) μ3))) :
    WQ mX10_answers d sc (ZI sc Q) 0 [(2, 183), (0, a1)] [] μ := by
  refine WP_aload_n dX10_answers_0 rfl rfl ⟨Nat.le_of_ble_eq_true rfl, Nat.le_of_ble_eq_true rfl⟩ ?_
  refine WP_iconst dX10_answers_1 (by decide) ?_
  refine WQ_put (ci := 10) (j := 0) (n := 49) dX10_answers_2 f_X10_1 k_183 rfl (fun μ1 eμ1 => ?_)
  replace h := h μ1 eμ1
  refine WP_aload_n dX10_answers_5 rfl rfl ⟨Nat.le_of_ble_eq_true rfl, Nat.le_of_ble_eq_true rfl⟩ ?_
  refine WP_iload_n dX10_answers_6 rfl rfl ?_
  refine WP_i2l dX10_answers_7 ?_
  refine WQ_invVi (v := (2, 183)) (as := [(1, a1)]) dX10_answers_8 l_X10_235 mw_X10_isPerson mi_X10_isPerson ms_X10_isPerson mo_X10_isPerson (rcv (ci := 10) (n := 49) (r := (RX10, TX10, 49)) k_183 rfl rfl) (Nat.le_of_ble_eq_true rfl) h rfl (fun r2 μ3 h => ?_)
  refine WQ_ifne (tgt := 17) dX10_answers_11 (by decide) (fun c4 => ?_) (fun c4 => ?_)
  · replace h := h.1 c4
    refine WP_aload_n dX10_answers_17 rfl rfl ⟨Nat.le_of_ble_eq_true rfl, Nat.le_of_ble_eq_true rfl⟩ ?_
    refine WQ_invVv (v := (2, 183)) (as := []) dX10_answers_18 l_X10_308 mw_X10_laysDay mi_X10_laysDay ms_X10_laysDay mo_X10_laysDay (rcv (ci := 10) (n := 49) (r := (RX10, TX10, 49)) k_183 rfl rfl) (Nat.le_of_ble_eq_true rfl) h rfl (fun μ6 h => ?_)
    refine WP_aload_n dX10_answers_21 rfl rfl ⟨Nat.le_of_ble_eq_true rfl, Nat.le_of_ble_eq_true rfl⟩ ?_
    refine WP_getfield (ci := 10) (j := 32) (n := 49) (t := 2) (x := 203) dX10_answers_22 f_X10_76 k_183 rfl rfl ?_
    refine WP_iload_n dX10_answers_25 rfl rfl ?_
    obtain ⟨g7, h⟩ := h
    refine WP_iaload (n := 6) dX10_answers_26 k_203 g7 ?_
    exact WQ_ireturn dX10_answers_27 rfl h
  · replace h := h.2 c4
    refine WP_bipush dX10_answers_14 (by decide +kernel) (by decide) ?_
    exact WQ_ireturn dX10_answers_16 rfl h

theorem s_X10_apart_0 {d : Nat} {sc : SC} {Q : Int → Mem → Prop} {μ : Mem} {a0 a1 : Int}
    (h : (a1 ≤ a0 → (-2147483648 ≤ a0 - a1 ∧ a0 - a1 < 2147483648) ∧ Q (a0 - a1) μ) ∧ (a0 < a1 → (-2147483648 ≤ a1 - a0 ∧ a1 - a0 < 2147483648) ∧ Q (a1 - a0) μ)) :
    WQ mX10_apart d sc (ZI sc Q) 0 [(0, a0), (0, a1)] [] μ := by
  refine WP_iload_n dX10_apart_0 rfl rfl ?_
  refine WP_iload_n dX10_apart_1 rfl rfl ?_
  refine WQ_icmp_ge (tgt := 11) dX10_apart_2 (by decide) (fun c1 => ?_) (fun c1 => ?_)
  · replace h := h.1 c1
    refine WP_iload_n dX10_apart_11 rfl rfl ?_
    refine WP_iload_n dX10_apart_12 rfl rfl ?_
    obtain ⟨g2, h⟩ := h
    refine WP_isub dX10_apart_13 g2 ?_
    exact WQ_ireturn dX10_apart_14 rfl h
  · replace h := h.2 c1
    refine WP_iload_n dX10_apart_5 rfl rfl ?_
    refine WP_iload_n dX10_apart_6 rfl rfl ?_
    obtain ⟨g3, h⟩ := h
    refine WP_isub dX10_apart_7 g3 ?_
    refine WP_goto (tgt := 14) dX10_apart_8 (by decide) ?_
    exact WQ_ireturn dX10_apart_14 rfl h

theorem s_X10_areTwo_0 {d : Nat} {sc : SC} {Q : Int → Mem → Prop} {μ : Mem} {a1 a3 : Int}
    (h : CAi mX10_isPerson d sc [(2, 183), (1, a1)] μ (fun r1 μ2 => (r1 = 0 → Q 0 μ2) ∧ (r1 ≠ 0 → CAi mX10_isPerson d sc [(2, 183), (1, a3)] μ2 (fun r4 μ5 => (r4 = 0 → Q 0 μ5) ∧ (r4 ≠ 0 → (a1 = a3 → Q 0 μ5) ∧ (a1 ≠ a3 → Q 1 μ5)))))) :
    WQ mX10_areTwo d sc (ZI sc Q) 0 [(2, 183), (1, a1), (9, 0), (1, a3), (9, 0)] [] μ := by
  refine WP_aload_n dX10_areTwo_0 rfl rfl ⟨Nat.le_of_ble_eq_true rfl, Nat.le_of_ble_eq_true rfl⟩ ?_
  refine WP_lload_n dX10_areTwo_1 rfl rfl ?_
  refine WQ_invVi (v := (2, 183)) (as := [(1, a1)]) dX10_areTwo_2 l_X10_235 mw_X10_isPerson mi_X10_isPerson ms_X10_isPerson mo_X10_isPerson (rcv (ci := 10) (n := 49) (r := (RX10, TX10, 49)) k_183 rfl rfl) (Nat.le_of_ble_eq_true rfl) h rfl (fun r1 μ2 h => ?_)
  refine WQ_ifeq (tgt := 26) dX10_areTwo_5 (by decide) (fun c3 => ?_) (fun c3 => ?_)
  · replace h := h.1 c3
    refine WP_iconst dX10_areTwo_26 (by decide) ?_
    exact WQ_zreturn dX10_areTwo_27 rfl ⟨by decide, by decide⟩ h
  · replace h := h.2 c3
    refine WP_aload_n dX10_areTwo_8 rfl rfl ⟨Nat.le_of_ble_eq_true rfl, Nat.le_of_ble_eq_true rfl⟩ ?_
    refine WP_lload_n dX10_areTwo_9 rfl rfl ?_
    refine WQ_invVi (v := (2, 183)) (as := [(1, a3)]) dX10_areTwo_10 l_X10_235 mw_X10_isPerson mi_X10_isPerson ms_X10_isPerson mo_X10_isPerson (rcv (ci := 10) (n := 49) (r := (RX10, TX10, 49)) k_183 rfl rfl) (Nat.le_of_ble_eq_true rfl) h rfl (fun r4 μ5 h => ?_)
    refine WQ_ifeq (tgt := 26) dX10_areTwo_13 (by decide) (fun c6 => ?_) (fun c6 => ?_)
    · replace h := h.1 c6
      refine WP_iconst dX10_areTwo_26 (by decide) ?_
      exact WQ_zreturn dX10_areTwo_27 rfl ⟨by decide, by decide⟩ h
    · replace h := h.2 c6
      refine WP_lload_n dX10_areTwo_16 rfl rfl ?_
      refine WP_lload_n dX10_areTwo_17 rfl rfl ?_
      refine WQ_lifeq (tgt := 26) dX10_areTwo_18 dX10_areTwo_19 (by decide) (fun c7 => ?_) (fun c7 => ?_)
      · replace h := h.1 c7
        refine WP_iconst dX10_areTwo_26 (by decide) ?_
        exact WQ_zreturn dX10_areTwo_27 rfl ⟨by decide, by decide⟩ h
      · replace h := h.2 c7
        refine WP_iconst dX10_areTwo_22 (by decide) ?_
        refine WP_goto (tgt := 27) dX10_areTwo_23 (by decide) ?_
        exact WQ_zreturn dX10_areTwo_27 rfl ⟨by decide, by decide⟩ h

theorem s_X10_atOnce_0 {d : Nat} {sc : SC} {Q : Int → Mem → Prop} {μ : Mem} {a1 a2 : Int}
    (h : ∀ μ1, μ1 = mup μ 183 0 0 → CAi mX10_isPerson d sc [(2, 183), (1, a1)] μ1 (fun r2 μ3 => (r2 ≠ 0 → (-2147483648 ≤ (iShl 1 (μ3 184 3)) - 1 ∧ (iShl 1 (μ3 184 3)) - 1 < 2147483648) ∧ CAi mX10_within d sc [(1, a2), (1, 0), (1, (iShl 1 (μ3 184 3)) - 1)] μ3 (fun r7 μ8 => (r7 ≠ 0 → (-2147483648 ≤ 64 + a1 ∧ 64 + a1 < 2147483648) ∧ (0 ≤ 64 + a1 ∧ 64 + a1 < 4119) ∧ (∀ v12 : Int, v12 = μ8 184 (64 + a1) → WQ mX10_atOnce d sc (ZI sc Q) 56 [(2, 183), (0, a1), (0, a2), (0, v12), (0, 0), (0, 0)] [] μ8)) ∧ (r7 = 0 → Q (-3) μ8))) ∧ (r2 = 0 → Q (-2) μ3))) :
    WQ mX10_atOnce d sc (ZI sc Q) 0 [(2, 183), (0, a1), (0, a2), (9, 0), (9, 0), (9, 0)] [] μ := by
  refine WP_aload_n dX10_atOnce_0 rfl rfl ⟨Nat.le_of_ble_eq_true rfl, Nat.le_of_ble_eq_true rfl⟩ ?_
  refine WP_iconst dX10_atOnce_1 (by decide) ?_
  refine WQ_put (ci := 10) (j := 0) (n := 49) dX10_atOnce_2 f_X10_1 k_183 rfl (fun μ1 eμ1 => ?_)
  replace h := h μ1 eμ1
  refine WP_aload_n dX10_atOnce_5 rfl rfl ⟨Nat.le_of_ble_eq_true rfl, Nat.le_of_ble_eq_true rfl⟩ ?_
  refine WP_iload_n dX10_atOnce_6 rfl rfl ?_
  refine WP_i2l dX10_atOnce_7 ?_
  refine WQ_invVi (v := (2, 183)) (as := [(1, a1)]) dX10_atOnce_8 l_X10_235 mw_X10_isPerson mi_X10_isPerson ms_X10_isPerson mo_X10_isPerson (rcv (ci := 10) (n := 49) (r := (RX10, TX10, 49)) k_183 rfl rfl) (Nat.le_of_ble_eq_true rfl) h rfl (fun r2 μ3 h => ?_)
  refine WQ_ifne (tgt := 17) dX10_atOnce_11 (by decide) (fun c4 => ?_) (fun c4 => ?_)
  · replace h := h.1 c4
    refine WP_iload_n dX10_atOnce_17 rfl rfl ?_
    refine WP_i2l dX10_atOnce_18 ?_
    refine WP_lconst dX10_atOnce_19 rfl ?_
    refine WP_iconst dX10_atOnce_20 (by decide) ?_
    refine WP_aload_n dX10_atOnce_21 rfl rfl ⟨Nat.le_of_ble_eq_true rfl, Nat.le_of_ble_eq_true rfl⟩ ?_
    refine WP_getfield (ci := 10) (j := 1) (n := 49) (t := 2) (x := 184) dX10_atOnce_22 f_X10_13 k_183 rfl rfl ?_
    refine WP_iconst dX10_atOnce_25 (by decide) ?_
    refine WP_iaload (n := 4119) dX10_atOnce_26 k_184 ⟨by decide, by decide⟩ ?_
    refine WP_ishl dX10_atOnce_27 ?_
    refine WP_iconst dX10_atOnce_28 (by decide) ?_
    obtain ⟨g6, h⟩ := h
    refine WP_isub dX10_atOnce_29 g6 ?_
    refine WP_i2l dX10_atOnce_30 ?_
    refine WQ_invSi (as := [(1, a2), (1, 0), (1, (iShl 1 (μ3 184 3)) - 1)]) dX10_atOnce_31 l_X10_170 mw_X10_within mt_X10_within mo_X10_within (Nat.le_of_ble_eq_true rfl) h rfl (fun r7 μ8 h => ?_)
    refine WQ_ifne (tgt := 40) dX10_atOnce_34 (by decide) (fun c9 => ?_) (fun c9 => ?_)
    · replace h := h.1 c9
      refine WP_aload_n dX10_atOnce_40 rfl rfl ⟨Nat.le_of_ble_eq_true rfl, Nat.le_of_ble_eq_true rfl⟩ ?_
      refine WP_getfield (ci := 10) (j := 1) (n := 49) (t := 2) (x := 184) dX10_atOnce_41 f_X10_13 k_183 rfl rfl ?_
      refine WP_bipush dX10_atOnce_44 (by decide +kernel) (by decide) ?_
      refine WP_iload_n dX10_atOnce_46 rfl rfl ?_
      obtain ⟨g10, h⟩ := h
      refine WP_iadd dX10_atOnce_47 g10 ?_
      obtain ⟨g11, h⟩ := h
      refine WP_iaload (n := 4119) dX10_atOnce_48 k_184 g11 ?_
      refine WQ_nm0 (fun v12 e12 => ?_)
      replace h := h v12 e12
      refine WP_istore_n (L' := [(2, 183), (0, a1), (0, a2), (0, v12), (9, 0), (9, 0)]) dX10_atOnce_49 rfl (by decide) rfl ?_
      refine WP_iconst dX10_atOnce_50 (by decide) ?_
      refine WP_istore (L' := [(2, 183), (0, a1), (0, a2), (0, v12), (0, 0), (9, 0)]) dX10_atOnce_51 (by decide) rfl ?_
      refine WP_iconst dX10_atOnce_53 (by decide) ?_
      refine WP_istore (L' := [(2, 183), (0, a1), (0, a2), (0, v12), (0, 0), (0, 0)]) dX10_atOnce_54 (by decide) rfl ?_
      exact h
    · replace h := h.2 c9
      refine WP_bipush dX10_atOnce_37 (by decide +kernel) (by decide) ?_
      exact WQ_ireturn dX10_atOnce_39 rfl h
  · replace h := h.2 c4
    refine WP_bipush dX10_atOnce_14 (by decide +kernel) (by decide) ?_
    exact WQ_ireturn dX10_atOnce_16 rfl h

theorem s_X10_atOnce_56 {d : Nat} {sc : SC} {Q : Int → Mem → Prop} {μ : Mem} {x1 x2 x3 x4 x5 : Int}
    (h : CAi mX10_cellMany d sc [(2, 183)] μ (fun r1 μ2 => (r1 ≤ x5 → (-2147483648 ≤ 64 + x1 ∧ 64 + x1 < 2147483648) ∧ (0 ≤ 64 + x1 ∧ 64 + x1 < 4119) ∧ (∀ μ6, μ6 = mup μ2 184 (64 + x1) x3 → Q x4 μ6)) ∧ (x5 < r1 → (-2147483648 ≤ 64 + x1 ∧ 64 + x1 < 2147483648) ∧ (0 ≤ 64 + x1 ∧ 64 + x1 < 4119) ∧ (∀ μ9, μ9 = mup μ2 184 (64 + x1) x5 → CAi mX10_oneGap d sc [(2, 183), (0, x1), (0, x2)] μ9 (fun r10 μ11 => (r10 ≠ (-1) → (-2147483648 ≤ x4 + 1 ∧ x4 + 1 < 2147483648) ∧ (∀ v14 : Int, v14 = x4 + 1 → (-2147483648 ≤ x5 + 1 ∧ x5 + 1 < 2147483648) ∧ ∀ v16 : Int, v16 = x5 + 1 → WQ mX10_atOnce d sc (ZI sc Q) 56 [(2, 183), (0, x1), (0, x2), (0, x3), (0, v14), (0, v16)] [] μ11)) ∧ (r10 = (-1) → (-2147483648 ≤ x4 + 0 ∧ x4 + 0 < 2147483648) ∧ (∀ v18 : Int, v18 = x4 + 0 → (-2147483648 ≤ x5 + 1 ∧ x5 + 1 < 2147483648) ∧ ∀ v20 : Int, v20 = x5 + 1 → WQ mX10_atOnce d sc (ZI sc Q) 56 [(2, 183), (0, x1), (0, x2), (0, x3), (0, v18), (0, v20)] [] μ11))))))) :
    WQ mX10_atOnce d sc (ZI sc Q) 56 [(2, 183), (0, x1), (0, x2), (0, x3), (0, x4), (0, x5)] [] μ := by
  refine WP_iload dX10_atOnce_56 rfl ?_
  refine WP_aload_n dX10_atOnce_58 rfl rfl ⟨Nat.le_of_ble_eq_true rfl, Nat.le_of_ble_eq_true rfl⟩ ?_
  refine WQ_invVi (v := (2, 183)) (as := []) dX10_atOnce_59 l_X10_313 mw_X10_cellMany mi_X10_cellMany ms_X10_cellMany mo_X10_cellMany (rcv (ci := 10) (n := 49) (r := (RX10, TX10, 49)) k_183 rfl rfl) (Nat.le_of_ble_eq_true rfl) h rfl (fun r1 μ2 h => ?_)
  refine WQ_icmp_ge (tgt := 102) dX10_atOnce_62 (by decide) (fun c3 => ?_) (fun c3 => ?_)
  · replace h := h.1 c3
    refine WP_aload_n dX10_atOnce_102 rfl rfl ⟨Nat.le_of_ble_eq_true rfl, Nat.le_of_ble_eq_true rfl⟩ ?_
    refine WP_getfield (ci := 10) (j := 1) (n := 49) (t := 2) (x := 184) dX10_atOnce_103 f_X10_13 k_183 rfl rfl ?_
    refine WP_bipush dX10_atOnce_106 (by decide +kernel) (by decide) ?_
    refine WP_iload_n dX10_atOnce_108 rfl rfl ?_
    obtain ⟨g4, h⟩ := h
    refine WP_iadd dX10_atOnce_109 g4 ?_
    refine WP_iload_n dX10_atOnce_110 rfl rfl ?_
    obtain ⟨g5, h⟩ := h
    refine WQ_iast (n := 4119) dX10_atOnce_111 k_184 g5 (fun μ6 eμ6 => ?_)
    replace h := h μ6 eμ6
    refine WP_iload dX10_atOnce_112 rfl ?_
    exact WQ_ireturn dX10_atOnce_114 rfl h
  · replace h := h.2 c3
    refine WP_aload_n dX10_atOnce_65 rfl rfl ⟨Nat.le_of_ble_eq_true rfl, Nat.le_of_ble_eq_true rfl⟩ ?_
    refine WP_getfield (ci := 10) (j := 1) (n := 49) (t := 2) (x := 184) dX10_atOnce_66 f_X10_13 k_183 rfl rfl ?_
    refine WP_bipush dX10_atOnce_69 (by decide +kernel) (by decide) ?_
    refine WP_iload_n dX10_atOnce_71 rfl rfl ?_
    obtain ⟨g7, h⟩ := h
    refine WP_iadd dX10_atOnce_72 g7 ?_
    refine WP_iload dX10_atOnce_73 rfl ?_
    obtain ⟨g8, h⟩ := h
    refine WQ_iast (n := 4119) dX10_atOnce_75 k_184 g8 (fun μ9 eμ9 => ?_)
    replace h := h μ9 eμ9
    refine WP_iload dX10_atOnce_76 rfl ?_
    refine WP_aload_n dX10_atOnce_78 rfl rfl ⟨Nat.le_of_ble_eq_true rfl, Nat.le_of_ble_eq_true rfl⟩ ?_
    refine WP_iload_n dX10_atOnce_79 rfl rfl ?_
    refine WP_iload_n dX10_atOnce_80 rfl rfl ?_
    refine WQ_invVi (v := (2, 183)) (as := [(0, x1), (0, x2)]) dX10_atOnce_81 l_X10_418 mw_X10_oneGap mi_X10_oneGap ms_X10_oneGap mo_X10_oneGap (rcv (ci := 10) (n := 49) (r := (RX10, TX10, 49)) k_183 rfl rfl) (Nat.le_of_ble_eq_true rfl) h rfl (fun r10 μ11 h => ?_)
    refine WP_iconst dX10_atOnce_84 (by decide) ?_
    refine WQ_icmp_ne (tgt := 92) dX10_atOnce_85 (by decide) (fun c12 => ?_) (fun c12 => ?_)
    · replace h := h.1 c12
      refine WP_iconst dX10_atOnce_92 (by decide) ?_
      obtain ⟨g13, h⟩ := h
      refine WP_iadd dX10_atOnce_93 g13 ?_
      refine WQ_nm0 (fun v14 e14 => ?_)
      replace h := h v14 e14
      refine WP_istore (L' := [(2, 183), (0, x1), (0, x2), (0, x3), (0, v14), (0, x5)]) dX10_atOnce_94 (by decide) rfl ?_
      obtain ⟨g15, h⟩ := h
      refine WQ_iinc dX10_atOnce_96 rfl (by decide) g15 (fun v16 e16 => ?_)
      refine WP_same (L' := [(2, 183), (0, x1), (0, x2), (0, x3), (0, v14), (0, v16)]) rfl ?_
      replace h := h v16 e16
      refine WP_goto (tgt := 56) dX10_atOnce_99 (by decide) ?_
      exact h
    · replace h := h.2 c12
      refine WP_iconst dX10_atOnce_88 (by decide) ?_
      refine WP_goto (tgt := 93) dX10_atOnce_89 (by decide) ?_
      obtain ⟨g17, h⟩ := h
      refine WP_iadd dX10_atOnce_93 g17 ?_
      refine WQ_nm0 (fun v18 e18 => ?_)
      replace h := h v18 e18
      refine WP_istore (L' := [(2, 183), (0, x1), (0, x2), (0, x3), (0, v18), (0, x5)]) dX10_atOnce_94 (by decide) rfl ?_
      obtain ⟨g19, h⟩ := h
      refine WQ_iinc dX10_atOnce_96 rfl (by decide) g19 (fun v20 e20 => ?_)
      refine WP_same (L' := [(2, 183), (0, x1), (0, x2), (0, x3), (0, v18), (0, v20)]) rfl ?_
      replace h := h v20 e20
      refine WP_goto (tgt := 56) dX10_atOnce_99 (by decide) ?_
      exact h

theorem s_X10_attempt_0 {d : Nat} {sc : SC} {Q : Int → Mem → Prop} {μ : Mem} {a1 a2 : Int}
    (h : ∀ μ1, μ1 = mup μ 183 0 0 → CAi mX10_noHeard d sc [(2, 183), (0, a1), (0, a2)] μ1 (fun r2 μ3 => (r2 = 0 → CAi mX10_heardOf d sc [(2, 183), (0, a1), (0, a2), (0, (-1))] μ3 (fun r5 μ6 => (r5 ≠ 0 → WQ mX10_attempt d sc (ZI sc Q) 41 [(2, 183), (0, a1), (0, a2), (9, 0), (0, (-1)), (0, 268435456), (0, 0), (9, 0)] [] μ6) ∧ (r5 = 0 → Q (-1) μ6))) ∧ (r2 ≠ 0 → Q r2 μ3))) :
    WQ mX10_attempt d sc (ZI sc Q) 0 [(2, 183), (0, a1), (0, a2), (9, 0), (9, 0), (9, 0), (9, 0), (9, 0)] [] μ := by
  refine WP_aload_n dX10_attempt_0 rfl rfl ⟨Nat.le_of_ble_eq_true rfl, Nat.le_of_ble_eq_true rfl⟩ ?_
  refine WP_iconst dX10_attempt_1 (by decide) ?_
  refine WQ_put (ci := 10) (j := 0) (n := 49) dX10_attempt_2 f_X10_1 k_183 rfl (fun μ1 eμ1 => ?_)
  replace h := h μ1 eμ1
  refine WP_aload_n dX10_attempt_5 rfl rfl ⟨Nat.le_of_ble_eq_true rfl, Nat.le_of_ble_eq_true rfl⟩ ?_
  refine WP_iload_n dX10_attempt_6 rfl rfl ?_
  refine WP_iload_n dX10_attempt_7 rfl rfl ?_
  refine WQ_invVi (v := (2, 183)) (as := [(0, a1), (0, a2)]) dX10_attempt_8 l_X10_444 mw_X10_noHeard mi_X10_noHeard ms_X10_noHeard mo_X10_noHeard (rcv (ci := 10) (n := 49) (r := (RX10, TX10, 49)) k_183 rfl rfl) (Nat.le_of_ble_eq_true rfl) h rfl (fun r2 μ3 h => ?_)
  refine WP_istore_n (L' := [(2, 183), (0, a1), (0, a2), (0, r2), (9, 0), (9, 0), (9, 0), (9, 0)]) dX10_attempt_11 rfl (by decide) rfl ?_
  refine WP_iload_n dX10_attempt_12 rfl rfl ?_
  refine WQ_ifeq (tgt := 18) dX10_attempt_13 (by decide) (fun c4 => ?_) (fun c4 => ?_)
  · replace h := h.1 c4
    refine WP_aload_n dX10_attempt_18 rfl rfl ⟨Nat.le_of_ble_eq_true rfl, Nat.le_of_ble_eq_true rfl⟩ ?_
    refine WP_iload_n dX10_attempt_19 rfl rfl ?_
    refine WP_iload_n dX10_attempt_20 rfl rfl ?_
    refine WP_iconst dX10_attempt_21 (by decide) ?_
    refine WQ_invVi (v := (2, 183)) (as := [(0, a1), (0, a2), (0, (-1))]) dX10_attempt_22 l_X10_447 mw_X10_heardOf mi_X10_heardOf ms_X10_heardOf mo_X10_heardOf (rcv (ci := 10) (n := 49) (r := (RX10, TX10, 49)) k_183 rfl rfl) (Nat.le_of_ble_eq_true rfl) h rfl (fun r5 μ6 h => ?_)
    refine WQ_ifne (tgt := 30) dX10_attempt_25 (by decide) (fun c7 => ?_) (fun c7 => ?_)
    · replace h := h.1 c7
      refine WP_iconst dX10_attempt_30 (by decide) ?_
      refine WP_istore (L' := [(2, 183), (0, a1), (0, a2), (0, r2), (0, (-1)), (9, 0), (9, 0), (9, 0)]) dX10_attempt_31 (by decide) rfl ?_
      refine WP_ldcw dX10_attempt_33 c_X10_417 (by decide) ?_
      refine WP_istore (L' := [(2, 183), (0, a1), (0, a2), (0, r2), (0, (-1)), (0, 268435456), (9, 0), (9, 0)]) dX10_attempt_36 (by decide) rfl ?_
      refine WP_iconst dX10_attempt_38 (by decide) ?_
      refine WP_istore (L' := [(2, 183), (0, a1), (0, a2), (0, r2), (0, (-1)), (0, 268435456), (0, 0), (9, 0)]) dX10_attempt_39 (by decide) rfl ?_
      refine WP_lforget (L' := [(2, 183), (0, a1), (0, a2), (9, 0), (0, (-1)), (0, 268435456), (0, 0), (9, 0)]) rfl (fun i hi => ?_) h
      match i, hi with
      | 0, _ => exact Or.inl rfl
      | 1, _ => exact Or.inl rfl
      | 2, _ => exact Or.inl rfl
      | 3, _ => exact Or.inr rfl
      | 4, _ => exact Or.inl rfl
      | 5, _ => exact Or.inl rfl
      | 6, _ => exact Or.inl rfl
      | 7, _ => exact Or.inl rfl
      | i + 8, hi => exact absurd hi (by simp only [List.length_cons, List.length_nil]; omega)
    · replace h := h.2 c7
      refine WP_iconst dX10_attempt_28 (by decide) ?_
      exact WQ_ireturn dX10_attempt_29 rfl h
  · replace h := h.2 c4
    refine WP_iload_n dX10_attempt_16 rfl rfl ?_
    exact WQ_ireturn dX10_attempt_17 rfl h

theorem s_X10_attempt_41 {d : Nat} {sc : SC} {Q : Int → Mem → Prop} {μ : Mem} {x1 x2 x4 x5 x6 : Int}
    (h : (μ 184 3 ≤ x6 → Q x4 μ) ∧ (x6 < μ 184 3 → (x6 ≠ x2 → CAi mX10_mostOften d sc [(2, 183), (0, x1), (0, x2), (0, x6)] μ (fun r4 μ5 => (r4 < x5 → (-2147483648 ≤ x6 + 1 ∧ x6 + 1 < 2147483648) ∧ ∀ v8 : Int, v8 = x6 + 1 → WQ mX10_attempt d sc (ZI sc Q) 41 [(2, 183), (0, x1), (0, x2), (9, 0), (0, x6), (0, r4), (0, v8), (9, 0)] [] μ5) ∧ (x5 ≤ r4 → (-2147483648 ≤ x6 + 1 ∧ x6 + 1 < 2147483648) ∧ ∀ v10 : Int, v10 = x6 + 1 → WQ mX10_attempt d sc (ZI sc Q) 41 [(2, 183), (0, x1), (0, x2), (9, 0), (0, x4), (0, x5), (0, v10), (9, 0)] [] μ5))) ∧ (x6 = x2 → (268435456 < x5 → (-2147483648 ≤ x6 + 1 ∧ x6 + 1 < 2147483648) ∧ ∀ v13 : Int, v13 = x6 + 1 → WQ mX10_attempt d sc (ZI sc Q) 41 [(2, 183), (0, x1), (0, x2), (9, 0), (0, x6), (0, 268435456), (0, v13), (9, 0)] [] μ) ∧ (x5 ≤ 268435456 → (-2147483648 ≤ x6 + 1 ∧ x6 + 1 < 2147483648) ∧ ∀ v15 : Int, v15 = x6 + 1 → WQ mX10_attempt d sc (ZI sc Q) 41 [(2, 183), (0, x1), (0, x2), (9, 0), (0, x4), (0, x5), (0, v15), (9, 0)] [] μ)))) :
    WQ mX10_attempt d sc (ZI sc Q) 41 [(2, 183), (0, x1), (0, x2), (9, 0), (0, x4), (0, x5), (0, x6), (9, 0)] [] μ := by
  refine WP_iload dX10_attempt_41 rfl ?_
  refine WP_aload_n dX10_attempt_43 rfl rfl ⟨Nat.le_of_ble_eq_true rfl, Nat.le_of_ble_eq_true rfl⟩ ?_
  refine WP_getfield (ci := 10) (j := 1) (n := 49) (t := 2) (x := 184) dX10_attempt_44 f_X10_13 k_183 rfl rfl ?_
  refine WP_iconst dX10_attempt_47 (by decide) ?_
  refine WP_iaload (n := 4119) dX10_attempt_48 k_184 ⟨by decide, by decide⟩ ?_
  refine WQ_icmp_ge (tgt := 98) dX10_attempt_49 (by decide) (fun c2 => ?_) (fun c2 => ?_)
  · replace h := h.1 c2
    refine WP_iload dX10_attempt_98 rfl ?_
    exact WQ_ireturn dX10_attempt_100 rfl h
  · replace h := h.2 c2
    refine WP_iload dX10_attempt_52 rfl ?_
    refine WP_iload_n dX10_attempt_54 rfl rfl ?_
    refine WQ_icmp_ne (tgt := 64) dX10_attempt_55 (by decide) (fun c3 => ?_) (fun c3 => ?_)
    · replace h := h.1 c3
      refine WP_aload_n dX10_attempt_64 rfl rfl ⟨Nat.le_of_ble_eq_true rfl, Nat.le_of_ble_eq_true rfl⟩ ?_
      refine WP_iload_n dX10_attempt_65 rfl rfl ?_
      refine WP_iload_n dX10_attempt_66 rfl rfl ?_
      refine WP_iload dX10_attempt_67 rfl ?_
      refine WQ_invVi (v := (2, 183)) (as := [(0, x1), (0, x2), (0, x6)]) dX10_attempt_69 l_X10_450 mw_X10_mostOften mi_X10_mostOften ms_X10_mostOften mo_X10_mostOften (rcv (ci := 10) (n := 49) (r := (RX10, TX10, 49)) k_183 rfl rfl) (Nat.le_of_ble_eq_true rfl) h rfl (fun r4 μ5 h => ?_)
      refine WP_istore (L' := [(2, 183), (0, x1), (0, x2), (9, 0), (0, x4), (0, x5), (0, x6), (0, r4)]) dX10_attempt_72 (by decide) rfl ?_
      refine WP_iload dX10_attempt_74 rfl ?_
      refine WP_iload dX10_attempt_76 rfl ?_
      refine WQ_icmp_lt (tgt := 84) dX10_attempt_78 (by decide) (fun c6 => ?_) (fun c6 => ?_)
      · replace h := h.1 c6
        refine WP_iload dX10_attempt_84 rfl ?_
        refine WP_istore (L' := [(2, 183), (0, x1), (0, x2), (9, 0), (0, x6), (0, x5), (0, x6), (0, r4)]) dX10_attempt_86 (by decide) rfl ?_
        refine WP_iload dX10_attempt_88 rfl ?_
        refine WP_istore (L' := [(2, 183), (0, x1), (0, x2), (9, 0), (0, x6), (0, r4), (0, x6), (0, r4)]) dX10_attempt_90 (by decide) rfl ?_
        obtain ⟨g7, h⟩ := h
        refine WQ_iinc dX10_attempt_92 rfl (by decide) g7 (fun v8 e8 => ?_)
        refine WP_same (L' := [(2, 183), (0, x1), (0, x2), (9, 0), (0, x6), (0, r4), (0, v8), (0, r4)]) rfl ?_
        replace h := h v8 e8
        refine WP_goto (tgt := 41) dX10_attempt_95 (by decide) ?_
        refine WP_lforget (L' := [(2, 183), (0, x1), (0, x2), (9, 0), (0, x6), (0, r4), (0, v8), (9, 0)]) rfl (fun i hi => ?_) h
        match i, hi with
        | 0, _ => exact Or.inl rfl
        | 1, _ => exact Or.inl rfl
        | 2, _ => exact Or.inl rfl
        | 3, _ => exact Or.inl rfl
        | 4, _ => exact Or.inl rfl
        | 5, _ => exact Or.inl rfl
        | 6, _ => exact Or.inl rfl
        | 7, _ => exact Or.inr rfl
        | i + 8, hi => exact absurd hi (by simp only [List.length_cons, List.length_nil]; omega)
      · replace h := h.2 c6
        refine WP_goto (tgt := 92) dX10_attempt_81 (by decide) ?_
        obtain ⟨g9, h⟩ := h
        refine WQ_iinc dX10_attempt_92 rfl (by decide) g9 (fun v10 e10 => ?_)
        refine WP_same (L' := [(2, 183), (0, x1), (0, x2), (9, 0), (0, x4), (0, x5), (0, v10), (0, r4)]) rfl ?_
        replace h := h v10 e10
        refine WP_goto (tgt := 41) dX10_attempt_95 (by decide) ?_
        refine WP_lforget (L' := [(2, 183), (0, x1), (0, x2), (9, 0), (0, x4), (0, x5), (0, v10), (9, 0)]) rfl (fun i hi => ?_) h
        match i, hi with
        | 0, _ => exact Or.inl rfl
        | 1, _ => exact Or.inl rfl
        | 2, _ => exact Or.inl rfl
        | 3, _ => exact Or.inl rfl
        | 4, _ => exact Or.inl rfl
        | 5, _ => exact Or.inl rfl
        | 6, _ => exact Or.inl rfl
        | 7, _ => exact Or.inr rfl
        | i + 8, hi => exact absurd hi (by simp only [List.length_cons, List.length_nil]; omega)
    · replace h := h.2 c3
      refine WP_ldcw dX10_attempt_58 c_X10_417 (by decide) ?_
      refine WP_goto (tgt := 72) dX10_attempt_61 (by decide) ?_
      refine WP_istore (L' := [(2, 183), (0, x1), (0, x2), (9, 0), (0, x4), (0, x5), (0, x6), (0, 268435456)]) dX10_attempt_72 (by decide) rfl ?_
      refine WP_iload dX10_attempt_74 rfl ?_
      refine WP_iload dX10_attempt_76 rfl ?_
      refine WQ_icmp_lt (tgt := 84) dX10_attempt_78 (by decide) (fun c11 => ?_) (fun c11 => ?_)
      · replace h := h.1 c11
        refine WP_iload dX10_attempt_84 rfl ?_
        refine WP_istore (L' := [(2, 183), (0, x1), (0, x2), (9, 0), (0, x6), (0, x5), (0, x6), (0, 268435456)]) dX10_attempt_86 (by decide) rfl ?_
        refine WP_iload dX10_attempt_88 rfl ?_
        refine WP_istore (L' := [(2, 183), (0, x1), (0, x2), (9, 0), (0, x6), (0, 268435456), (0, x6), (0, 268435456)]) dX10_attempt_90 (by decide) rfl ?_
        obtain ⟨g12, h⟩ := h
        refine WQ_iinc dX10_attempt_92 rfl (by decide) g12 (fun v13 e13 => ?_)
        refine WP_same (L' := [(2, 183), (0, x1), (0, x2), (9, 0), (0, x6), (0, 268435456), (0, v13), (0, 268435456)]) rfl ?_
        replace h := h v13 e13
        refine WP_goto (tgt := 41) dX10_attempt_95 (by decide) ?_
        refine WP_lforget (L' := [(2, 183), (0, x1), (0, x2), (9, 0), (0, x6), (0, 268435456), (0, v13), (9, 0)]) rfl (fun i hi => ?_) h
        match i, hi with
        | 0, _ => exact Or.inl rfl
        | 1, _ => exact Or.inl rfl
        | 2, _ => exact Or.inl rfl
        | 3, _ => exact Or.inl rfl
        | 4, _ => exact Or.inl rfl
        | 5, _ => exact Or.inl rfl
        | 6, _ => exact Or.inl rfl
        | 7, _ => exact Or.inr rfl
        | i + 8, hi => exact absurd hi (by simp only [List.length_cons, List.length_nil]; omega)
      · replace h := h.2 c11
        refine WP_goto (tgt := 92) dX10_attempt_81 (by decide) ?_
        obtain ⟨g14, h⟩ := h
        refine WQ_iinc dX10_attempt_92 rfl (by decide) g14 (fun v15 e15 => ?_)
        refine WP_same (L' := [(2, 183), (0, x1), (0, x2), (9, 0), (0, x4), (0, x5), (0, v15), (0, 268435456)]) rfl ?_
        replace h := h v15 e15
        refine WP_goto (tgt := 41) dX10_attempt_95 (by decide) ?_
        refine WP_lforget (L' := [(2, 183), (0, x1), (0, x2), (9, 0), (0, x4), (0, x5), (0, v15), (9, 0)]) rfl (fun i hi => ?_) h
        match i, hi with
        | 0, _ => exact Or.inl rfl
        | 1, _ => exact Or.inl rfl
        | 2, _ => exact Or.inl rfl
        | 3, _ => exact Or.inl rfl
        | 4, _ => exact Or.inl rfl
        | 5, _ => exact Or.inl rfl
        | 6, _ => exact Or.inl rfl
        | 7, _ => exact Or.inr rfl
        | i + 8, hi => exact absurd hi (by simp only [List.length_cons, List.length_nil]; omega)

theorem s_X10_between_0 {d : Nat} {sc : SC} {Q : Int → Mem → Prop} {μ : Mem} {a1 a2 a3 : Int}
    (h : ∀ μ1, μ1 = mup μ 183 0 0 → CAi mX10_areTwo d sc [(2, 183), (1, a1), (1, a2)] μ1 (fun r2 μ3 => (r2 ≠ 0 → (a3 = 0 → CAi mX10_gapOf d sc [(2, 183), (0, a1), (0, a2)] μ3 (fun r6 μ7 => Q r6 μ7)) ∧ (a3 = 1 → CAi mX10_pitchOf d sc [(2, 183), (0, a1), (0, a2)] μ3 (fun r8 μ9 => Q r8 μ9)) ∧ (a3 = 2 → CAi mX10_farOf d sc [(2, 183), (0, a1), (0, a2)] μ3 (fun r10 μ11 => Q r10 μ11)) ∧ ((a3 ≠ 0 ∧ a3 ≠ 1 ∧ a3 ≠ 2) → Q (-2) μ3)) ∧ (r2 = 0 → Q (-2) μ3))) :
    WQ mX10_between d sc (ZI sc Q) 0 [(2, 183), (0, a1), (0, a2), (0, a3)] [] μ := by
  refine WP_aload_n dX10_between_0 rfl rfl ⟨Nat.le_of_ble_eq_true rfl, Nat.le_of_ble_eq_true rfl⟩ ?_
  refine WP_iconst dX10_between_1 (by decide) ?_
  refine WQ_put (ci := 10) (j := 0) (n := 49) dX10_between_2 f_X10_1 k_183 rfl (fun μ1 eμ1 => ?_)
  replace h := h μ1 eμ1
  refine WP_aload_n dX10_between_5 rfl rfl ⟨Nat.le_of_ble_eq_true rfl, Nat.le_of_ble_eq_true rfl⟩ ?_
  refine WP_iload_n dX10_between_6 rfl rfl ?_
  refine WP_i2l dX10_between_7 ?_
  refine WP_iload_n dX10_between_8 rfl rfl ?_
  refine WP_i2l dX10_between_9 ?_
  refine WQ_invVi (v := (2, 183)) (as := [(1, a1), (1, a2)]) dX10_between_10 l_X10_259 mw_X10_areTwo mi_X10_areTwo ms_X10_areTwo mo_X10_areTwo (rcv (ci := 10) (n := 49) (r := (RX10, TX10, 49)) k_183 rfl rfl) (Nat.le_of_ble_eq_true rfl) h rfl (fun r2 μ3 h => ?_)
  refine WQ_ifne (tgt := 19) dX10_between_13 (by decide) (fun c4 => ?_) (fun c4 => ?_)
  · replace h := h.1 c4
    refine WP_iload_n dX10_between_19 rfl rfl ?_
    have hD : (a3 ≠ 0 ∧ a3 ≠ 1 ∧ a3 ≠ 2) → WQ mX10_between d sc (ZI sc Q) 69 [(2, 183), (0, a1), (0, a2), (0, a3)] [] μ3 := by
      intro c5
      replace h := h.2.2.2 c5
      refine WP_bipush dX10_between_69 (by decide +kernel) (by decide) ?_
      exact WQ_ireturn dX10_between_71 rfl h
    rcases (show (a3 < 0 ∨ 2 < a3) ∨ a3 = 0 ∨ a3 = 1 ∨ a3 = 2 by omega) with c5 | c5 | c5 | c5
    · exact WP_tableOut (tgt := 69) dX10_between_20 c5 (by decide) (hD (by omega))
    · refine WP_tableIn (tgt := 48) dX10_between_20 (by omega) (by omega) (by rw [c5]; rfl) (by decide) ?_
      replace h := h.1 c5
      refine WP_aload_n dX10_between_48 rfl rfl ⟨Nat.le_of_ble_eq_true rfl, Nat.le_of_ble_eq_true rfl⟩ ?_
      refine WP_iload_n dX10_between_49 rfl rfl ?_
      refine WP_iload_n dX10_between_50 rfl rfl ?_
      refine WQ_invVi (v := (2, 183)) (as := [(0, a1), (0, a2)]) dX10_between_51 l_X10_263 mw_X10_gapOf mi_X10_gapOf ms_X10_gapOf mo_X10_gapOf (rcv (ci := 10) (n := 49) (r := (RX10, TX10, 49)) k_183 rfl rfl) (Nat.le_of_ble_eq_true rfl) h rfl (fun r6 μ7 h => ?_)
      exact WQ_ireturn dX10_between_54 rfl h
    · refine WP_tableIn (tgt := 55) dX10_between_20 (by omega) (by omega) (by rw [c5]; rfl) (by decide) ?_
      replace h := h.2.1 c5
      refine WP_aload_n dX10_between_55 rfl rfl ⟨Nat.le_of_ble_eq_true rfl, Nat.le_of_ble_eq_true rfl⟩ ?_
      refine WP_iload_n dX10_between_56 rfl rfl ?_
      refine WP_iload_n dX10_between_57 rfl rfl ?_
      refine WQ_invVi (v := (2, 183)) (as := [(0, a1), (0, a2)]) dX10_between_58 l_X10_266 mw_X10_pitchOf mi_X10_pitchOf ms_X10_pitchOf mo_X10_pitchOf (rcv (ci := 10) (n := 49) (r := (RX10, TX10, 49)) k_183 rfl rfl) (Nat.le_of_ble_eq_true rfl) h rfl (fun r8 μ9 h => ?_)
      exact WQ_ireturn dX10_between_61 rfl h
    · refine WP_tableIn (tgt := 62) dX10_between_20 (by omega) (by omega) (by rw [c5]; rfl) (by decide) ?_
      replace h := h.2.2.1 c5
      refine WP_aload_n dX10_between_62 rfl rfl ⟨Nat.le_of_ble_eq_true rfl, Nat.le_of_ble_eq_true rfl⟩ ?_
      refine WP_iload_n dX10_between_63 rfl rfl ?_
      refine WP_iload_n dX10_between_64 rfl rfl ?_
      refine WQ_invVi (v := (2, 183)) (as := [(0, a1), (0, a2)]) dX10_between_65 l_X10_246 mw_X10_farOf mi_X10_farOf ms_X10_farOf mo_X10_farOf (rcv (ci := 10) (n := 49) (r := (RX10, TX10, 49)) k_183 rfl rfl) (Nat.le_of_ble_eq_true rfl) h rfl (fun r10 μ11 h => ?_)
      exact WQ_ireturn dX10_between_68 rfl h
  · replace h := h.2 c4
    refine WP_bipush dX10_between_16 (by decide +kernel) (by decide) ?_
    exact WQ_ireturn dX10_between_18 rfl h

theorem s_X10_between1_0 {d : Nat} {sc : SC} {Q : Int → Mem → Prop} {μ : Mem} {a0 a1 a2 : Int}
    (h : (a0 = 3003 → (a1 ≠ a2 → Q 0 μ) ∧ (a1 = a2 → Q 1 μ)) ∧ (a0 = 3004 → (a2 ≤ a1 → Q 0 μ) ∧ (a1 < a2 → Q 1 μ)) ∧ (a0 = 3005 → (a1 ≤ a2 → Q 0 μ) ∧ (a2 < a1 → Q 1 μ)) ∧ (a0 = 3007 → Q (iAnd a1 a2) μ) ∧ (a0 = 3008 → Q (iOr a1 a2) μ) ∧ ((a0 ≠ 3003 ∧ a0 ≠ 3004 ∧ a0 ≠ 3005 ∧ a0 ≠ 3007 ∧ a0 ≠ 3008) → (a0 ≠ 3000 → (a0 ≠ 3001 → (-9223372036854775808 ≤ a1 * a2 ∧ a1 * a2 < 9223372036854775808) ∧ WQ mX10_between1 d sc (ZI sc Q) 116 [(9, 0), (9, 0), (9, 0), (9, 0), (9, 0)] [(1, a1 * a2)] μ) ∧ (a0 = 3001 → (-9223372036854775808 ≤ a1 - a2 ∧ a1 - a2 < 9223372036854775808) ∧ WQ mX10_between1 d sc (ZI sc Q) 116 [(9, 0), (9, 0), (9, 0), (9, 0), (9, 0)] [(1, a1 - a2)] μ)) ∧ (a0 = 3000 → (-9223372036854775808 ≤ a1 + a2 ∧ a1 + a2 < 9223372036854775808) ∧ WQ mX10_between1 d sc (ZI sc Q) 116 [(9, 0), (9, 0), (9, 0), (9, 0), (9, 0)] [(1, a1 + a2)] μ))) :
    WQ mX10_between1 d sc (ZI sc Q) 0 [(0, a0), (0, a1), (0, a2), (9, 0), (9, 0)] [] μ := by
  refine WP_iload_n dX10_between1_0 rfl rfl ?_
  have hD : (a0 ≠ 3003 ∧ a0 ≠ 3004 ∧ a0 ≠ 3005 ∧ a0 ≠ 3007 ∧ a0 ≠ 3008) → WQ mX10_between1 d sc (ZI sc Q) 81 [(0, a0), (0, a1), (0, a2), (9, 0), (9, 0)] [] μ := by
    intro c1
    replace h := h.2.2.2.2.2 c1
    refine WP_iload_n dX10_between1_81 rfl rfl ?_
    refine WP_sipush dX10_between1_82 (by decide +kernel) (by decide) ?_
    refine WQ_icmp_ne (tgt := 96) dX10_between1_85 (by decide) (fun c5 => ?_) (fun c5 => ?_)
    · replace h := h.1 c5
      refine WP_iload_n dX10_between1_96 rfl rfl ?_
      refine WP_sipush dX10_between1_97 (by decide +kernel) (by decide) ?_
      refine WQ_icmp_ne (tgt := 111) dX10_between1_100 (by decide) (fun c6 => ?_) (fun c6 => ?_)
      · replace h := h.1 c6
        refine WP_iload_n dX10_between1_111 rfl rfl ?_
        refine WP_i2l dX10_between1_112 ?_
        refine WP_iload_n dX10_between1_113 rfl rfl ?_
        refine WP_i2l dX10_between1_114 ?_
        obtain ⟨g7, h⟩ := h
        refine WP_lmul dX10_between1_115 g7 ?_
        refine WP_lforget (L' := [(9, 0), (9, 0), (9, 0), (9, 0), (9, 0)]) rfl (fun i hi => ?_) h
        match i, hi with
        | 0, _ => exact Or.inr rfl
        | 1, _ => exact Or.inr rfl
        | 2, _ => exact Or.inr rfl
        | 3, _ => exact Or.inl rfl
        | 4, _ => exact Or.inl rfl
        | i + 5, hi => exact absurd hi (by simp only [List.length_cons, List.length_nil]; omega)
      · replace h := h.2 c6
        refine WP_iload_n dX10_between1_103 rfl rfl ?_
        refine WP_i2l dX10_between1_104 ?_
        refine WP_iload_n dX10_between1_105 rfl rfl ?_
        refine WP_i2l dX10_between1_106 ?_
        obtain ⟨g8, h⟩ := h
        refine WP_lsub dX10_between1_107 g8 ?_
        refine WP_goto (tgt := 116) dX10_between1_108 (by decide) ?_
        refine WP_lforget (L' := [(9, 0), (9, 0), (9, 0), (9, 0), (9, 0)]) rfl (fun i hi => ?_) h
        match i, hi with
        | 0, _ => exact Or.inr rfl
        | 1, _ => exact Or.inr rfl
        | 2, _ => exact Or.inr rfl
        | 3, _ => exact Or.inl rfl
        | 4, _ => exact Or.inl rfl
        | i + 5, hi => exact absurd hi (by simp only [List.length_cons, List.length_nil]; omega)
    · replace h := h.2 c5
      refine WP_iload_n dX10_between1_88 rfl rfl ?_
      refine WP_i2l dX10_between1_89 ?_
      refine WP_iload_n dX10_between1_90 rfl rfl ?_
      refine WP_i2l dX10_between1_91 ?_
      obtain ⟨g9, h⟩ := h
      refine WP_ladd dX10_between1_92 g9 ?_
      refine WP_goto (tgt := 116) dX10_between1_93 (by decide) ?_
      refine WP_lforget (L' := [(9, 0), (9, 0), (9, 0), (9, 0), (9, 0)]) rfl (fun i hi => ?_) h
      match i, hi with
      | 0, _ => exact Or.inr rfl
      | 1, _ => exact Or.inr rfl
      | 2, _ => exact Or.inr rfl
      | 3, _ => exact Or.inl rfl
      | 4, _ => exact Or.inl rfl
      | i + 5, hi => exact absurd hi (by simp only [List.length_cons, List.length_nil]; omega)
  rcases (show (a0 < 3003 ∨ 3008 < a0) ∨ a0 = 3003 ∨ a0 = 3004 ∨ a0 = 3005 ∨ a0 = 3006 ∨ a0 = 3007 ∨ a0 = 3008 by omega) with c1 | c1 | c1 | c1 | c1 | c1 | c1
  · exact WP_tableOut (tgt := 81) dX10_between1_1 c1 (by decide) (hD (by omega))
  · refine WP_tableIn (tgt := 40) dX10_between1_1 (by omega) (by omega) (by rw [c1]; rfl) (by decide) ?_
    replace h := h.1 c1
    refine WP_iload_n dX10_between1_40 rfl rfl ?_
    refine WP_iload_n dX10_between1_41 rfl rfl ?_
    refine WQ_icmp_ne (tgt := 49) dX10_between1_42 (by decide) (fun c2 => ?_) (fun c2 => ?_)
    · replace h := h.1 c2
      refine WP_iconst dX10_between1_49 (by decide) ?_
      exact WQ_ireturn dX10_between1_50 rfl h
    · replace h := h.2 c2
      refine WP_iconst dX10_between1_45 (by decide) ?_
      refine WP_goto (tgt := 50) dX10_between1_46 (by decide) ?_
      exact WQ_ireturn dX10_between1_50 rfl h
  · refine WP_tableIn (tgt := 51) dX10_between1_1 (by omega) (by omega) (by rw [c1]; rfl) (by decide) ?_
    replace h := h.2.1 c1
    refine WP_iload_n dX10_between1_51 rfl rfl ?_
    refine WP_iload_n dX10_between1_52 rfl rfl ?_
    refine WQ_icmp_ge (tgt := 60) dX10_between1_53 (by decide) (fun c3 => ?_) (fun c3 => ?_)
    · replace h := h.1 c3
      refine WP_iconst dX10_between1_60 (by decide) ?_
      exact WQ_ireturn dX10_between1_61 rfl h
    · replace h := h.2 c3
      refine WP_iconst dX10_between1_56 (by decide) ?_
      refine WP_goto (tgt := 61) dX10_between1_57 (by decide) ?_
      exact WQ_ireturn dX10_between1_61 rfl h
  · refine WP_tableIn (tgt := 62) dX10_between1_1 (by omega) (by omega) (by rw [c1]; rfl) (by decide) ?_
    replace h := h.2.2.1 c1
    refine WP_iload_n dX10_between1_62 rfl rfl ?_
    refine WP_iload_n dX10_between1_63 rfl rfl ?_
    refine WQ_icmp_le (tgt := 71) dX10_between1_64 (by decide) (fun c4 => ?_) (fun c4 => ?_)
    · replace h := h.1 c4
      refine WP_iconst dX10_between1_71 (by decide) ?_
      exact WQ_ireturn dX10_between1_72 rfl h
    · replace h := h.2 c4
      refine WP_iconst dX10_between1_67 (by decide) ?_
      refine WP_goto (tgt := 72) dX10_between1_68 (by decide) ?_
      exact WQ_ireturn dX10_between1_72 rfl h
  · exact WP_tableIn (tgt := 81) dX10_between1_1 (by omega) (by omega) (by rw [c1]; rfl) (by decide) (hD (by omega))
  · refine WP_tableIn (tgt := 73) dX10_between1_1 (by omega) (by omega) (by rw [c1]; rfl) (by decide) ?_
    replace h := h.2.2.2.1 c1
    refine WP_iload_n dX10_between1_73 rfl rfl ?_
    refine WP_iload_n dX10_between1_74 rfl rfl ?_
    refine WP_iand dX10_between1_75 ?_
    exact WQ_ireturn dX10_between1_76 rfl h
  · refine WP_tableIn (tgt := 77) dX10_between1_1 (by omega) (by omega) (by rw [c1]; rfl) (by decide) ?_
    replace h := h.2.2.2.2.1 c1
    refine WP_iload_n dX10_between1_77 rfl rfl ?_
    refine WP_iload_n dX10_between1_78 rfl rfl ?_
    refine WP_ior dX10_between1_79 ?_
    exact WQ_ireturn dX10_between1_80 rfl h

theorem s_X10_between1_116 {d : Nat} {sc : SC} {Q : Int → Mem → Prop} {μ : Mem} {y0 : Int}
    (h : (y0 ≤ 1000000 → ((-1000000) ≤ y0 → Q (w32 y0) μ) ∧ (y0 < (-1000000) → Q (w32 (-1000000)) μ)) ∧ (1000000 < y0 → Q (w32 1000000) μ)) :
    WQ mX10_between1 d sc (ZI sc Q) 116 [(9, 0), (9, 0), (9, 0), (9, 0), (9, 0)] [(1, y0)] μ := by
  refine WP_lstore_n (L' := [(9, 0), (9, 0), (9, 0), (1, y0), (9, 0)]) dX10_between1_116 rfl (by decide) rfl ?_
  refine WP_lload_n dX10_between1_117 rfl rfl ?_
  refine WP_ldc2 dX10_between1_118 c_X10_242 (by decide) ?_
  refine WQ_lifle (tgt := 131) dX10_between1_121 dX10_between1_122 (by decide) (fun c1 => ?_) (fun c1 => ?_)
  · replace h := h.1 c1
    refine WP_lload_n dX10_between1_131 rfl rfl ?_
    refine WP_ldc2 dX10_between1_132 c_X10_244 (by decide) ?_
    refine WQ_lifge (tgt := 145) dX10_between1_135 dX10_between1_136 (by decide) (fun c2 => ?_) (fun c2 => ?_)
    · replace h := h.1 c2
      refine WP_lload_n dX10_between1_145 rfl rfl ?_
      refine WP_l2i dX10_between1_146 ?_
      exact WQ_ireturn dX10_between1_147 rfl h
    · replace h := h.2 c2
      refine WP_ldc2 dX10_between1_139 c_X10_244 (by decide) ?_
      refine WP_goto (tgt := 146) dX10_between1_142 (by decide) ?_
      refine WP_l2i dX10_between1_146 ?_
      exact WQ_ireturn dX10_between1_147 rfl h
  · replace h := h.2 c1
    refine WP_ldc2 dX10_between1_125 c_X10_242 (by decide) ?_
    refine WP_goto (tgt := 146) dX10_between1_128 (by decide) ?_
    refine WP_l2i dX10_between1_146 ?_
    exact WQ_ireturn dX10_between1_147 rfl h

theorem s_X10_cellMany_0 {d : Nat} {sc : SC} {Q : Int → Mem → Prop} {μ : Mem}
    (h : (-2147483648 ≤ (μ 184 1) * (μ 184 2) ∧ (μ 184 1) * (μ 184 2) < 2147483648) ∧ Q ((μ 184 1) * (μ 184 2)) μ) :
    WQ mX10_cellMany d sc (ZI sc Q) 0 [(2, 183)] [] μ := by
  refine WP_aload_n dX10_cellMany_0 rfl rfl ⟨Nat.le_of_ble_eq_true rfl, Nat.le_of_ble_eq_true rfl⟩ ?_
  refine WP_getfield (ci := 10) (j := 1) (n := 49) (t := 2) (x := 184) dX10_cellMany_1 f_X10_13 k_183 rfl rfl ?_
  refine WP_iconst dX10_cellMany_4 (by decide) ?_
  refine WP_iaload (n := 4119) dX10_cellMany_5 k_184 ⟨by decide, by decide⟩ ?_
  refine WP_aload_n dX10_cellMany_6 rfl rfl ⟨Nat.le_of_ble_eq_true rfl, Nat.le_of_ble_eq_true rfl⟩ ?_
  refine WP_getfield (ci := 10) (j := 1) (n := 49) (t := 2) (x := 184) dX10_cellMany_7 f_X10_13 k_183 rfl rfl ?_
  refine WP_iconst dX10_cellMany_10 (by decide) ?_
  refine WP_iaload (n := 4119) dX10_cellMany_11 k_184 ⟨by decide, by decide⟩ ?_
  obtain ⟨g3, h⟩ := h
  refine WP_imul dX10_cellMany_12 g3 ?_
  exact WQ_ireturn dX10_cellMany_13 rfl h

theorem s_X10_chance_0 {d : Nat} {sc : SC} {Q : Int → Mem → Prop} {μ : Mem} {a1 a2 : Int}
    (h : ∀ μ1, μ1 = mup μ 183 0 0 → CAi mX10_isPerson d sc [(2, 183), (1, a1)] μ1 (fun r2 μ3 => (r2 = 0 → Q (-2) μ3) ∧ (r2 ≠ 0 → CAi mX10_within d sc [(1, a2), (1, 0), (1, 1)] μ3 (fun r5 μ6 => (r5 ≠ 0 → CAv mX10_laysChances d sc [(2, 183)] μ6 (fun μ9 => (0 ≤ a1 ∧ a1 < 6) ∧ CAl mX10_wholeOf d sc [(0, μ9 184 31)] μ9 (fun r12 μ13 => CAl mX10_part d sc [(1, μ9 207 a1), (1, r12), (0, a2)] μ13 (fun r14 μ15 => Q (w32 r14) μ15)))) ∧ (r5 = 0 → Q (-2) μ6))))) :
    WQ mX10_chance d sc (ZI sc Q) 0 [(2, 183), (0, a1), (0, a2)] [] μ := by
  refine WP_aload_n dX10_chance_0 rfl rfl ⟨Nat.le_of_ble_eq_true rfl, Nat.le_of_ble_eq_true rfl⟩ ?_
  refine WP_iconst dX10_chance_1 (by decide) ?_
  refine WQ_put (ci := 10) (j := 0) (n := 49) dX10_chance_2 f_X10_1 k_183 rfl (fun μ1 eμ1 => ?_)
  replace h := h μ1 eμ1
  refine WP_aload_n dX10_chance_5 rfl rfl ⟨Nat.le_of_ble_eq_true rfl, Nat.le_of_ble_eq_true rfl⟩ ?_
  refine WP_iload_n dX10_chance_6 rfl rfl ?_
  refine WP_i2l dX10_chance_7 ?_
  refine WQ_invVi (v := (2, 183)) (as := [(1, a1)]) dX10_chance_8 l_X10_235 mw_X10_isPerson mi_X10_isPerson ms_X10_isPerson mo_X10_isPerson (rcv (ci := 10) (n := 49) (r := (RX10, TX10, 49)) k_183 rfl rfl) (Nat.le_of_ble_eq_true rfl) h rfl (fun r2 μ3 h => ?_)
  refine WQ_ifeq (tgt := 24) dX10_chance_11 (by decide) (fun c4 => ?_) (fun c4 => ?_)
  · replace h := h.1 c4
    refine WP_bipush dX10_chance_24 (by decide +kernel) (by decide) ?_
    exact WQ_ireturn dX10_chance_26 rfl h
  · replace h := h.2 c4
    refine WP_iload_n dX10_chance_14 rfl rfl ?_
    refine WP_i2l dX10_chance_15 ?_
    refine WP_lconst dX10_chance_16 rfl ?_
    refine WP_lconst dX10_chance_17 rfl ?_
    refine WQ_invSi (as := [(1, a2), (1, 0), (1, 1)]) dX10_chance_18 l_X10_170 mw_X10_within mt_X10_within mo_X10_within (Nat.le_of_ble_eq_true rfl) h rfl (fun r5 μ6 h => ?_)
    refine WQ_ifne (tgt := 27) dX10_chance_21 (by decide) (fun c7 => ?_) (fun c7 => ?_)
    · replace h := h.1 c7
      refine WP_aload_n dX10_chance_27 rfl rfl ⟨Nat.le_of_ble_eq_true rfl, Nat.le_of_ble_eq_true rfl⟩ ?_
      refine WQ_invVv (v := (2, 183)) (as := []) dX10_chance_28 l_X10_462 mw_X10_laysChances mi_X10_laysChances ms_X10_laysChances mo_X10_laysChances (rcv (ci := 10) (n := 49) (r := (RX10, TX10, 49)) k_183 rfl rfl) (Nat.le_of_ble_eq_true rfl) h rfl (fun μ9 h => ?_)
      refine WP_aload_n dX10_chance_31 rfl rfl ⟨Nat.le_of_ble_eq_true rfl, Nat.le_of_ble_eq_true rfl⟩ ?_
      refine WP_getfield (ci := 10) (j := 44) (n := 49) (t := 2) (x := 207) dX10_chance_32 f_X10_88 k_183 rfl rfl ?_
      refine WP_iload_n dX10_chance_35 rfl rfl ?_
      obtain ⟨g10, h⟩ := h
      refine WP_laload (n := 6) dX10_chance_36 k_207 g10 ?_
      refine WP_aload_n dX10_chance_37 rfl rfl ⟨Nat.le_of_ble_eq_true rfl, Nat.le_of_ble_eq_true rfl⟩ ?_
      refine WP_getfield (ci := 10) (j := 1) (n := 49) (t := 2) (x := 184) dX10_chance_38 f_X10_13 k_183 rfl rfl ?_
      refine WP_bipush dX10_chance_41 (by decide +kernel) (by decide) ?_
      refine WP_iaload (n := 4119) dX10_chance_43 k_184 ⟨by decide, by decide⟩ ?_
      refine WQ_invSl (as := [(0, μ9 184 31)]) dX10_chance_44 l_X10_465 mw_X10_wholeOf mt_X10_wholeOf mo_X10_wholeOf (Nat.le_of_ble_eq_true rfl) h rfl (fun r12 μ13 h => ?_)
      refine WP_iload_n dX10_chance_47 rfl rfl ?_
      refine WQ_invSl (as := [(1, μ9 207 a1), (1, r12), (0, a2)]) dX10_chance_48 l_X10_469 mw_X10_part mt_X10_part mo_X10_part (Nat.le_of_ble_eq_true rfl) h rfl (fun r14 μ15 h => ?_)
      refine WP_l2i dX10_chance_51 ?_
      exact WQ_ireturn dX10_chance_52 rfl h
    · replace h := h.2 c7
      refine WP_bipush dX10_chance_24 (by decide +kernel) (by decide) ?_
      exact WQ_ireturn dX10_chance_26 rfl h

theorem s_X10_closes_0 {d : Nat} {sc : SC} {Q : Mem → Prop} {μ : Mem}
    (h : CAi mX10_eats d sc [(2, 183), (0, 30)] μ (fun r1 μ2 => (r1 ≠ 0 → (-2147483648 ≤ (μ2 187 0) + 1 ∧ (μ2 187 0) + 1 < 2147483648) ∧ (∀ μ7, μ7 = mup μ2 187 0 ((μ2 187 0) + 1) → Q μ7)) ∧ (r1 = 0 → CAv mX10_fails d sc [(2, 183), (0, 2)] μ2 (fun μ9 => (-2147483648 ≤ (μ9 187 0) + 1 ∧ (μ9 187 0) + 1 < 2147483648) ∧ (∀ μ13, μ13 = mup μ9 187 0 ((μ9 187 0) + 1) → Q μ13))))) :
    WQ mX10_closes d sc (ZV sc Q) 0 [(2, 183)] [] μ := by
  refine WP_aload_n dX10_closes_0 rfl rfl ⟨Nat.le_of_ble_eq_true rfl, Nat.le_of_ble_eq_true rfl⟩ ?_
  refine WP_bipush dX10_closes_1 (by decide +kernel) (by decide) ?_
  refine WQ_invVi (v := (2, 183)) (as := [(0, 30)]) dX10_closes_3 l_X10_189 mw_X10_eats mi_X10_eats ms_X10_eats mo_X10_eats (rcv (ci := 10) (n := 49) (r := (RX10, TX10, 49)) k_183 rfl rfl) (Nat.le_of_ble_eq_true rfl) h rfl (fun r1 μ2 h => ?_)
  refine WQ_ifne (tgt := 14) dX10_closes_6 (by decide) (fun c3 => ?_) (fun c3 => ?_)
  · replace h := h.1 c3
    refine WP_aload_n dX10_closes_14 rfl rfl ⟨Nat.le_of_ble_eq_true rfl, Nat.le_of_ble_eq_true rfl⟩ ?_
    refine WP_getfield (ci := 10) (j := 4) (n := 49) (t := 2) (x := 187) dX10_closes_15 f_X10_24 k_183 rfl rfl ?_
    refine WP_iconst dX10_closes_18 (by decide) ?_
    refine WP_dup2 dX10_closes_19 (by simp) (by simp) ?_
    refine WP_iaload (n := 1373) dX10_closes_20 k_187 ⟨by decide, by decide⟩ ?_
    refine WP_iconst dX10_closes_21 (by decide) ?_
    obtain ⟨g5, h⟩ := h
    refine WP_iadd dX10_closes_22 g5 ?_
    refine WQ_iast (n := 1373) dX10_closes_23 k_187 ⟨by decide, by decide⟩ (fun μ7 eμ7 => ?_)
    replace h := h μ7 eμ7
    exact WQ_return dX10_closes_24 rfl h
  · replace h := h.2 c3
    refine WP_aload_n dX10_closes_9 rfl rfl ⟨Nat.le_of_ble_eq_true rfl, Nat.le_of_ble_eq_true rfl⟩ ?_
    refine WP_iconst dX10_closes_10 (by decide) ?_
    refine WQ_invVv (v := (2, 183)) (as := [(0, 2)]) dX10_closes_11 l_X10_166 mw_X10_fails mi_X10_fails ms_X10_fails mo_X10_fails (rcv (ci := 10) (n := 49) (r := (RX10, TX10, 49)) k_183 rfl rfl) (Nat.le_of_ble_eq_true rfl) h rfl (fun μ9 h => ?_)
    refine WP_aload_n dX10_closes_14 rfl rfl ⟨Nat.le_of_ble_eq_true rfl, Nat.le_of_ble_eq_true rfl⟩ ?_
    refine WP_getfield (ci := 10) (j := 4) (n := 49) (t := 2) (x := 187) dX10_closes_15 f_X10_24 k_183 rfl rfl ?_
    refine WP_iconst dX10_closes_18 (by decide) ?_
    refine WP_dup2 dX10_closes_19 (by simp) (by simp) ?_
    refine WP_iaload (n := 1373) dX10_closes_20 k_187 ⟨by decide, by decide⟩ ?_
    refine WP_iconst dX10_closes_21 (by decide) ?_
    obtain ⟨g11, h⟩ := h
    refine WP_iadd dX10_closes_22 g11 ?_
    refine WQ_iast (n := 1373) dX10_closes_23 k_187 ⟨by decide, by decide⟩ (fun μ13 eμ13 => ?_)
    replace h := h μ13 eμ13
    exact WQ_return dX10_closes_24 rfl h

theorem s_X10_codes_0 {d : Nat} {sc : SC} {Q : Mem → Prop} {μ : Mem} {a1 : Int}
    (h : (μ 183 11 = 0 → (-2147483648 ≤ 473 + (μ 187 472) ∧ 473 + (μ 187 472) < 2147483648) ∧ (0 ≤ 473 + (μ 187 472) ∧ 473 + (μ 187 472) < 1373) ∧ (∀ μ5, μ5 = mup μ 187 (473 + (μ 187 472)) a1 → (-2147483648 ≤ (μ5 187 472) + 1 ∧ (μ5 187 472) + 1 < 2147483648) ∧ (∀ μ9, μ9 = mup μ5 187 472 ((μ5 187 472) + 1) → Q μ9))) ∧ (μ 183 11 ≠ 0 → Q μ)) :
    WQ mX10_codes d sc (ZV sc Q) 0 [(2, 183), (0, a1)] [] μ := by
  refine WP_aload_n dX10_codes_0 rfl rfl ⟨Nat.le_of_ble_eq_true rfl, Nat.le_of_ble_eq_true rfl⟩ ?_
  refine WP_getfield (ci := 10) (j := 11) (n := 49) (t := 0) (x := μ 183 11) dX10_codes_1 f_X10_154 k_183 rfl rfl ?_
  refine WQ_ifeq (tgt := 8) dX10_codes_4 (by decide) (fun c1 => ?_) (fun c1 => ?_)
  · replace h := h.1 c1
    refine WP_aload_n dX10_codes_8 rfl rfl ⟨Nat.le_of_ble_eq_true rfl, Nat.le_of_ble_eq_true rfl⟩ ?_
    refine WP_getfield (ci := 10) (j := 4) (n := 49) (t := 2) (x := 187) dX10_codes_9 f_X10_24 k_183 rfl rfl ?_
    refine WP_sipush dX10_codes_12 (by decide +kernel) (by decide) ?_
    refine WP_aload_n dX10_codes_15 rfl rfl ⟨Nat.le_of_ble_eq_true rfl, Nat.le_of_ble_eq_true rfl⟩ ?_
    refine WP_getfield (ci := 10) (j := 4) (n := 49) (t := 2) (x := 187) dX10_codes_16 f_X10_24 k_183 rfl rfl ?_
    refine WP_sipush dX10_codes_19 (by decide +kernel) (by decide) ?_
    refine WP_iaload (n := 1373) dX10_codes_22 k_187 ⟨by decide, by decide⟩ ?_
    obtain ⟨g3, h⟩ := h
    refine WP_iadd dX10_codes_23 g3 ?_
    refine WP_iload_n dX10_codes_24 rfl rfl ?_
    obtain ⟨g4, h⟩ := h
    refine WQ_iast (n := 1373) dX10_codes_25 k_187 g4 (fun μ5 eμ5 => ?_)
    replace h := h μ5 eμ5
    refine WP_aload_n dX10_codes_26 rfl rfl ⟨Nat.le_of_ble_eq_true rfl, Nat.le_of_ble_eq_true rfl⟩ ?_
    refine WP_getfield (ci := 10) (j := 4) (n := 49) (t := 2) (x := 187) dX10_codes_27 f_X10_24 k_183 rfl rfl ?_
    refine WP_sipush dX10_codes_30 (by decide +kernel) (by decide) ?_
    refine WP_dup2 dX10_codes_33 (by simp) (by simp) ?_
    refine WP_iaload (n := 1373) dX10_codes_34 k_187 ⟨by decide, by decide⟩ ?_
    refine WP_iconst dX10_codes_35 (by decide) ?_
    obtain ⟨g7, h⟩ := h
    refine WP_iadd dX10_codes_36 g7 ?_
    refine WQ_iast (n := 1373) dX10_codes_37 k_187 ⟨by decide, by decide⟩ (fun μ9 eμ9 => ?_)
    replace h := h μ9 eμ9
    exact WQ_return dX10_codes_38 rfl h
  · replace h := h.2 c1
    exact WQ_return dX10_codes_7 rfl h

theorem s_X10_common_0 {d : Nat} {sc : SC} {Q : Int → Mem → Prop} {μ : Mem} {a0 a2 : Int}
    (h : (a2 ≠ 0 → (0 ≤ a0 ∧ 0 < a2) ∧ CAl mX10_common d sc [(1, a2), (1, a0 % a2)] μ (fun r3 μ4 => Q r3 μ4)) ∧ (a2 = 0 → Q a0 μ)) :
    WQ mX10_common d sc (ZL sc Q) 0 [(1, a0), (9, 0), (1, a2), (9, 0)] [] μ := by
  refine WP_lload_n dX10_common_0 rfl rfl ?_
  refine WP_lconst dX10_common_1 rfl ?_
  refine WQ_lifne (tgt := 10) dX10_common_2 dX10_common_3 (by decide) (fun c1 => ?_) (fun c1 => ?_)
  · replace h := h.1 c1
    refine WP_lload_n dX10_common_10 rfl rfl ?_
    refine WP_lload_n dX10_common_11 rfl rfl ?_
    refine WP_lload_n dX10_common_12 rfl rfl ?_
    obtain ⟨g2, h⟩ := h
    refine WP_lrem dX10_common_13 g2 ?_
    refine WQ_invSl (as := [(1, a2), (1, a0 % a2)]) dX10_common_14 l_X10_458 mw_X10_common mt_X10_common mo_X10_common (Nat.le_of_ble_eq_true rfl) h rfl (fun r3 μ4 h => ?_)
    exact WQ_lreturn dX10_common_17 rfl h
  · replace h := h.2 c1
    refine WP_lload_n dX10_common_6 rfl rfl ?_
    refine WP_goto (tgt := 17) dX10_common_7 (by decide) ?_
    exact WQ_lreturn dX10_common_17 rfl h

theorem s_X10_count_0 {d : Nat} {sc : SC} {Q : Int → Mem → Prop} {μ : Mem} {a1 : Int}
    (h : ∀ μ1, μ1 = mup μ 183 0 0 → (a1 = 0 → Q (μ1 184 1) μ1) ∧ (a1 = 1 → Q (μ1 184 2) μ1) ∧ (a1 = 2 → Q (μ1 184 3) μ1) ∧ (a1 = 3 → Q (μ1 184 31) μ1) ∧ (a1 = 4 → Q (μ1 184 70) μ1) ∧ (a1 = 5 → Q (μ1 184 71) μ1) ∧ (a1 = 6 → Q (μ1 183 5) μ1) ∧ (a1 = 7 → Q (μ1 184 0) μ1) ∧ ((a1 ≠ 0 ∧ a1 ≠ 1 ∧ a1 ≠ 2 ∧ a1 ≠ 3 ∧ a1 ≠ 4 ∧ a1 ≠ 5 ∧ a1 ≠ 6 ∧ a1 ≠ 7) → Q (-1) μ1)) :
    WQ mX10_count d sc (ZI sc Q) 0 [(2, 183), (0, a1)] [] μ := by
  refine WP_aload_n dX10_count_0 rfl rfl ⟨Nat.le_of_ble_eq_true rfl, Nat.le_of_ble_eq_true rfl⟩ ?_
  refine WP_iconst dX10_count_1 (by decide) ?_
  refine WQ_put (ci := 10) (j := 0) (n := 49) dX10_count_2 f_X10_1 k_183 rfl (fun μ1 eμ1 => ?_)
  replace h := h μ1 eμ1
  refine WP_iload_n dX10_count_5 rfl rfl ?_
  have hD : (a1 ≠ 0 ∧ a1 ≠ 1 ∧ a1 ≠ 2 ∧ a1 ≠ 3 ∧ a1 ≠ 4 ∧ a1 ≠ 5 ∧ a1 ≠ 6 ∧ a1 ≠ 7) → WQ mX10_count d sc (ZI sc Q) 109 [(2, 183), (0, a1)] [] μ1 := by
    intro c2
    replace h := h.2.2.2.2.2.2.2.2 c2
    refine WP_iconst dX10_count_109 (by decide) ?_
    exact WQ_ireturn dX10_count_110 rfl h
  rcases (show (a1 < 0 ∨ 7 < a1) ∨ a1 = 0 ∨ a1 = 1 ∨ a1 = 2 ∨ a1 = 3 ∨ a1 = 4 ∨ a1 = 5 ∨ a1 = 6 ∨ a1 = 7 by omega) with c2 | c2 | c2 | c2 | c2 | c2 | c2 | c2 | c2
  · exact WP_tableOut (tgt := 109) dX10_count_6 c2 (by decide) (hD (by omega))
  · refine WP_tableIn (tgt := 52) dX10_count_6 (by omega) (by omega) (by rw [c2]; rfl) (by decide) ?_
    replace h := h.1 c2
    refine WP_aload_n dX10_count_52 rfl rfl ⟨Nat.le_of_ble_eq_true rfl, Nat.le_of_ble_eq_true rfl⟩ ?_
    refine WP_getfield (ci := 10) (j := 1) (n := 49) (t := 2) (x := 184) dX10_count_53 f_X10_13 k_183 rfl rfl ?_
    refine WP_iconst dX10_count_56 (by decide) ?_
    refine WP_iaload (n := 4119) dX10_count_57 k_184 ⟨by decide, by decide⟩ ?_
    exact WQ_ireturn dX10_count_58 rfl h
  · refine WP_tableIn (tgt := 59) dX10_count_6 (by omega) (by omega) (by rw [c2]; rfl) (by decide) ?_
    replace h := h.2.1 c2
    refine WP_aload_n dX10_count_59 rfl rfl ⟨Nat.le_of_ble_eq_true rfl, Nat.le_of_ble_eq_true rfl⟩ ?_
    refine WP_getfield (ci := 10) (j := 1) (n := 49) (t := 2) (x := 184) dX10_count_60 f_X10_13 k_183 rfl rfl ?_
    refine WP_iconst dX10_count_63 (by decide) ?_
    refine WP_iaload (n := 4119) dX10_count_64 k_184 ⟨by decide, by decide⟩ ?_
    exact WQ_ireturn dX10_count_65 rfl h
  · refine WP_tableIn (tgt := 66) dX10_count_6 (by omega) (by omega) (by rw [c2]; rfl) (by decide) ?_
    replace h := h.2.2.1 c2
    refine WP_aload_n dX10_count_66 rfl rfl ⟨Nat.le_of_ble_eq_true rfl, Nat.le_of_ble_eq_true rfl⟩ ?_
    refine WP_getfield (ci := 10) (j := 1) (n := 49) (t := 2) (x := 184) dX10_count_67 f_X10_13 k_183 rfl rfl ?_
    refine WP_iconst dX10_count_70 (by decide) ?_
    refine WP_iaload (n := 4119) dX10_count_71 k_184 ⟨by decide, by decide⟩ ?_
    exact WQ_ireturn dX10_count_72 rfl h
  · refine WP_tableIn (tgt := 73) dX10_count_6 (by omega) (by omega) (by rw [c2]; rfl) (by decide) ?_
    replace h := h.2.2.2.1 c2
    refine WP_aload_n dX10_count_73 rfl rfl ⟨Nat.le_of_ble_eq_true rfl, Nat.le_of_ble_eq_true rfl⟩ ?_
    refine WP_getfield (ci := 10) (j := 1) (n := 49) (t := 2) (x := 184) dX10_count_74 f_X10_13 k_183 rfl rfl ?_
    refine WP_bipush dX10_count_77 (by decide +kernel) (by decide) ?_
    refine WP_iaload (n := 4119) dX10_count_79 k_184 ⟨by decide, by decide⟩ ?_
    exact WQ_ireturn dX10_count_80 rfl h
  · refine WP_tableIn (tgt := 81) dX10_count_6 (by omega) (by omega) (by rw [c2]; rfl) (by decide) ?_
    replace h := h.2.2.2.2.1 c2
    refine WP_aload_n dX10_count_81 rfl rfl ⟨Nat.le_of_ble_eq_true rfl, Nat.le_of_ble_eq_true rfl⟩ ?_
    refine WP_getfield (ci := 10) (j := 1) (n := 49) (t := 2) (x := 184) dX10_count_82 f_X10_13 k_183 rfl rfl ?_
    refine WP_bipush dX10_count_85 (by decide +kernel) (by decide) ?_
    refine WP_iaload (n := 4119) dX10_count_87 k_184 ⟨by decide, by decide⟩ ?_
    exact WQ_ireturn dX10_count_88 rfl h
  · refine WP_tableIn (tgt := 89) dX10_count_6 (by omega) (by omega) (by rw [c2]; rfl) (by decide) ?_
    replace h := h.2.2.2.2.2.1 c2
    refine WP_aload_n dX10_count_89 rfl rfl ⟨Nat.le_of_ble_eq_true rfl, Nat.le_of_ble_eq_true rfl⟩ ?_
    refine WP_getfield (ci := 10) (j := 1) (n := 49) (t := 2) (x := 184) dX10_count_90 f_X10_13 k_183 rfl rfl ?_
    refine WP_bipush dX10_count_93 (by decide +kernel) (by decide) ?_
    refine WP_iaload (n := 4119) dX10_count_95 k_184 ⟨by decide, by decide⟩ ?_
    exact WQ_ireturn dX10_count_96 rfl h
  · refine WP_tableIn (tgt := 97) dX10_count_6 (by omega) (by omega) (by rw [c2]; rfl) (by decide) ?_
    replace h := h.2.2.2.2.2.2.1 c2
    refine WP_aload_n dX10_count_97 rfl rfl ⟨Nat.le_of_ble_eq_true rfl, Nat.le_of_ble_eq_true rfl⟩ ?_
    refine WP_getfield (ci := 10) (j := 5) (n := 49) (t := 0) (x := μ1 183 5) dX10_count_98 f_X10_108 k_183 rfl rfl ?_
    exact WQ_ireturn dX10_count_101 rfl h
  · refine WP_tableIn (tgt := 102) dX10_count_6 (by omega) (by omega) (by rw [c2]; rfl) (by decide) ?_
    replace h := h.2.2.2.2.2.2.2.1 c2
    refine WP_aload_n dX10_count_102 rfl rfl ⟨Nat.le_of_ble_eq_true rfl, Nat.le_of_ble_eq_true rfl⟩ ?_
    refine WP_getfield (ci := 10) (j := 1) (n := 49) (t := 2) (x := 184) dX10_count_103 f_X10_13 k_183 rfl rfl ?_
    refine WP_iconst dX10_count_106 (by decide) ?_
    refine WP_iaload (n := 4119) dX10_count_107 k_184 ⟨by decide, by decide⟩ ?_
    exact WQ_ireturn dX10_count_108 rfl h

theorem s_X10_crowd_0 {d : Nat} {sc : SC} {Q : Int → Mem → Prop} {μ : Mem} {a1 : Int}
    (h : ∀ μ1, μ1 = mup μ 183 0 0 → CAi mX10_within d sc [(1, a1), (1, 0), (1, 99)] μ1 (fun r2 μ3 => (r2 ≠ 0 → CAv mX10_laysDay d sc [(2, 183)] μ3 (fun μ6 => CAi mX10_crowdAt d sc [(2, 183), (0, a1)] μ6 (fun r7 μ8 => Q r7 μ8))) ∧ (r2 = 0 → Q (-3) μ3))) :
    WQ mX10_crowd d sc (ZI sc Q) 0 [(2, 183), (0, a1)] [] μ := by
  refine WP_aload_n dX10_crowd_0 rfl rfl ⟨Nat.le_of_ble_eq_true rfl, Nat.le_of_ble_eq_true rfl⟩ ?_
  refine WP_iconst dX10_crowd_1 (by decide) ?_
  refine WQ_put (ci := 10) (j := 0) (n := 49) dX10_crowd_2 f_X10_1 k_183 rfl (fun μ1 eμ1 => ?_)
  replace h := h μ1 eμ1
  refine WP_iload_n dX10_crowd_5 rfl rfl ?_
  refine WP_i2l dX10_crowd_6 ?_
  refine WP_lconst dX10_crowd_7 rfl ?_
  refine WP_ldc2 dX10_crowd_8 c_X10_311 (by decide) ?_
  refine WQ_invSi (as := [(1, a1), (1, 0), (1, 99)]) dX10_crowd_11 l_X10_170 mw_X10_within mt_X10_within mo_X10_within (Nat.le_of_ble_eq_true rfl) h rfl (fun r2 μ3 h => ?_)
  refine WQ_ifne (tgt := 20) dX10_crowd_14 (by decide) (fun c4 => ?_) (fun c4 => ?_)
  · replace h := h.1 c4
    refine WP_aload_n dX10_crowd_20 rfl rfl ⟨Nat.le_of_ble_eq_true rfl, Nat.le_of_ble_eq_true rfl⟩ ?_
    refine WQ_invVv (v := (2, 183)) (as := []) dX10_crowd_21 l_X10_308 mw_X10_laysDay mi_X10_laysDay ms_X10_laysDay mo_X10_laysDay (rcv (ci := 10) (n := 49) (r := (RX10, TX10, 49)) k_183 rfl rfl) (Nat.le_of_ble_eq_true rfl) h rfl (fun μ6 h => ?_)
    refine WP_aload_n dX10_crowd_24 rfl rfl ⟨Nat.le_of_ble_eq_true rfl, Nat.le_of_ble_eq_true rfl⟩ ?_
    refine WP_iload_n dX10_crowd_25 rfl rfl ?_
    refine WQ_invVi (v := (2, 183)) (as := [(0, a1)]) dX10_crowd_26 l_X10_402 mw_X10_crowdAt mi_X10_crowdAt ms_X10_crowdAt mo_X10_crowdAt (rcv (ci := 10) (n := 49) (r := (RX10, TX10, 49)) k_183 rfl rfl) (Nat.le_of_ble_eq_true rfl) h rfl (fun r7 μ8 h => ?_)
    exact WQ_ireturn dX10_crowd_29 rfl h
  · replace h := h.2 c4
    refine WP_bipush dX10_crowd_17 (by decide +kernel) (by decide) ?_
    exact WQ_ireturn dX10_crowd_19 rfl h

theorem s_X10_crowdAt_0 {d : Nat} {sc : SC} {Q : Int → Mem → Prop} {μ : Mem} {a1 : Int}
    (h : WQ mX10_crowdAt d sc (ZI sc Q) 4 [(2, 183), (0, a1), (0, 0), (0, 0)] [] μ) :
    WQ mX10_crowdAt d sc (ZI sc Q) 0 [(2, 183), (0, a1), (9, 0), (9, 0)] [] μ := by
  refine WP_iconst dX10_crowdAt_0 (by decide) ?_
  refine WP_istore_n (L' := [(2, 183), (0, a1), (0, 0), (9, 0)]) dX10_crowdAt_1 rfl (by decide) rfl ?_
  refine WP_iconst dX10_crowdAt_2 (by decide) ?_
  refine WP_istore_n (L' := [(2, 183), (0, a1), (0, 0), (0, 0)]) dX10_crowdAt_3 rfl (by decide) rfl ?_
  exact h

theorem s_X10_crowdAt_4 {d : Nat} {sc : SC} {Q : Int → Mem → Prop} {μ : Mem} {x1 x2 x3 : Int}
    (h : (μ 183 36 ≤ x3 → Q x2 μ) ∧ (x3 < μ 183 36 → (0 ≤ x3 ∧ x3 < 640) ∧ (μ 201 x3 ≠ x1 → (-2147483648 ≤ x2 + 0 ∧ x2 + 0 < 2147483648) ∧ (∀ v5 : Int, v5 = x2 + 0 → (-2147483648 ≤ x3 + 1 ∧ x3 + 1 < 2147483648) ∧ ∀ v7 : Int, v7 = x3 + 1 → WQ mX10_crowdAt d sc (ZI sc Q) 4 [(2, 183), (0, x1), (0, v5), (0, v7)] [] μ)) ∧ (μ 201 x3 = x1 → (-2147483648 ≤ x2 + 1 ∧ x2 + 1 < 2147483648) ∧ (∀ v9 : Int, v9 = x2 + 1 → (-2147483648 ≤ x3 + 1 ∧ x3 + 1 < 2147483648) ∧ ∀ v11 : Int, v11 = x3 + 1 → WQ mX10_crowdAt d sc (ZI sc Q) 4 [(2, 183), (0, x1), (0, v9), (0, v11)] [] μ)))) :
    WQ mX10_crowdAt d sc (ZI sc Q) 4 [(2, 183), (0, x1), (0, x2), (0, x3)] [] μ := by
  refine WP_iload_n dX10_crowdAt_4 rfl rfl ?_
  refine WP_aload_n dX10_crowdAt_5 rfl rfl ⟨Nat.le_of_ble_eq_true rfl, Nat.le_of_ble_eq_true rfl⟩ ?_
  refine WP_getfield (ci := 10) (j := 36) (n := 49) (t := 0) (x := μ 183 36) dX10_crowdAt_6 f_X10_287 k_183 rfl rfl ?_
  refine WQ_icmp_ge (tgt := 36) dX10_crowdAt_9 (by decide) (fun c1 => ?_) (fun c1 => ?_)
  · replace h := h.1 c1
    refine WP_iload_n dX10_crowdAt_36 rfl rfl ?_
    exact WQ_ireturn dX10_crowdAt_37 rfl h
  · replace h := h.2 c1
    refine WP_iload_n dX10_crowdAt_12 rfl rfl ?_
    refine WP_aload_n dX10_crowdAt_13 rfl rfl ⟨Nat.le_of_ble_eq_true rfl, Nat.le_of_ble_eq_true rfl⟩ ?_
    refine WP_getfield (ci := 10) (j := 30) (n := 49) (t := 2) (x := 201) dX10_crowdAt_14 f_X10_70 k_183 rfl rfl ?_
    refine WP_iload_n dX10_crowdAt_17 rfl rfl ?_
    obtain ⟨g2, h⟩ := h
    refine WP_iaload (n := 640) dX10_crowdAt_18 k_201 g2 ?_
    refine WP_iload_n dX10_crowdAt_19 rfl rfl ?_
    refine WQ_icmp_ne (tgt := 27) dX10_crowdAt_20 (by decide) (fun c3 => ?_) (fun c3 => ?_)
    · replace h := h.1 c3
      refine WP_iconst dX10_crowdAt_27 (by decide) ?_
      obtain ⟨g4, h⟩ := h
      refine WP_iadd dX10_crowdAt_28 g4 ?_
      refine WQ_nm0 (fun v5 e5 => ?_)
      replace h := h v5 e5
      refine WP_istore_n (L' := [(2, 183), (0, x1), (0, v5), (0, x3)]) dX10_crowdAt_29 rfl (by decide) rfl ?_
      obtain ⟨g6, h⟩ := h
      refine WQ_iinc dX10_crowdAt_30 rfl (by decide) g6 (fun v7 e7 => ?_)
      refine WP_same (L' := [(2, 183), (0, x1), (0, v5), (0, v7)]) rfl ?_
      replace h := h v7 e7
      refine WP_goto (tgt := 4) dX10_crowdAt_33 (by decide) ?_
      exact h
    · replace h := h.2 c3
      refine WP_iconst dX10_crowdAt_23 (by decide) ?_
      refine WP_goto (tgt := 28) dX10_crowdAt_24 (by decide) ?_
      obtain ⟨g8, h⟩ := h
      refine WP_iadd dX10_crowdAt_28 g8 ?_
      refine WQ_nm0 (fun v9 e9 => ?_)
      replace h := h v9 e9
      refine WP_istore_n (L' := [(2, 183), (0, x1), (0, v9), (0, x3)]) dX10_crowdAt_29 rfl (by decide) rfl ?_
      obtain ⟨g10, h⟩ := h
      refine WQ_iinc dX10_crowdAt_30 rfl (by decide) g10 (fun v11 e11 => ?_)
      refine WP_same (L' := [(2, 183), (0, x1), (0, v9), (0, v11)]) rfl ?_
      replace h := h v11 e11
      refine WP_goto (tgt := 4) dX10_crowdAt_33 (by decide) ?_
      exact h

theorem s_X10_cut_0 {d : Nat} {sc : SC} {Q : Int → Mem → Prop} {μ : Mem} {a0 a2 : Int}
    (h : (a2 ≠ 0 → (a2 ≠ 1 → (a2 ≠ 2 → Q a0 μ) ∧ (a2 = 2 → Q (w32 a0) μ)) ∧ (a2 = 1 → Q (toS (w32 a0)) μ)) ∧ (a2 = 0 → Q (toB (w32 a0)) μ)) :
    WQ mX10_cut d sc (ZL sc Q) 0 [(1, a0), (9, 0), (0, a2)] [] μ := by
  refine WP_iload_n dX10_cut_0 rfl rfl ?_
  refine WQ_ifne (tgt := 11) dX10_cut_1 (by decide) (fun c1 => ?_) (fun c1 => ?_)
  · replace h := h.1 c1
    refine WP_iload_n dX10_cut_11 rfl rfl ?_
    refine WP_iconst dX10_cut_12 (by decide) ?_
    refine WQ_icmp_ne (tgt := 23) dX10_cut_13 (by decide) (fun c2 => ?_) (fun c2 => ?_)
    · replace h := h.1 c2
      refine WP_iload_n dX10_cut_23 rfl rfl ?_
      refine WP_iconst dX10_cut_24 (by decide) ?_
      refine WQ_icmp_ne (tgt := 34) dX10_cut_25 (by decide) (fun c3 => ?_) (fun c3 => ?_)
      · replace h := h.1 c3
        refine WP_lload_n dX10_cut_34 rfl rfl ?_
        exact WQ_lreturn dX10_cut_35 rfl h
      · replace h := h.2 c3
        refine WP_lload_n dX10_cut_28 rfl rfl ?_
        refine WP_l2i dX10_cut_29 ?_
        refine WP_i2l dX10_cut_30 ?_
        refine WP_goto (tgt := 35) dX10_cut_31 (by decide) ?_
        exact WQ_lreturn dX10_cut_35 rfl h
    · replace h := h.2 c2
      refine WP_lload_n dX10_cut_16 rfl rfl ?_
      refine WP_l2i dX10_cut_17 ?_
      refine WP_i2s dX10_cut_18 ?_
      refine WP_i2l dX10_cut_19 ?_
      refine WP_goto (tgt := 35) dX10_cut_20 (by decide) ?_
      exact WQ_lreturn dX10_cut_35 rfl h
  · replace h := h.2 c1
    refine WP_lload_n dX10_cut_4 rfl rfl ?_
    refine WP_l2i dX10_cut_5 ?_
    refine WP_i2b dX10_cut_6 ?_
    refine WP_i2l dX10_cut_7 ?_
    refine WP_goto (tgt := 35) dX10_cut_8 (by decide) ?_
    exact WQ_lreturn dX10_cut_35 rfl h

theorem s_X10_does_0 {d : Nat} {sc : SC} {Q : Mem → Prop} {μ : Mem} {a1 : Int}
    (h : (8000 ≤ a1 → (8100 ≤ a1 → (9000 ≤ a1 → (-2147483648 ≤ a1 - 9000 ∧ a1 - 9000 < 2147483648) ∧ (∀ μ6, μ6 = mup μ 184 70 (a1 - 9000) → Q μ6)) ∧ (a1 < 9000 → (-2147483648 ≤ a1 - 8100 ∧ a1 - 8100 < 2147483648) ∧ 0 ≤ a1 - 8100 ∧ (-2147483648 ≤ 64 + ((a1 - 8100) / 100) ∧ 64 + ((a1 - 8100) / 100) < 2147483648) ∧ 0 ≤ a1 ∧ (0 ≤ 64 + ((a1 - 8100) / 100) ∧ 64 + ((a1 - 8100) / 100) < 4119) ∧ (∀ μ12, μ12 = mup μ 184 (64 + ((a1 - 8100) / 100)) (a1 % 100) → Q μ12))) ∧ (a1 < 8100 → (-2147483648 ≤ a1 - 8000 ∧ a1 - 8000 < 2147483648) ∧ CAv mX10_drops d sc [(2, 183), (0, a1 - 8000)] μ (fun μ15 => Q μ15))) ∧ (a1 < 8000 → 0 ≤ a1 ∧ 0 ≤ a1 ∧ 0 ≤ a1 / 100 ∧ 0 ≤ a1 ∧ CAv mX10_tellsOne d sc [(2, 183), (0, a1 / 1000), (0, (a1 / 100) % 10), (0, a1 % 100)] μ (fun μ21 => Q μ21))) :
    WQ mX10_does d sc (ZV sc Q) 0 [(2, 183), (0, a1)] [] μ := by
  refine WP_iload_n dX10_does_0 rfl rfl ?_
  refine WP_sipush dX10_does_1 (by decide +kernel) (by decide) ?_
  refine WQ_icmp_ge (tgt := 30) dX10_does_4 (by decide) (fun c1 => ?_) (fun c1 => ?_)
  · replace h := h.1 c1
    refine WP_iload_n dX10_does_30 rfl rfl ?_
    refine WP_sipush dX10_does_31 (by decide +kernel) (by decide) ?_
    refine WQ_icmp_ge (tgt := 49) dX10_does_34 (by decide) (fun c2 => ?_) (fun c2 => ?_)
    · replace h := h.1 c2
      refine WP_iload_n dX10_does_49 rfl rfl ?_
      refine WP_sipush dX10_does_50 (by decide +kernel) (by decide) ?_
      refine WQ_icmp_ge (tgt := 79) dX10_does_53 (by decide) (fun c3 => ?_) (fun c3 => ?_)
      · replace h := h.1 c3
        refine WP_aload_n dX10_does_79 rfl rfl ⟨Nat.le_of_ble_eq_true rfl, Nat.le_of_ble_eq_true rfl⟩ ?_
        refine WP_getfield (ci := 10) (j := 1) (n := 49) (t := 2) (x := 184) dX10_does_80 f_X10_13 k_183 rfl rfl ?_
        refine WP_bipush dX10_does_83 (by decide +kernel) (by decide) ?_
        refine WP_iload_n dX10_does_85 rfl rfl ?_
        refine WP_sipush dX10_does_86 (by decide +kernel) (by decide) ?_
        obtain ⟨g4, h⟩ := h
        refine WP_isub dX10_does_89 g4 ?_
        refine WQ_iast (n := 4119) dX10_does_90 k_184 ⟨by decide, by decide⟩ (fun μ6 eμ6 => ?_)
        replace h := h μ6 eμ6
        exact WQ_return dX10_does_91 rfl h
      · replace h := h.2 c3
        refine WP_aload_n dX10_does_56 rfl rfl ⟨Nat.le_of_ble_eq_true rfl, Nat.le_of_ble_eq_true rfl⟩ ?_
        refine WP_getfield (ci := 10) (j := 1) (n := 49) (t := 2) (x := 184) dX10_does_57 f_X10_13 k_183 rfl rfl ?_
        refine WP_bipush dX10_does_60 (by decide +kernel) (by decide) ?_
        refine WP_iload_n dX10_does_62 rfl rfl ?_
        refine WP_sipush dX10_does_63 (by decide +kernel) (by decide) ?_
        obtain ⟨g7, h⟩ := h
        refine WP_isub dX10_does_66 g7 ?_
        refine WP_bipush dX10_does_67 (by decide +kernel) (by decide) ?_
        obtain ⟨g8, h⟩ := h
        refine WP_idiv dX10_does_69 ⟨g8, by decide⟩ ?_
        obtain ⟨g9, h⟩ := h
        refine WP_iadd dX10_does_70 g9 ?_
        refine WP_iload_n dX10_does_71 rfl rfl ?_
        refine WP_bipush dX10_does_72 (by decide +kernel) (by decide) ?_
        obtain ⟨g10, h⟩ := h
        refine WP_irem dX10_does_74 ⟨g10, by decide⟩ ?_
        obtain ⟨g11, h⟩ := h
        refine WQ_iast (n := 4119) dX10_does_75 k_184 g11 (fun μ12 eμ12 => ?_)
        replace h := h μ12 eμ12
        refine WP_goto (tgt := 91) dX10_does_76 (by decide) ?_
        exact WQ_return dX10_does_91 rfl h
    · replace h := h.2 c2
      refine WP_aload_n dX10_does_37 rfl rfl ⟨Nat.le_of_ble_eq_true rfl, Nat.le_of_ble_eq_true rfl⟩ ?_
      refine WP_iload_n dX10_does_38 rfl rfl ?_
      refine WP_sipush dX10_does_39 (by decide +kernel) (by decide) ?_
      obtain ⟨g13, h⟩ := h
      refine WP_isub dX10_does_42 g13 ?_
      refine WQ_invVv (v := (2, 183)) (as := [(0, a1 - 8000)]) dX10_does_43 l_X10_332 mw_X10_drops mi_X10_drops ms_X10_drops mo_X10_drops (rcv (ci := 10) (n := 49) (r := (RX10, TX10, 49)) k_183 rfl rfl) (Nat.le_of_ble_eq_true rfl) h rfl (fun μ15 h => ?_)
      refine WP_goto (tgt := 91) dX10_does_46 (by decide) ?_
      exact WQ_return dX10_does_91 rfl h
  · replace h := h.2 c1
    refine WP_aload_n dX10_does_7 rfl rfl ⟨Nat.le_of_ble_eq_true rfl, Nat.le_of_ble_eq_true rfl⟩ ?_
    refine WP_iload_n dX10_does_8 rfl rfl ?_
    refine WP_sipush dX10_does_9 (by decide +kernel) (by decide) ?_
    obtain ⟨g16, h⟩ := h
    refine WP_idiv dX10_does_12 ⟨g16, by decide⟩ ?_
    refine WP_iload_n dX10_does_13 rfl rfl ?_
    refine WP_bipush dX10_does_14 (by decide +kernel) (by decide) ?_
    obtain ⟨g17, h⟩ := h
    refine WP_idiv dX10_does_16 ⟨g17, by decide⟩ ?_
    refine WP_bipush dX10_does_17 (by decide +kernel) (by decide) ?_
    obtain ⟨g18, h⟩ := h
    refine WP_irem dX10_does_19 ⟨g18, by decide⟩ ?_
    refine WP_iload_n dX10_does_20 rfl rfl ?_
    refine WP_bipush dX10_does_21 (by decide +kernel) (by decide) ?_
    obtain ⟨g19, h⟩ := h
    refine WP_irem dX10_does_23 ⟨g19, by decide⟩ ?_
    refine WQ_invVv (v := (2, 183)) (as := [(0, a1 / 1000), (0, (a1 / 100) % 10), (0, a1 % 100)]) dX10_does_24 l_X10_323 mw_X10_tellsOne mi_X10_tellsOne ms_X10_tellsOne mo_X10_tellsOne (rcv (ci := 10) (n := 49) (r := (RX10, TX10, 49)) k_183 rfl rfl) (Nat.le_of_ble_eq_true rfl) h rfl (fun μ21 h => ?_)
    refine WP_goto (tgt := 91) dX10_does_27 (by decide) ?_
    exact WQ_return dX10_does_91 rfl h

theorem s_X10_draw_0 {d : Nat} {sc : SC} {Q : Int → Mem → Prop} {μ : Mem} {a1 : Int}
    (h : ∀ μ1, μ1 = mup μ 183 39 (w32 ((w32 (1103515245 * (μ 183 39))) + 12345)) → (0 ≤ iUshr (μ1 183 39) 16 ∧ 0 < a1) ∧ Q ((iUshr (μ1 183 39) 16) % a1) μ1) :
    WQ mX10_draw d sc (ZI sc Q) 0 [(2, 183), (0, a1)] [] μ := by
  refine WP_aload_n dX10_draw_0 rfl rfl ⟨Nat.le_of_ble_eq_true rfl, Nat.le_of_ble_eq_true rfl⟩ ?_
  refine WP_ldcw dX10_draw_1 c_X10_384 (by decide) ?_
  refine WP_aload_n dX10_draw_4 rfl rfl ⟨Nat.le_of_ble_eq_true rfl, Nat.le_of_ble_eq_true rfl⟩ ?_
  refine WP_getfield (ci := 10) (j := 39) (n := 49) (t := 0) (x := μ 183 39) dX10_draw_5 f_X10_385 k_183 rfl rfl ?_
  refine WP_imulW dX10_draw_8 ?_
  refine WP_sipush dX10_draw_9 (by decide +kernel) (by decide) ?_
  refine WP_iaddW dX10_draw_12 ?_
  refine WQ_put (ci := 10) (j := 39) (n := 49) dX10_draw_13 f_X10_385 k_183 rfl (fun μ1 eμ1 => ?_)
  replace h := h μ1 eμ1
  refine WP_aload_n dX10_draw_16 rfl rfl ⟨Nat.le_of_ble_eq_true rfl, Nat.le_of_ble_eq_true rfl⟩ ?_
  refine WP_getfield (ci := 10) (j := 39) (n := 49) (t := 0) (x := μ1 183 39) dX10_draw_17 f_X10_385 k_183 rfl rfl ?_
  refine WP_bipush dX10_draw_20 (by decide +kernel) (by decide) ?_
  refine WP_iushr dX10_draw_22 ?_
  refine WP_iload_n dX10_draw_23 rfl rfl ?_
  obtain ⟨g2, h⟩ := h
  refine WP_irem dX10_draw_24 g2 ?_
  exact WQ_ireturn dX10_draw_25 rfl h

theorem s_X10_drawn_0 {d : Nat} {sc : SC} {Q : Int → Mem → Prop} {μ : Mem}
    (h : CAi mX10_draw d sc [(2, 183), (0, 5)] μ (fun r1 μ2 => (r1 ≠ 4 → (r1 ≠ 2 → CAi mX10_draw d sc [(2, 183), (0, 6)] μ2 (fun r5 μ6 => (r1 ≠ 3 → CAi mX10_draw d sc [(2, 183), (0, 6)] μ6 (fun r8 μ9 => (-2147483648 ≤ 1000 * r5 ∧ 1000 * r5 < 2147483648) ∧ (-2147483648 ≤ 100 * r8 ∧ 100 * r8 < 2147483648) ∧ (-2147483648 ≤ (1000 * r5) + (100 * r8) ∧ (1000 * r5) + (100 * r8) < 2147483648) ∧ CAi mX10_draw d sc [(2, 183), (0, 100)] μ9 (fun r13 μ14 => (-2147483648 ≤ ((1000 * r5) + (100 * r8)) + r13 ∧ ((1000 * r5) + (100 * r8)) + r13 < 2147483648) ∧ Q (((1000 * r5) + (100 * r8)) + r13) μ14))) ∧ (r1 = 3 → (-2147483648 ≤ 100 * r5 ∧ 100 * r5 < 2147483648) ∧ (-2147483648 ≤ 8100 + (100 * r5) ∧ 8100 + (100 * r5) < 2147483648) ∧ CAi mX10_draw d sc [(2, 183), (0, 64)] μ6 (fun r18 μ19 => (-2147483648 ≤ (8100 + (100 * r5)) + r18 ∧ (8100 + (100 * r5)) + r18 < 2147483648) ∧ Q ((8100 + (100 * r5)) + r18) μ19)))) ∧ (r1 = 2 → CAi mX10_draw d sc [(2, 183), (0, 8)] μ2 (fun r21 μ22 => (-2147483648 ≤ 8000 + r21 ∧ 8000 + r21 < 2147483648) ∧ Q (8000 + r21) μ22))) ∧ (r1 = 4 → CAi mX10_draw d sc [(2, 183), (0, 10)] μ2 (fun r24 μ25 => (-2147483648 ≤ 9000 + r24 ∧ 9000 + r24 < 2147483648) ∧ Q (9000 + r24) μ25)))) :
    WQ mX10_drawn d sc (ZI sc Q) 0 [(2, 183), (9, 0), (9, 0), (9, 0)] [] μ := by
  refine WP_aload_n dX10_drawn_0 rfl rfl ⟨Nat.le_of_ble_eq_true rfl, Nat.le_of_ble_eq_true rfl⟩ ?_
  refine WP_iconst dX10_drawn_1 (by decide) ?_
  refine WQ_invVi (v := (2, 183)) (as := [(0, 5)]) dX10_drawn_2 l_X10_388 mw_X10_draw mi_X10_draw ms_X10_draw mo_X10_draw (rcv (ci := 10) (n := 49) (r := (RX10, TX10, 49)) k_183 rfl rfl) (Nat.le_of_ble_eq_true rfl) h rfl (fun r1 μ2 h => ?_)
  refine WP_istore_n (L' := [(2, 183), (0, r1), (9, 0), (9, 0)]) dX10_drawn_5 rfl (by decide) rfl ?_
  refine WP_iload_n dX10_drawn_6 rfl rfl ?_
  refine WP_iconst dX10_drawn_7 (by decide) ?_
  refine WQ_icmp_ne (tgt := 22) dX10_drawn_8 (by decide) (fun c3 => ?_) (fun c3 => ?_)
  · replace h := h.1 c3
    refine WP_iload_n dX10_drawn_22 rfl rfl ?_
    refine WP_iconst dX10_drawn_23 (by decide) ?_
    refine WQ_icmp_ne (tgt := 38) dX10_drawn_24 (by decide) (fun c4 => ?_) (fun c4 => ?_)
    · replace h := h.1 c4
      refine WP_aload_n dX10_drawn_38 rfl rfl ⟨Nat.le_of_ble_eq_true rfl, Nat.le_of_ble_eq_true rfl⟩ ?_
      refine WP_bipush dX10_drawn_39 (by decide +kernel) (by decide) ?_
      refine WQ_invVi (v := (2, 183)) (as := [(0, 6)]) dX10_drawn_41 l_X10_388 mw_X10_draw mi_X10_draw ms_X10_draw mo_X10_draw (rcv (ci := 10) (n := 49) (r := (RX10, TX10, 49)) k_183 rfl rfl) (Nat.le_of_ble_eq_true rfl) h rfl (fun r5 μ6 h => ?_)
      refine WP_istore_n (L' := [(2, 183), (0, r1), (0, r5), (9, 0)]) dX10_drawn_44 rfl (by decide) rfl ?_
      refine WP_iload_n dX10_drawn_45 rfl rfl ?_
      refine WP_iconst dX10_drawn_46 (by decide) ?_
      refine WQ_icmp_ne (tgt := 66) dX10_drawn_47 (by decide) (fun c7 => ?_) (fun c7 => ?_)
      · replace h := h.1 c7
        refine WP_aload_n dX10_drawn_66 rfl rfl ⟨Nat.le_of_ble_eq_true rfl, Nat.le_of_ble_eq_true rfl⟩ ?_
        refine WP_bipush dX10_drawn_67 (by decide +kernel) (by decide) ?_
        refine WQ_invVi (v := (2, 183)) (as := [(0, 6)]) dX10_drawn_69 l_X10_388 mw_X10_draw mi_X10_draw ms_X10_draw mo_X10_draw (rcv (ci := 10) (n := 49) (r := (RX10, TX10, 49)) k_183 rfl rfl) (Nat.le_of_ble_eq_true rfl) h rfl (fun r8 μ9 h => ?_)
        refine WP_istore_n (L' := [(2, 183), (0, r1), (0, r5), (0, r8)]) dX10_drawn_72 rfl (by decide) rfl ?_
        refine WP_sipush dX10_drawn_73 (by decide +kernel) (by decide) ?_
        refine WP_iload_n dX10_drawn_76 rfl rfl ?_
        obtain ⟨g10, h⟩ := h
        refine WP_imul dX10_drawn_77 g10 ?_
        refine WP_bipush dX10_drawn_78 (by decide +kernel) (by decide) ?_
        refine WP_iload_n dX10_drawn_80 rfl rfl ?_
        obtain ⟨g11, h⟩ := h
        refine WP_imul dX10_drawn_81 g11 ?_
        obtain ⟨g12, h⟩ := h
        refine WP_iadd dX10_drawn_82 g12 ?_
        refine WP_aload_n dX10_drawn_83 rfl rfl ⟨Nat.le_of_ble_eq_true rfl, Nat.le_of_ble_eq_true rfl⟩ ?_
        refine WP_bipush dX10_drawn_84 (by decide +kernel) (by decide) ?_
        refine WQ_invVi (v := (2, 183)) (as := [(0, 100)]) dX10_drawn_86 l_X10_388 mw_X10_draw mi_X10_draw ms_X10_draw mo_X10_draw (rcv (ci := 10) (n := 49) (r := (RX10, TX10, 49)) k_183 rfl rfl) (Nat.le_of_ble_eq_true rfl) h rfl (fun r13 μ14 h => ?_)
        obtain ⟨g15, h⟩ := h
        refine WP_iadd dX10_drawn_89 g15 ?_
        exact WQ_ireturn dX10_drawn_90 rfl h
      · replace h := h.2 c7
        refine WP_sipush dX10_drawn_50 (by decide +kernel) (by decide) ?_
        refine WP_bipush dX10_drawn_53 (by decide +kernel) (by decide) ?_
        refine WP_iload_n dX10_drawn_55 rfl rfl ?_
        obtain ⟨g16, h⟩ := h
        refine WP_imul dX10_drawn_56 g16 ?_
        obtain ⟨g17, h⟩ := h
        refine WP_iadd dX10_drawn_57 g17 ?_
        refine WP_aload_n dX10_drawn_58 rfl rfl ⟨Nat.le_of_ble_eq_true rfl, Nat.le_of_ble_eq_true rfl⟩ ?_
        refine WP_bipush dX10_drawn_59 (by decide +kernel) (by decide) ?_
        refine WQ_invVi (v := (2, 183)) (as := [(0, 64)]) dX10_drawn_61 l_X10_388 mw_X10_draw mi_X10_draw ms_X10_draw mo_X10_draw (rcv (ci := 10) (n := 49) (r := (RX10, TX10, 49)) k_183 rfl rfl) (Nat.le_of_ble_eq_true rfl) h rfl (fun r18 μ19 h => ?_)
        obtain ⟨g20, h⟩ := h
        refine WP_iadd dX10_drawn_64 g20 ?_
        exact WQ_ireturn dX10_drawn_65 rfl h
    · replace h := h.2 c4
      refine WP_sipush dX10_drawn_27 (by decide +kernel) (by decide) ?_
      refine WP_aload_n dX10_drawn_30 rfl rfl ⟨Nat.le_of_ble_eq_true rfl, Nat.le_of_ble_eq_true rfl⟩ ?_
      refine WP_bipush dX10_drawn_31 (by decide +kernel) (by decide) ?_
      refine WQ_invVi (v := (2, 183)) (as := [(0, 8)]) dX10_drawn_33 l_X10_388 mw_X10_draw mi_X10_draw ms_X10_draw mo_X10_draw (rcv (ci := 10) (n := 49) (r := (RX10, TX10, 49)) k_183 rfl rfl) (Nat.le_of_ble_eq_true rfl) h rfl (fun r21 μ22 h => ?_)
      obtain ⟨g23, h⟩ := h
      refine WP_iadd dX10_drawn_36 g23 ?_
      exact WQ_ireturn dX10_drawn_37 rfl h
  · replace h := h.2 c3
    refine WP_sipush dX10_drawn_11 (by decide +kernel) (by decide) ?_
    refine WP_aload_n dX10_drawn_14 rfl rfl ⟨Nat.le_of_ble_eq_true rfl, Nat.le_of_ble_eq_true rfl⟩ ?_
    refine WP_bipush dX10_drawn_15 (by decide +kernel) (by decide) ?_
    refine WQ_invVi (v := (2, 183)) (as := [(0, 10)]) dX10_drawn_17 l_X10_388 mw_X10_draw mi_X10_draw ms_X10_draw mo_X10_draw (rcv (ci := 10) (n := 49) (r := (RX10, TX10, 49)) k_183 rfl rfl) (Nat.le_of_ble_eq_true rfl) h rfl (fun r24 μ25 h => ?_)
    obtain ⟨g26, h⟩ := h
    refine WP_iadd dX10_drawn_20 g26 ?_
    exact WQ_ireturn dX10_drawn_21 rfl h

theorem s_X10_drop_0 {d : Nat} {sc : SC} {Q : Int → Mem → Prop} {μ : Mem} {a1 : Int}
    (h : ∀ μ1, μ1 = mup μ 183 0 0 → CAi mX10_isNaming d sc [(2, 183), (1, a1)] μ1 (fun r2 μ3 => (r2 ≠ 0 → CAv mX10_stores d sc [(2, 183)] μ3 (fun μ6 => CAv mX10_drops d sc [(2, 183), (0, a1)] μ6 (fun μ8 => CAv mX10_notes d sc [(2, 183)] μ8 (fun μ10 => Q (μ10 184 31) μ10)))) ∧ (r2 = 0 → Q (-11) μ3))) :
    WQ mX10_drop d sc (ZI sc Q) 0 [(2, 183), (0, a1)] [] μ := by
  refine WP_aload_n dX10_drop_0 rfl rfl ⟨Nat.le_of_ble_eq_true rfl, Nat.le_of_ble_eq_true rfl⟩ ?_
  refine WP_iconst dX10_drop_1 (by decide) ?_
  refine WQ_put (ci := 10) (j := 0) (n := 49) dX10_drop_2 f_X10_1 k_183 rfl (fun μ1 eμ1 => ?_)
  replace h := h μ1 eμ1
  refine WP_aload_n dX10_drop_5 rfl rfl ⟨Nat.le_of_ble_eq_true rfl, Nat.le_of_ble_eq_true rfl⟩ ?_
  refine WP_iload_n dX10_drop_6 rfl rfl ?_
  refine WP_i2l dX10_drop_7 ?_
  refine WQ_invVi (v := (2, 183)) (as := [(1, a1)]) dX10_drop_8 l_X10_329 mw_X10_isNaming mi_X10_isNaming ms_X10_isNaming mo_X10_isNaming (rcv (ci := 10) (n := 49) (r := (RX10, TX10, 49)) k_183 rfl rfl) (Nat.le_of_ble_eq_true rfl) h rfl (fun r2 μ3 h => ?_)
  refine WQ_ifne (tgt := 17) dX10_drop_11 (by decide) (fun c4 => ?_) (fun c4 => ?_)
  · replace h := h.1 c4
    refine WP_aload_n dX10_drop_17 rfl rfl ⟨Nat.le_of_ble_eq_true rfl, Nat.le_of_ble_eq_true rfl⟩ ?_
    refine WQ_invVv (v := (2, 183)) (as := []) dX10_drop_18 l_X10_320 mw_X10_stores mi_X10_stores ms_X10_stores mo_X10_stores (rcv (ci := 10) (n := 49) (r := (RX10, TX10, 49)) k_183 rfl rfl) (Nat.le_of_ble_eq_true rfl) h rfl (fun μ6 h => ?_)
    refine WP_aload_n dX10_drop_21 rfl rfl ⟨Nat.le_of_ble_eq_true rfl, Nat.le_of_ble_eq_true rfl⟩ ?_
    refine WP_iload_n dX10_drop_22 rfl rfl ?_
    refine WQ_invVv (v := (2, 183)) (as := [(0, a1)]) dX10_drop_23 l_X10_332 mw_X10_drops mi_X10_drops ms_X10_drops mo_X10_drops (rcv (ci := 10) (n := 49) (r := (RX10, TX10, 49)) k_183 rfl rfl) (Nat.le_of_ble_eq_true rfl) h rfl (fun μ8 h => ?_)
    refine WP_aload_n dX10_drop_26 rfl rfl ⟨Nat.le_of_ble_eq_true rfl, Nat.le_of_ble_eq_true rfl⟩ ?_
    refine WQ_invVv (v := (2, 183)) (as := []) dX10_drop_27 l_X10_326 mw_X10_notes mi_X10_notes ms_X10_notes mo_X10_notes (rcv (ci := 10) (n := 49) (r := (RX10, TX10, 49)) k_183 rfl rfl) (Nat.le_of_ble_eq_true rfl) h rfl (fun μ10 h => ?_)
    refine WP_aload_n dX10_drop_30 rfl rfl ⟨Nat.le_of_ble_eq_true rfl, Nat.le_of_ble_eq_true rfl⟩ ?_
    refine WP_getfield (ci := 10) (j := 1) (n := 49) (t := 2) (x := 184) dX10_drop_31 f_X10_13 k_183 rfl rfl ?_
    refine WP_bipush dX10_drop_34 (by decide +kernel) (by decide) ?_
    refine WP_iaload (n := 4119) dX10_drop_36 k_184 ⟨by decide, by decide⟩ ?_
    exact WQ_ireturn dX10_drop_37 rfl h
  · replace h := h.2 c4
    refine WP_bipush dX10_drop_14 (by decide +kernel) (by decide) ?_
    exact WQ_ireturn dX10_drop_16 rfl h

theorem s_X10_drops_0 {d : Nat} {sc : SC} {Q : Mem → Prop} {μ : Mem} {a1 : Int}
    (h : (-2147483648 ≤ 4 * a1 ∧ 4 * a1 < 2147483648) ∧ (-2147483648 ≤ 32 + (4 * a1) ∧ 32 + (4 * a1) < 2147483648) ∧ (∀ v3 : Int, v3 = 32 + (4 * a1) → WQ mX10_drops d sc (ZV sc Q) 7 [(2, 183), (9, 0), (0, v3)] [] μ)) :
    WQ mX10_drops d sc (ZV sc Q) 0 [(2, 183), (0, a1), (9, 0)] [] μ := by
  refine WP_bipush dX10_drops_0 (by decide +kernel) (by decide) ?_
  refine WP_iconst dX10_drops_2 (by decide) ?_
  refine WP_iload_n dX10_drops_3 rfl rfl ?_
  obtain ⟨g1, h⟩ := h
  refine WP_imul dX10_drops_4 g1 ?_
  obtain ⟨g2, h⟩ := h
  refine WP_iadd dX10_drops_5 g2 ?_
  refine WQ_nm0 (fun v3 e3 => ?_)
  replace h := h v3 e3
  refine WP_istore_n (L' := [(2, 183), (0, a1), (0, v3)]) dX10_drops_6 rfl (by decide) rfl ?_
  refine WP_lforget (L' := [(2, 183), (9, 0), (0, v3)]) rfl (fun i hi => ?_) h
  match i, hi with
  | 0, _ => exact Or.inl rfl
  | 1, _ => exact Or.inr rfl
  | 2, _ => exact Or.inl rfl
  | i + 3, hi => exact absurd hi (by simp only [List.length_cons, List.length_nil]; omega)

theorem s_X10_drops_7 {d : Nat} {sc : SC} {Q : Mem → Prop} {μ : Mem} {x2 : Int}
    (h : (60 ≤ x2 → (-2147483648 ≤ (μ 184 31) - 1 ∧ (μ 184 31) - 1 < 2147483648) ∧ (∀ μ5, μ5 = mup μ 184 31 ((μ 184 31) - 1) → Q μ5)) ∧ (x2 < 60 → (-2147483648 ≤ x2 + 4 ∧ x2 + 4 < 2147483648) ∧ (0 ≤ x2 + 4 ∧ x2 + 4 < 4119) ∧ (0 ≤ x2 ∧ x2 < 4119) ∧ (∀ μ9, μ9 = mup μ 184 x2 (μ 184 (x2 + 4)) → (-2147483648 ≤ x2 + 1 ∧ x2 + 1 < 2147483648) ∧ ∀ v11 : Int, v11 = x2 + 1 → WQ mX10_drops d sc (ZV sc Q) 7 [(2, 183), (9, 0), (0, v11)] [] μ9))) :
    WQ mX10_drops d sc (ZV sc Q) 7 [(2, 183), (9, 0), (0, x2)] [] μ := by
  refine WP_iload_n dX10_drops_7 rfl rfl ?_
  refine WP_bipush dX10_drops_8 (by decide +kernel) (by decide) ?_
  refine WQ_icmp_ge (tgt := 33) dX10_drops_10 (by decide) (fun c1 => ?_) (fun c1 => ?_)
  · replace h := h.1 c1
    refine WP_aload_n dX10_drops_33 rfl rfl ⟨Nat.le_of_ble_eq_true rfl, Nat.le_of_ble_eq_true rfl⟩ ?_
    refine WP_getfield (ci := 10) (j := 1) (n := 49) (t := 2) (x := 184) dX10_drops_34 f_X10_13 k_183 rfl rfl ?_
    refine WP_bipush dX10_drops_37 (by decide +kernel) (by decide) ?_
    refine WP_dup2 dX10_drops_39 (by simp) (by simp) ?_
    refine WP_iaload (n := 4119) dX10_drops_40 k_184 ⟨by decide, by decide⟩ ?_
    refine WP_iconst dX10_drops_41 (by decide) ?_
    obtain ⟨g3, h⟩ := h
    refine WP_isub dX10_drops_42 g3 ?_
    refine WQ_iast (n := 4119) dX10_drops_43 k_184 ⟨by decide, by decide⟩ (fun μ5 eμ5 => ?_)
    replace h := h μ5 eμ5
    exact WQ_return dX10_drops_44 rfl h
  · replace h := h.2 c1
    refine WP_aload_n dX10_drops_13 rfl rfl ⟨Nat.le_of_ble_eq_true rfl, Nat.le_of_ble_eq_true rfl⟩ ?_
    refine WP_getfield (ci := 10) (j := 1) (n := 49) (t := 2) (x := 184) dX10_drops_14 f_X10_13 k_183 rfl rfl ?_
    refine WP_iload_n dX10_drops_17 rfl rfl ?_
    refine WP_aload_n dX10_drops_18 rfl rfl ⟨Nat.le_of_ble_eq_true rfl, Nat.le_of_ble_eq_true rfl⟩ ?_
    refine WP_getfield (ci := 10) (j := 1) (n := 49) (t := 2) (x := 184) dX10_drops_19 f_X10_13 k_183 rfl rfl ?_
    refine WP_iload_n dX10_drops_22 rfl rfl ?_
    refine WP_iconst dX10_drops_23 (by decide) ?_
    obtain ⟨g6, h⟩ := h
    refine WP_iadd dX10_drops_24 g6 ?_
    obtain ⟨g7, h⟩ := h
    refine WP_iaload (n := 4119) dX10_drops_25 k_184 g7 ?_
    obtain ⟨g8, h⟩ := h
    refine WQ_iast (n := 4119) dX10_drops_26 k_184 g8 (fun μ9 eμ9 => ?_)
    replace h := h μ9 eμ9
    obtain ⟨g10, h⟩ := h
    refine WQ_iinc dX10_drops_27 rfl (by decide) g10 (fun v11 e11 => ?_)
    refine WP_same (L' := [(2, 183), (9, 0), (0, v11)]) rfl ?_
    replace h := h v11 e11
    refine WP_goto (tgt := 7) dX10_drops_30 (by decide) ?_
    exact h

theorem s_X10_eats_0 {d : Nat} {sc : SC} {Q : Int → Mem → Prop} {μ : Mem} {a1 : Int}
    (h : CAi mX10_is d sc [(2, 183), (0, a1)] μ (fun r1 μ2 => (r1 ≠ 0 → CAv mX10_next d sc [(2, 183)] μ2 (fun μ5 => Q 1 μ5)) ∧ (r1 = 0 → Q 0 μ2))) :
    WQ mX10_eats d sc (ZI sc Q) 0 [(2, 183), (0, a1)] [] μ := by
  refine WP_aload_n dX10_eats_0 rfl rfl ⟨Nat.le_of_ble_eq_true rfl, Nat.le_of_ble_eq_true rfl⟩ ?_
  refine WP_iload_n dX10_eats_1 rfl rfl ?_
  refine WQ_invVi (v := (2, 183)) (as := [(0, a1)]) dX10_eats_2 l_X10_160 mw_X10_is mi_X10_is ms_X10_is mo_X10_is (rcv (ci := 10) (n := 49) (r := (RX10, TX10, 49)) k_183 rfl rfl) (Nat.le_of_ble_eq_true rfl) h rfl (fun r1 μ2 h => ?_)
  refine WQ_ifne (tgt := 10) dX10_eats_5 (by decide) (fun c3 => ?_) (fun c3 => ?_)
  · replace h := h.1 c3
    refine WP_aload_n dX10_eats_10 rfl rfl ⟨Nat.le_of_ble_eq_true rfl, Nat.le_of_ble_eq_true rfl⟩ ?_
    refine WQ_invVv (v := (2, 183)) (as := []) dX10_eats_11 l_X10_163 mw_X10_next mi_X10_next ms_X10_next mo_X10_next (rcv (ci := 10) (n := 49) (r := (RX10, TX10, 49)) k_183 rfl rfl) (Nat.le_of_ble_eq_true rfl) h rfl (fun μ5 h => ?_)
    refine WP_iconst dX10_eats_14 (by decide) ?_
    exact WQ_zreturn dX10_eats_15 rfl ⟨by decide, by decide⟩ h
  · replace h := h.2 c3
    refine WP_iconst dX10_eats_8 (by decide) ?_
    exact WQ_zreturn dX10_eats_9 rfl ⟨by decide, by decide⟩ h

theorem s_X10_fails_0 {d : Nat} {sc : SC} {Q : Mem → Prop} {μ : Mem} {a1 : Int}
    (h : (μ 183 11 = 0 → (μ 183 9 ≠ 27 → ∀ μ3, μ3 = mup μ 183 11 a1 → ∀ μ4, μ4 = mup μ3 183 12 (μ3 183 6) → Q μ4) ∧ (μ 183 9 = 27 → ∀ μ5, μ5 = mup μ 183 11 1 → ∀ μ6, μ6 = mup μ5 183 12 (μ5 183 6) → Q μ6)) ∧ (μ 183 11 ≠ 0 → Q μ)) :
    WQ mX10_fails d sc (ZV sc Q) 0 [(2, 183), (0, a1)] [] μ := by
  refine WP_aload_n dX10_fails_0 rfl rfl ⟨Nat.le_of_ble_eq_true rfl, Nat.le_of_ble_eq_true rfl⟩ ?_
  refine WP_getfield (ci := 10) (j := 11) (n := 49) (t := 0) (x := μ 183 11) dX10_fails_1 f_X10_154 k_183 rfl rfl ?_
  refine WQ_ifeq (tgt := 8) dX10_fails_4 (by decide) (fun c1 => ?_) (fun c1 => ?_)
  · replace h := h.1 c1
    refine WP_aload_n dX10_fails_8 rfl rfl ⟨Nat.le_of_ble_eq_true rfl, Nat.le_of_ble_eq_true rfl⟩ ?_
    refine WP_aload_n dX10_fails_9 rfl rfl ⟨Nat.le_of_ble_eq_true rfl, Nat.le_of_ble_eq_true rfl⟩ ?_
    refine WP_getfield (ci := 10) (j := 9) (n := 49) (t := 0) (x := μ 183 9) dX10_fails_10 f_X10_136 k_183 rfl rfl ?_
    refine WP_bipush dX10_fails_13 (by decide +kernel) (by decide) ?_
    refine WQ_icmp_ne (tgt := 22) dX10_fails_15 (by decide) (fun c2 => ?_) (fun c2 => ?_)
    · replace h := h.1 c2
      refine WP_iload_n dX10_fails_22 rfl rfl ?_
      refine WQ_put (ci := 10) (j := 11) (n := 49) dX10_fails_23 f_X10_154 k_183 rfl (fun μ3 eμ3 => ?_)
      replace h := h μ3 eμ3
      refine WP_aload_n dX10_fails_26 rfl rfl ⟨Nat.le_of_ble_eq_true rfl, Nat.le_of_ble_eq_true rfl⟩ ?_
      refine WP_aload_n dX10_fails_27 rfl rfl ⟨Nat.le_of_ble_eq_true rfl, Nat.le_of_ble_eq_true rfl⟩ ?_
      refine WP_getfield (ci := 10) (j := 6) (n := 49) (t := 0) (x := μ3 183 6) dX10_fails_28 f_X10_126 k_183 rfl rfl ?_
      refine WQ_put (ci := 10) (j := 12) (n := 49) dX10_fails_31 f_X10_157 k_183 rfl (fun μ4 eμ4 => ?_)
      replace h := h μ4 eμ4
      exact WQ_return dX10_fails_34 rfl h
    · replace h := h.2 c2
      refine WP_iconst dX10_fails_18 (by decide) ?_
      refine WP_goto (tgt := 23) dX10_fails_19 (by decide) ?_
      refine WQ_put (ci := 10) (j := 11) (n := 49) dX10_fails_23 f_X10_154 k_183 rfl (fun μ5 eμ5 => ?_)
      replace h := h μ5 eμ5
      refine WP_aload_n dX10_fails_26 rfl rfl ⟨Nat.le_of_ble_eq_true rfl, Nat.le_of_ble_eq_true rfl⟩ ?_
      refine WP_aload_n dX10_fails_27 rfl rfl ⟨Nat.le_of_ble_eq_true rfl, Nat.le_of_ble_eq_true rfl⟩ ?_
      refine WP_getfield (ci := 10) (j := 6) (n := 49) (t := 0) (x := μ5 183 6) dX10_fails_28 f_X10_126 k_183 rfl rfl ?_
      refine WQ_put (ci := 10) (j := 12) (n := 49) dX10_fails_31 f_X10_157 k_183 rfl (fun μ6 eμ6 => ?_)
      replace h := h μ6 eμ6
      exact WQ_return dX10_fails_34 rfl h
  · replace h := h.2 c1
    exact WQ_return dX10_fails_7 rfl h

theorem s_X10_famous_0 {d : Nat} {sc : SC} {Q : Int → Mem → Prop} {μ : Mem}
    (h : ∀ μ1, μ1 = mup μ 183 0 0 → (μ1 184 3 ≠ 0 → CAv mX10_laysChances d sc [(2, 183)] μ1 (fun μ5 => WQ mX10_famous d sc (ZI sc Q) 24 [(2, 183), (0, 0), (0, 1)] [] μ5)) ∧ (μ1 184 3 = 0 → Q (-1) μ1)) :
    WQ mX10_famous d sc (ZI sc Q) 0 [(2, 183), (9, 0), (9, 0)] [] μ := by
  refine WP_aload_n dX10_famous_0 rfl rfl ⟨Nat.le_of_ble_eq_true rfl, Nat.le_of_ble_eq_true rfl⟩ ?_
  refine WP_iconst dX10_famous_1 (by decide) ?_
  refine WQ_put (ci := 10) (j := 0) (n := 49) dX10_famous_2 f_X10_1 k_183 rfl (fun μ1 eμ1 => ?_)
  replace h := h μ1 eμ1
  refine WP_aload_n dX10_famous_5 rfl rfl ⟨Nat.le_of_ble_eq_true rfl, Nat.le_of_ble_eq_true rfl⟩ ?_
  refine WP_getfield (ci := 10) (j := 1) (n := 49) (t := 2) (x := 184) dX10_famous_6 f_X10_13 k_183 rfl rfl ?_
  refine WP_iconst dX10_famous_9 (by decide) ?_
  refine WP_iaload (n := 4119) dX10_famous_10 k_184 ⟨by decide, by decide⟩ ?_
  refine WQ_ifne (tgt := 16) dX10_famous_11 (by decide) (fun c3 => ?_) (fun c3 => ?_)
  · replace h := h.1 c3
    refine WP_aload_n dX10_famous_16 rfl rfl ⟨Nat.le_of_ble_eq_true rfl, Nat.le_of_ble_eq_true rfl⟩ ?_
    refine WQ_invVv (v := (2, 183)) (as := []) dX10_famous_17 l_X10_462 mw_X10_laysChances mi_X10_laysChances ms_X10_laysChances mo_X10_laysChances (rcv (ci := 10) (n := 49) (r := (RX10, TX10, 49)) k_183 rfl rfl) (Nat.le_of_ble_eq_true rfl) h rfl (fun μ5 h => ?_)
    refine WP_iconst dX10_famous_20 (by decide) ?_
    refine WP_istore_n (L' := [(2, 183), (0, 0), (9, 0)]) dX10_famous_21 rfl (by decide) rfl ?_
    refine WP_iconst dX10_famous_22 (by decide) ?_
    refine WP_istore_n (L' := [(2, 183), (0, 0), (0, 1)]) dX10_famous_23 rfl (by decide) rfl ?_
    exact h
  · replace h := h.2 c3
    refine WP_iconst dX10_famous_14 (by decide) ?_
    exact WQ_ireturn dX10_famous_15 rfl h

theorem s_X10_famous_24 {d : Nat} {sc : SC} {Q : Int → Mem → Prop} {μ : Mem} {x1 x2 : Int}
    (h : (μ 184 3 ≤ x2 → Q x1 μ) ∧ (x2 < μ 184 3 → (0 ≤ x2 ∧ x2 < 6) ∧ (0 ≤ x1 ∧ x1 < 6) ∧ (μ 208 x2 ≤ μ 208 x1 → (-2147483648 ≤ x2 + 1 ∧ x2 + 1 < 2147483648) ∧ ∀ v7 : Int, v7 = x2 + 1 → WQ mX10_famous d sc (ZI sc Q) 24 [(2, 183), (0, x1), (0, v7)] [] μ) ∧ (μ 208 x1 < μ 208 x2 → (-2147483648 ≤ x2 + 1 ∧ x2 + 1 < 2147483648) ∧ ∀ v9 : Int, v9 = x2 + 1 → WQ mX10_famous d sc (ZI sc Q) 24 [(2, 183), (0, x2), (0, v9)] [] μ))) :
    WQ mX10_famous d sc (ZI sc Q) 24 [(2, 183), (0, x1), (0, x2)] [] μ := by
  refine WP_iload_n dX10_famous_24 rfl rfl ?_
  refine WP_aload_n dX10_famous_25 rfl rfl ⟨Nat.le_of_ble_eq_true rfl, Nat.le_of_ble_eq_true rfl⟩ ?_
  refine WP_getfield (ci := 10) (j := 1) (n := 49) (t := 2) (x := 184) dX10_famous_26 f_X10_13 k_183 rfl rfl ?_
  refine WP_iconst dX10_famous_29 (by decide) ?_
  refine WP_iaload (n := 4119) dX10_famous_30 k_184 ⟨by decide, by decide⟩ ?_
  refine WQ_icmp_ge (tgt := 58) dX10_famous_31 (by decide) (fun c2 => ?_) (fun c2 => ?_)
  · replace h := h.1 c2
    refine WP_iload_n dX10_famous_58 rfl rfl ?_
    exact WQ_ireturn dX10_famous_59 rfl h
  · replace h := h.2 c2
    refine WP_aload_n dX10_famous_34 rfl rfl ⟨Nat.le_of_ble_eq_true rfl, Nat.le_of_ble_eq_true rfl⟩ ?_
    refine WP_getfield (ci := 10) (j := 45) (n := 49) (t := 2) (x := 208) dX10_famous_35 f_X10_92 k_183 rfl rfl ?_
    refine WP_iload_n dX10_famous_38 rfl rfl ?_
    obtain ⟨g3, h⟩ := h
    refine WP_laload (n := 6) dX10_famous_39 k_208 g3 ?_
    refine WP_aload_n dX10_famous_40 rfl rfl ⟨Nat.le_of_ble_eq_true rfl, Nat.le_of_ble_eq_true rfl⟩ ?_
    refine WP_getfield (ci := 10) (j := 45) (n := 49) (t := 2) (x := 208) dX10_famous_41 f_X10_92 k_183 rfl rfl ?_
    refine WP_iload_n dX10_famous_44 rfl rfl ?_
    obtain ⟨g4, h⟩ := h
    refine WP_laload (n := 6) dX10_famous_45 k_208 g4 ?_
    refine WQ_lifle (tgt := 52) dX10_famous_46 dX10_famous_47 (by decide) (fun c5 => ?_) (fun c5 => ?_)
    · replace h := h.1 c5
      obtain ⟨g6, h⟩ := h
      refine WQ_iinc dX10_famous_52 rfl (by decide) g6 (fun v7 e7 => ?_)
      refine WP_same (L' := [(2, 183), (0, x1), (0, v7)]) rfl ?_
      replace h := h v7 e7
      refine WP_goto (tgt := 24) dX10_famous_55 (by decide) ?_
      exact h
    · replace h := h.2 c5
      refine WP_iload_n dX10_famous_50 rfl rfl ?_
      refine WP_istore_n (L' := [(2, 183), (0, x2), (0, x2)]) dX10_famous_51 rfl (by decide) rfl ?_
      obtain ⟨g8, h⟩ := h
      refine WQ_iinc dX10_famous_52 rfl (by decide) g8 (fun v9 e9 => ?_)
      refine WP_same (L' := [(2, 183), (0, x2), (0, v9)]) rfl ?_
      replace h := h v9 e9
      refine WP_goto (tgt := 24) dX10_famous_55 (by decide) ?_
      exact h

theorem s_X10_farOf_0 {d : Nat} {sc : SC} {Q : Int → Mem → Prop} {μ : Mem} {a1 a2 : Int}
    (h : (-2147483648 ≤ 64 + a1 ∧ 64 + a1 < 2147483648) ∧ (0 ≤ 64 + a1 ∧ 64 + a1 < 4119) ∧ (∀ v3 : Int, v3 = μ 184 (64 + a1) → (-2147483648 ≤ 64 + a2 ∧ 64 + a2 < 2147483648) ∧ (0 ≤ 64 + a2 ∧ 64 + a2 < 4119) ∧ (∀ v6 : Int, v6 = μ 184 (64 + a2) → (0 ≤ v3 ∧ 0 < μ 184 2) ∧ (0 ≤ v6 ∧ 0 < μ 184 2) ∧ CAi mX10_apart d sc [(0, v3 / (μ 184 2)), (0, v6 / (μ 184 2))] μ (fun r11 μ12 => (0 ≤ v3 ∧ 0 < μ12 184 2) ∧ (0 ≤ v6 ∧ 0 < μ12 184 2) ∧ CAi mX10_apart d sc [(0, v3 % (μ12 184 2)), (0, v6 % (μ12 184 2))] μ12 (fun r17 μ18 => (-2147483648 ≤ r11 + r17 ∧ r11 + r17 < 2147483648) ∧ Q (r11 + r17) μ18))))) :
    WQ mX10_farOf d sc (ZI sc Q) 0 [(2, 183), (0, a1), (0, a2), (9, 0), (9, 0)] [] μ := by
  refine WP_aload_n dX10_farOf_0 rfl rfl ⟨Nat.le_of_ble_eq_true rfl, Nat.le_of_ble_eq_true rfl⟩ ?_
  refine WP_getfield (ci := 10) (j := 1) (n := 49) (t := 2) (x := 184) dX10_farOf_1 f_X10_13 k_183 rfl rfl ?_
  refine WP_bipush dX10_farOf_4 (by decide +kernel) (by decide) ?_
  refine WP_iload_n dX10_farOf_6 rfl rfl ?_
  obtain ⟨g1, h⟩ := h
  refine WP_iadd dX10_farOf_7 g1 ?_
  obtain ⟨g2, h⟩ := h
  refine WP_iaload (n := 4119) dX10_farOf_8 k_184 g2 ?_
  refine WQ_nm0 (fun v3 e3 => ?_)
  replace h := h v3 e3
  refine WP_istore_n (L' := [(2, 183), (0, a1), (0, a2), (0, v3), (9, 0)]) dX10_farOf_9 rfl (by decide) rfl ?_
  refine WP_aload_n dX10_farOf_10 rfl rfl ⟨Nat.le_of_ble_eq_true rfl, Nat.le_of_ble_eq_true rfl⟩ ?_
  refine WP_getfield (ci := 10) (j := 1) (n := 49) (t := 2) (x := 184) dX10_farOf_11 f_X10_13 k_183 rfl rfl ?_
  refine WP_bipush dX10_farOf_14 (by decide +kernel) (by decide) ?_
  refine WP_iload_n dX10_farOf_16 rfl rfl ?_
  obtain ⟨g4, h⟩ := h
  refine WP_iadd dX10_farOf_17 g4 ?_
  obtain ⟨g5, h⟩ := h
  refine WP_iaload (n := 4119) dX10_farOf_18 k_184 g5 ?_
  refine WQ_nm0 (fun v6 e6 => ?_)
  replace h := h v6 e6
  refine WP_istore (L' := [(2, 183), (0, a1), (0, a2), (0, v3), (0, v6)]) dX10_farOf_19 (by decide) rfl ?_
  refine WP_iload_n dX10_farOf_21 rfl rfl ?_
  refine WP_aload_n dX10_farOf_22 rfl rfl ⟨Nat.le_of_ble_eq_true rfl, Nat.le_of_ble_eq_true rfl⟩ ?_
  refine WP_getfield (ci := 10) (j := 1) (n := 49) (t := 2) (x := 184) dX10_farOf_23 f_X10_13 k_183 rfl rfl ?_
  refine WP_iconst dX10_farOf_26 (by decide) ?_
  refine WP_iaload (n := 4119) dX10_farOf_27 k_184 ⟨by decide, by decide⟩ ?_
  obtain ⟨g8, h⟩ := h
  refine WP_idiv dX10_farOf_28 g8 ?_
  refine WP_iload dX10_farOf_29 rfl ?_
  refine WP_aload_n dX10_farOf_31 rfl rfl ⟨Nat.le_of_ble_eq_true rfl, Nat.le_of_ble_eq_true rfl⟩ ?_
  refine WP_getfield (ci := 10) (j := 1) (n := 49) (t := 2) (x := 184) dX10_farOf_32 f_X10_13 k_183 rfl rfl ?_
  refine WP_iconst dX10_farOf_35 (by decide) ?_
  refine WP_iaload (n := 4119) dX10_farOf_36 k_184 ⟨by decide, by decide⟩ ?_
  obtain ⟨g10, h⟩ := h
  refine WP_idiv dX10_farOf_37 g10 ?_
  refine WQ_invSi (as := [(0, v3 / (μ 184 2)), (0, v6 / (μ 184 2))]) dX10_farOf_38 l_X10_239 mw_X10_apart mt_X10_apart mo_X10_apart (Nat.le_of_ble_eq_true rfl) h rfl (fun r11 μ12 h => ?_)
  refine WP_iload_n dX10_farOf_41 rfl rfl ?_
  refine WP_aload_n dX10_farOf_42 rfl rfl ⟨Nat.le_of_ble_eq_true rfl, Nat.le_of_ble_eq_true rfl⟩ ?_
  refine WP_getfield (ci := 10) (j := 1) (n := 49) (t := 2) (x := 184) dX10_farOf_43 f_X10_13 k_183 rfl rfl ?_
  refine WP_iconst dX10_farOf_46 (by decide) ?_
  refine WP_iaload (n := 4119) dX10_farOf_47 k_184 ⟨by decide, by decide⟩ ?_
  obtain ⟨g14, h⟩ := h
  refine WP_irem dX10_farOf_48 g14 ?_
  refine WP_iload dX10_farOf_49 rfl ?_
  refine WP_aload_n dX10_farOf_51 rfl rfl ⟨Nat.le_of_ble_eq_true rfl, Nat.le_of_ble_eq_true rfl⟩ ?_
  refine WP_getfield (ci := 10) (j := 1) (n := 49) (t := 2) (x := 184) dX10_farOf_52 f_X10_13 k_183 rfl rfl ?_
  refine WP_iconst dX10_farOf_55 (by decide) ?_
  refine WP_iaload (n := 4119) dX10_farOf_56 k_184 ⟨by decide, by decide⟩ ?_
  obtain ⟨g16, h⟩ := h
  refine WP_irem dX10_farOf_57 g16 ?_
  refine WQ_invSi (as := [(0, v3 % (μ12 184 2)), (0, v6 % (μ12 184 2))]) dX10_farOf_58 l_X10_239 mw_X10_apart mt_X10_apart mo_X10_apart (Nat.le_of_ble_eq_true rfl) h rfl (fun r17 μ18 h => ?_)
  obtain ⟨g19, h⟩ := h
  refine WP_iadd dX10_farOf_61 g19 ?_
  exact WQ_ireturn dX10_farOf_62 rfl h

theorem s_X10_fault_0 {d : Nat} {sc : SC} {Q : Int → Mem → Prop} {μ : Mem} {a1 : Int}
    (h : ∀ μ1, μ1 = mup μ 183 0 0 → (a1 ≠ 0 → (a1 ≠ 1 → Q (-1) μ1) ∧ (a1 = 1 → Q (μ1 183 14) μ1)) ∧ (a1 = 0 → Q (μ1 183 13) μ1)) :
    WQ mX10_fault d sc (ZI sc Q) 0 [(2, 183), (0, a1)] [] μ := by
  refine WP_aload_n dX10_fault_0 rfl rfl ⟨Nat.le_of_ble_eq_true rfl, Nat.le_of_ble_eq_true rfl⟩ ?_
  refine WP_iconst dX10_fault_1 (by decide) ?_
  refine WQ_put (ci := 10) (j := 0) (n := 49) dX10_fault_2 f_X10_1 k_183 rfl (fun μ1 eμ1 => ?_)
  replace h := h μ1 eμ1
  refine WP_iload_n dX10_fault_5 rfl rfl ?_
  refine WQ_ifne (tgt := 16) dX10_fault_6 (by decide) (fun c2 => ?_) (fun c2 => ?_)
  · replace h := h.1 c2
    refine WP_iload_n dX10_fault_16 rfl rfl ?_
    refine WP_iconst dX10_fault_17 (by decide) ?_
    refine WQ_icmp_ne (tgt := 28) dX10_fault_18 (by decide) (fun c3 => ?_) (fun c3 => ?_)
    · replace h := h.1 c3
      refine WP_iconst dX10_fault_28 (by decide) ?_
      exact WQ_ireturn dX10_fault_29 rfl h
    · replace h := h.2 c3
      refine WP_aload_n dX10_fault_21 rfl rfl ⟨Nat.le_of_ble_eq_true rfl, Nat.le_of_ble_eq_true rfl⟩ ?_
      refine WP_getfield (ci := 10) (j := 14) (n := 49) (t := 0) (x := μ1 183 14) dX10_fault_22 f_X10_27 k_183 rfl rfl ?_
      refine WP_goto (tgt := 29) dX10_fault_25 (by decide) ?_
      exact WQ_ireturn dX10_fault_29 rfl h
  · replace h := h.2 c2
    refine WP_aload_n dX10_fault_9 rfl rfl ⟨Nat.le_of_ble_eq_true rfl, Nat.le_of_ble_eq_true rfl⟩ ?_
    refine WP_getfield (ci := 10) (j := 13) (n := 49) (t := 0) (x := μ1 183 13) dX10_fault_10 f_X10_232 k_183 rfl rfl ?_
    refine WP_goto (tgt := 29) dX10_fault_13 (by decide) ?_
    exact WQ_ireturn dX10_fault_29 rfl h

theorem s_X10_feed_0 {d : Nat} {sc : SC} {Q : Int → Mem → Prop} {μ : Mem} {a1 a2 a3 a4 a5 : Int}
    (h : ∀ μ1, μ1 = mup μ 183 0 0 → (-2147483648 ≤ (μ1 183 5) + 20 ∧ (μ1 183 5) + 20 < 2147483648) ∧ ((μ1 183 5) + 20 ≤ 900 → WQ mX10_feed d sc (ZI sc Q) 24 [(2, 183), (0, a1), (0, a2), (0, a3), (0, a4), (0, a5), (0, 0), (9, 0)] [] μ1) ∧ (900 < (μ1 183 5) + 20 → Q (-5) μ1)) :
    WQ mX10_feed d sc (ZI sc Q) 0 [(2, 183), (0, a1), (0, a2), (0, a3), (0, a4), (0, a5), (9, 0), (9, 0)] [] μ := by
  refine WP_aload_n dX10_feed_0 rfl rfl ⟨Nat.le_of_ble_eq_true rfl, Nat.le_of_ble_eq_true rfl⟩ ?_
  refine WP_iconst dX10_feed_1 (by decide) ?_
  refine WQ_put (ci := 10) (j := 0) (n := 49) dX10_feed_2 f_X10_1 k_183 rfl (fun μ1 eμ1 => ?_)
  replace h := h μ1 eμ1
  refine WP_aload_n dX10_feed_5 rfl rfl ⟨Nat.le_of_ble_eq_true rfl, Nat.le_of_ble_eq_true rfl⟩ ?_
  refine WP_getfield (ci := 10) (j := 5) (n := 49) (t := 0) (x := μ1 183 5) dX10_feed_6 f_X10_108 k_183 rfl rfl ?_
  refine WP_bipush dX10_feed_9 (by decide +kernel) (by decide) ?_
  obtain ⟨g2, h⟩ := h
  refine WP_iadd dX10_feed_11 g2 ?_
  refine WP_sipush dX10_feed_12 (by decide +kernel) (by decide) ?_
  refine WQ_icmp_le (tgt := 21) dX10_feed_15 (by decide) (fun c3 => ?_) (fun c3 => ?_)
  · replace h := h.1 c3
    refine WP_iconst dX10_feed_21 (by decide) ?_
    refine WP_istore (L' := [(2, 183), (0, a1), (0, a2), (0, a3), (0, a4), (0, a5), (0, 0), (9, 0)]) dX10_feed_22 (by decide) rfl ?_
    exact h
  · replace h := h.2 c3
    refine WP_bipush dX10_feed_18 (by decide +kernel) (by decide) ?_
    exact WQ_ireturn dX10_feed_20 rfl h

theorem s_X10_feed_24 {d : Nat} {sc : SC} {Q : Int → Mem → Prop} {μ : Mem} {x1 x2 x3 x4 x5 x6 : Int}
    (h : (20 ≤ x6 → Q (μ 183 5) μ) ∧ (x6 < 20 → (4 ≤ x6 → (8 ≤ x6 → (12 ≤ x6 → (16 ≤ x6 → WQ mX10_feed d sc (ZI sc Q) 77 [(2, 183), (0, x1), (0, x2), (0, x3), (0, x4), (0, x5), (0, x6), (9, 0)] [(0, x5)] μ) ∧ (x6 < 16 → WQ mX10_feed d sc (ZI sc Q) 77 [(2, 183), (0, x1), (0, x2), (0, x3), (0, x4), (0, x5), (0, x6), (9, 0)] [(0, x4)] μ)) ∧ (x6 < 12 → WQ mX10_feed d sc (ZI sc Q) 77 [(2, 183), (0, x1), (0, x2), (0, x3), (0, x4), (0, x5), (0, x6), (9, 0)] [(0, x3)] μ)) ∧ (x6 < 8 → WQ mX10_feed d sc (ZI sc Q) 77 [(2, 183), (0, x1), (0, x2), (0, x3), (0, x4), (0, x5), (0, x6), (9, 0)] [(0, x2)] μ)) ∧ (x6 < 4 → WQ mX10_feed d sc (ZI sc Q) 77 [(2, 183), (0, x1), (0, x2), (0, x3), (0, x4), (0, x5), (0, x6), (9, 0)] [(0, x1)] μ))) :
    WQ mX10_feed d sc (ZI sc Q) 24 [(2, 183), (0, x1), (0, x2), (0, x3), (0, x4), (0, x5), (0, x6), (9, 0)] [] μ := by
  refine WP_iload dX10_feed_24 rfl ?_
  refine WP_bipush dX10_feed_26 (by decide +kernel) (by decide) ?_
  refine WQ_icmp_ge (tgt := 121) dX10_feed_28 (by decide) (fun c1 => ?_) (fun c1 => ?_)
  · replace h := h.1 c1
    refine WP_aload_n dX10_feed_121 rfl rfl ⟨Nat.le_of_ble_eq_true rfl, Nat.le_of_ble_eq_true rfl⟩ ?_
    refine WP_getfield (ci := 10) (j := 5) (n := 49) (t := 0) (x := μ 183 5) dX10_feed_122 f_X10_108 k_183 rfl rfl ?_
    exact WQ_ireturn dX10_feed_125 rfl h
  · replace h := h.2 c1
    refine WP_iload dX10_feed_31 rfl ?_
    refine WP_iconst dX10_feed_33 (by decide) ?_
    refine WQ_icmp_ge (tgt := 41) dX10_feed_34 (by decide) (fun c2 => ?_) (fun c2 => ?_)
    · replace h := h.1 c2
      refine WP_iload dX10_feed_41 rfl ?_
      refine WP_bipush dX10_feed_43 (by decide +kernel) (by decide) ?_
      refine WQ_icmp_ge (tgt := 52) dX10_feed_45 (by decide) (fun c3 => ?_) (fun c3 => ?_)
      · replace h := h.1 c3
        refine WP_iload dX10_feed_52 rfl ?_
        refine WP_bipush dX10_feed_54 (by decide +kernel) (by decide) ?_
        refine WQ_icmp_ge (tgt := 63) dX10_feed_56 (by decide) (fun c4 => ?_) (fun c4 => ?_)
        · replace h := h.1 c4
          refine WP_iload dX10_feed_63 rfl ?_
          refine WP_bipush dX10_feed_65 (by decide +kernel) (by decide) ?_
          refine WQ_icmp_ge (tgt := 75) dX10_feed_67 (by decide) (fun c5 => ?_) (fun c5 => ?_)
          · replace h := h.1 c5
            refine WP_iload dX10_feed_75 rfl ?_
            exact h
          · replace h := h.2 c5
            refine WP_iload dX10_feed_70 rfl ?_
            refine WP_goto (tgt := 77) dX10_feed_72 (by decide) ?_
            exact h
        · replace h := h.2 c4
          refine WP_iload_n dX10_feed_59 rfl rfl ?_
          refine WP_goto (tgt := 77) dX10_feed_60 (by decide) ?_
          exact h
      · replace h := h.2 c3
        refine WP_iload_n dX10_feed_48 rfl rfl ?_
        refine WP_goto (tgt := 77) dX10_feed_49 (by decide) ?_
        exact h
    · replace h := h.2 c2
      refine WP_iload_n dX10_feed_37 rfl rfl ?_
      refine WP_goto (tgt := 77) dX10_feed_38 (by decide) ?_
      exact h

theorem s_X10_feed_77 {d : Nat} {sc : SC} {Q : Int → Mem → Prop} {μ : Mem} {x1 x2 x3 x4 x5 x6 y0 : Int}
    (h : 0 ≤ x6 ∧ (-2147483648 ≤ 8 * (x6 % 4) ∧ 8 * (x6 % 4) < 2147483648) ∧ (-2147483648 ≤ 24 - (8 * (x6 % 4)) ∧ 24 - (8 * (x6 % 4)) < 2147483648) ∧ (0 ≤ μ 183 5 ∧ μ 183 5 < 900) ∧ (∀ μ5, μ5 = mup μ 186 (μ 183 5) (iAnd (iShr y0 (24 - (8 * (x6 % 4)))) 255) → (-2147483648 ≤ (μ5 183 5) + 1 ∧ (μ5 183 5) + 1 < 2147483648) ∧ (∀ μ7, μ7 = mup μ5 183 5 ((μ5 183 5) + 1) → (-2147483648 ≤ x6 + 1 ∧ x6 + 1 < 2147483648) ∧ ∀ v9 : Int, v9 = x6 + 1 → WQ mX10_feed d sc (ZI sc Q) 24 [(2, 183), (0, x1), (0, x2), (0, x3), (0, x4), (0, x5), (0, v9), (9, 0)] [] μ7))) :
    WQ mX10_feed d sc (ZI sc Q) 77 [(2, 183), (0, x1), (0, x2), (0, x3), (0, x4), (0, x5), (0, x6), (9, 0)] [(0, y0)] μ := by
  refine WP_istore (L' := [(2, 183), (0, x1), (0, x2), (0, x3), (0, x4), (0, x5), (0, x6), (0, y0)]) dX10_feed_77 (by decide) rfl ?_
  refine WP_aload_n dX10_feed_79 rfl rfl ⟨Nat.le_of_ble_eq_true rfl, Nat.le_of_ble_eq_true rfl⟩ ?_
  refine WP_getfield (ci := 10) (j := 3) (n := 49) (t := 2) (x := 186) dX10_feed_80 f_X10_21 k_183 rfl rfl ?_
  refine WP_aload_n dX10_feed_83 rfl rfl ⟨Nat.le_of_ble_eq_true rfl, Nat.le_of_ble_eq_true rfl⟩ ?_
  refine WP_getfield (ci := 10) (j := 5) (n := 49) (t := 0) (x := μ 183 5) dX10_feed_84 f_X10_108 k_183 rfl rfl ?_
  refine WP_iload dX10_feed_87 rfl ?_
  refine WP_bipush dX10_feed_89 (by decide +kernel) (by decide) ?_
  refine WP_bipush dX10_feed_91 (by decide +kernel) (by decide) ?_
  refine WP_iload dX10_feed_93 rfl ?_
  refine WP_iconst dX10_feed_95 (by decide) ?_
  obtain ⟨g1, h⟩ := h
  refine WP_irem dX10_feed_96 ⟨g1, by decide⟩ ?_
  obtain ⟨g2, h⟩ := h
  refine WP_imul dX10_feed_97 g2 ?_
  obtain ⟨g3, h⟩ := h
  refine WP_isub dX10_feed_98 g3 ?_
  refine WP_ishr dX10_feed_99 ?_
  refine WP_sipush dX10_feed_100 (by decide +kernel) (by decide) ?_
  refine WP_iand dX10_feed_103 ?_
  obtain ⟨g4, h⟩ := h
  refine WQ_iast (n := 900) dX10_feed_104 k_186 g4 (fun μ5 eμ5 => ?_)
  replace h := h μ5 eμ5
  refine WP_aload_n dX10_feed_105 rfl rfl ⟨Nat.le_of_ble_eq_true rfl, Nat.le_of_ble_eq_true rfl⟩ ?_
  refine WP_dup dX10_feed_106 (by simp) ?_
  refine WP_getfield (ci := 10) (j := 5) (n := 49) (t := 0) (x := μ5 183 5) dX10_feed_107 f_X10_108 k_183 rfl rfl ?_
  refine WP_iconst dX10_feed_110 (by decide) ?_
  obtain ⟨g6, h⟩ := h
  refine WP_iadd dX10_feed_111 g6 ?_
  refine WQ_put (ci := 10) (j := 5) (n := 49) dX10_feed_112 f_X10_108 k_183 rfl (fun μ7 eμ7 => ?_)
  replace h := h μ7 eμ7
  obtain ⟨g8, h⟩ := h
  refine WQ_iinc dX10_feed_115 rfl (by decide) g8 (fun v9 e9 => ?_)
  refine WP_same (L' := [(2, 183), (0, x1), (0, x2), (0, x3), (0, x4), (0, x5), (0, v9), (0, y0)]) rfl ?_
  replace h := h v9 e9
  refine WP_goto (tgt := 24) dX10_feed_118 (by decide) ?_
  refine WP_lforget (L' := [(2, 183), (0, x1), (0, x2), (0, x3), (0, x4), (0, x5), (0, v9), (9, 0)]) rfl (fun i hi => ?_) h
  match i, hi with
  | 0, _ => exact Or.inl rfl
  | 1, _ => exact Or.inl rfl
  | 2, _ => exact Or.inl rfl
  | 3, _ => exact Or.inl rfl
  | 4, _ => exact Or.inl rfl
  | 5, _ => exact Or.inl rfl
  | 6, _ => exact Or.inl rfl
  | 7, _ => exact Or.inr rfl
  | i + 8, hi => exact absurd hi (by simp only [List.length_cons, List.length_nil]; omega)

theorem s_X10_gapOf_0 {d : Nat} {sc : SC} {Q : Int → Mem → Prop} {μ : Mem} {a1 a2 : Int}
    (h : (μ 184 4 ≠ 1 → CAi mX10_farOf d sc [(2, 183), (0, a1), (0, a2)] μ (fun r3 μ4 => (-2147483648 ≤ r3 + 1 ∧ r3 + 1 < 2147483648) ∧ CAi mX10_kept d sc [(0, r3 + 1), (0, 1), (0, 20)] μ4 (fun r6 μ7 => Q r6 μ7))) ∧ (μ 184 4 = 1 → CAi mX10_reckons d sc [(2, 183), (0, 0), (0, a1), (0, a2)] μ (fun r8 μ9 => CAi mX10_kept d sc [(0, r8), (0, 1), (0, 20)] μ9 (fun r10 μ11 => Q r10 μ11)))) :
    WQ mX10_gapOf d sc (ZI sc Q) 0 [(2, 183), (0, a1), (0, a2)] [] μ := by
  refine WP_aload_n dX10_gapOf_0 rfl rfl ⟨Nat.le_of_ble_eq_true rfl, Nat.le_of_ble_eq_true rfl⟩ ?_
  refine WP_getfield (ci := 10) (j := 1) (n := 49) (t := 2) (x := 184) dX10_gapOf_1 f_X10_13 k_183 rfl rfl ?_
  refine WP_iconst dX10_gapOf_4 (by decide) ?_
  refine WP_iaload (n := 4119) dX10_gapOf_5 k_184 ⟨by decide, by decide⟩ ?_
  refine WP_iconst dX10_gapOf_6 (by decide) ?_
  refine WQ_icmp_ne (tgt := 20) dX10_gapOf_7 (by decide) (fun c2 => ?_) (fun c2 => ?_)
  · replace h := h.1 c2
    refine WP_aload_n dX10_gapOf_20 rfl rfl ⟨Nat.le_of_ble_eq_true rfl, Nat.le_of_ble_eq_true rfl⟩ ?_
    refine WP_iload_n dX10_gapOf_21 rfl rfl ?_
    refine WP_iload_n dX10_gapOf_22 rfl rfl ?_
    refine WQ_invVi (v := (2, 183)) (as := [(0, a1), (0, a2)]) dX10_gapOf_23 l_X10_246 mw_X10_farOf mi_X10_farOf ms_X10_farOf mo_X10_farOf (rcv (ci := 10) (n := 49) (r := (RX10, TX10, 49)) k_183 rfl rfl) (Nat.le_of_ble_eq_true rfl) h rfl (fun r3 μ4 h => ?_)
    refine WP_iconst dX10_gapOf_26 (by decide) ?_
    obtain ⟨g5, h⟩ := h
    refine WP_iadd dX10_gapOf_27 g5 ?_
    refine WP_iconst dX10_gapOf_28 (by decide) ?_
    refine WP_bipush dX10_gapOf_29 (by decide +kernel) (by decide) ?_
    refine WQ_invSi (as := [(0, r3 + 1), (0, 1), (0, 20)]) dX10_gapOf_31 l_X10_256 mw_X10_kept mt_X10_kept mo_X10_kept (Nat.le_of_ble_eq_true rfl) h rfl (fun r6 μ7 h => ?_)
    exact WQ_ireturn dX10_gapOf_34 rfl h
  · replace h := h.2 c2
    refine WP_aload_n dX10_gapOf_10 rfl rfl ⟨Nat.le_of_ble_eq_true rfl, Nat.le_of_ble_eq_true rfl⟩ ?_
    refine WP_iconst dX10_gapOf_11 (by decide) ?_
    refine WP_iload_n dX10_gapOf_12 rfl rfl ?_
    refine WP_iload_n dX10_gapOf_13 rfl rfl ?_
    refine WQ_invVi (v := (2, 183)) (as := [(0, 0), (0, a1), (0, a2)]) dX10_gapOf_14 l_X10_253 mw_X10_reckons mi_X10_reckons ms_X10_reckons mo_X10_reckons (rcv (ci := 10) (n := 49) (r := (RX10, TX10, 49)) k_183 rfl rfl) (Nat.le_of_ble_eq_true rfl) h rfl (fun r8 μ9 h => ?_)
    refine WP_goto (tgt := 28) dX10_gapOf_17 (by decide) ?_
    refine WP_iconst dX10_gapOf_28 (by decide) ?_
    refine WP_bipush dX10_gapOf_29 (by decide +kernel) (by decide) ?_
    refine WQ_invSi (as := [(0, r8), (0, 1), (0, 20)]) dX10_gapOf_31 l_X10_256 mw_X10_kept mt_X10_kept mo_X10_kept (Nat.le_of_ble_eq_true rfl) h rfl (fun r10 μ11 h => ?_)
    exact WQ_ireturn dX10_gapOf_34 rfl h

theorem s_X10_goesDay_0 {d : Nat} {sc : SC} {Q : Mem → Prop} {μ : Mem}
    (h : ∀ μ1, μ1 = mup μ 183 35 0 → ∀ μ2, μ2 = mup μ1 183 36 0 → WQ mX10_goesDay d sc (ZV sc Q) 14 [(2, 183), (0, 0), (0, 0), (9, 0), (9, 0), (9, 0), (9, 0)] [] μ2) :
    WQ mX10_goesDay d sc (ZV sc Q) 0 [(2, 183), (9, 0), (9, 0), (9, 0), (9, 0), (9, 0), (9, 0)] [] μ := by
  refine WP_aload_n dX10_goesDay_0 rfl rfl ⟨Nat.le_of_ble_eq_true rfl, Nat.le_of_ble_eq_true rfl⟩ ?_
  refine WP_iconst dX10_goesDay_1 (by decide) ?_
  refine WQ_put (ci := 10) (j := 35) (n := 49) dX10_goesDay_2 f_X10_284 k_183 rfl (fun μ1 eμ1 => ?_)
  replace h := h μ1 eμ1
  refine WP_aload_n dX10_goesDay_5 rfl rfl ⟨Nat.le_of_ble_eq_true rfl, Nat.le_of_ble_eq_true rfl⟩ ?_
  refine WP_iconst dX10_goesDay_6 (by decide) ?_
  refine WQ_put (ci := 10) (j := 36) (n := 49) dX10_goesDay_7 f_X10_287 k_183 rfl (fun μ2 eμ2 => ?_)
  replace h := h μ2 eμ2
  refine WP_iconst dX10_goesDay_10 (by decide) ?_
  refine WP_istore_n (L' := [(2, 183), (0, 0), (9, 0), (9, 0), (9, 0), (9, 0), (9, 0)]) dX10_goesDay_11 rfl (by decide) rfl ?_
  refine WP_iconst dX10_goesDay_12 (by decide) ?_
  refine WP_istore_n (L' := [(2, 183), (0, 0), (0, 0), (9, 0), (9, 0), (9, 0), (9, 0)]) dX10_goesDay_13 rfl (by decide) rfl ?_
  exact h

theorem s_X10_goesDay_14 {d : Nat} {sc : SC} {Q : Mem → Prop} {μ : Mem} {x1 x2 : Int}
    (h : (100 ≤ x2 → WQ mX10_goesDay d sc (ZV sc Q) 35 [(2, 183), (0, x1), (0, 0), (9, 0), (9, 0), (9, 0), (9, 0)] [] μ) ∧ (x2 < 100 → (0 ≤ x2 ∧ x2 < 100) ∧ (∀ μ3, μ3 = mup μ 195 x2 (-1) → (-2147483648 ≤ x2 + 1 ∧ x2 + 1 < 2147483648) ∧ ∀ v5 : Int, v5 = x2 + 1 → WQ mX10_goesDay d sc (ZV sc Q) 14 [(2, 183), (0, x1), (0, v5), (9, 0), (9, 0), (9, 0), (9, 0)] [] μ3))) :
    WQ mX10_goesDay d sc (ZV sc Q) 14 [(2, 183), (0, x1), (0, x2), (9, 0), (9, 0), (9, 0), (9, 0)] [] μ := by
  refine WP_iload_n dX10_goesDay_14 rfl rfl ?_
  refine WP_bipush dX10_goesDay_15 (by decide +kernel) (by decide) ?_
  refine WQ_icmp_ge (tgt := 33) dX10_goesDay_17 (by decide) (fun c1 => ?_) (fun c1 => ?_)
  · replace h := h.1 c1
    refine WP_iconst dX10_goesDay_33 (by decide) ?_
    refine WP_istore_n (L' := [(2, 183), (0, x1), (0, 0), (9, 0), (9, 0), (9, 0), (9, 0)]) dX10_goesDay_34 rfl (by decide) rfl ?_
    exact h
  · replace h := h.2 c1
    refine WP_aload_n dX10_goesDay_20 rfl rfl ⟨Nat.le_of_ble_eq_true rfl, Nat.le_of_ble_eq_true rfl⟩ ?_
    refine WP_getfield (ci := 10) (j := 24) (n := 49) (t := 2) (x := 195) dX10_goesDay_21 f_X10_52 k_183 rfl rfl ?_
    refine WP_iload_n dX10_goesDay_24 rfl rfl ?_
    refine WP_iconst dX10_goesDay_25 (by decide) ?_
    obtain ⟨g2, h⟩ := h
    refine WQ_iast (n := 100) dX10_goesDay_26 k_195 g2 (fun μ3 eμ3 => ?_)
    replace h := h μ3 eμ3
    obtain ⟨g4, h⟩ := h
    refine WQ_iinc dX10_goesDay_27 rfl (by decide) g4 (fun v5 e5 => ?_)
    refine WP_same (L' := [(2, 183), (0, x1), (0, v5), (9, 0), (9, 0), (9, 0), (9, 0)]) rfl ?_
    replace h := h v5 e5
    refine WP_goto (tgt := 14) dX10_goesDay_30 (by decide) ?_
    exact h

theorem s_X10_goesDay_35 {d : Nat} {sc : SC} {Q : Mem → Prop} {μ : Mem} {x1 x2 : Int}
    (h : (6 ≤ x2 → WQ mX10_goesDay d sc (ZV sc Q) 56 [(2, 183), (0, x1), (0, 0), (9, 0), (9, 0), (9, 0), (9, 0)] [] μ) ∧ (x2 < 6 → (0 ≤ x2 ∧ x2 < 6) ∧ (∀ μ3, μ3 = mup μ 203 x2 0 → (-2147483648 ≤ x2 + 1 ∧ x2 + 1 < 2147483648) ∧ ∀ v5 : Int, v5 = x2 + 1 → WQ mX10_goesDay d sc (ZV sc Q) 35 [(2, 183), (0, x1), (0, v5), (9, 0), (9, 0), (9, 0), (9, 0)] [] μ3))) :
    WQ mX10_goesDay d sc (ZV sc Q) 35 [(2, 183), (0, x1), (0, x2), (9, 0), (9, 0), (9, 0), (9, 0)] [] μ := by
  refine WP_iload_n dX10_goesDay_35 rfl rfl ?_
  refine WP_bipush dX10_goesDay_36 (by decide +kernel) (by decide) ?_
  refine WQ_icmp_ge (tgt := 54) dX10_goesDay_38 (by decide) (fun c1 => ?_) (fun c1 => ?_)
  · replace h := h.1 c1
    refine WP_iconst dX10_goesDay_54 (by decide) ?_
    refine WP_istore_n (L' := [(2, 183), (0, x1), (0, 0), (9, 0), (9, 0), (9, 0), (9, 0)]) dX10_goesDay_55 rfl (by decide) rfl ?_
    exact h
  · replace h := h.2 c1
    refine WP_aload_n dX10_goesDay_41 rfl rfl ⟨Nat.le_of_ble_eq_true rfl, Nat.le_of_ble_eq_true rfl⟩ ?_
    refine WP_getfield (ci := 10) (j := 32) (n := 49) (t := 2) (x := 203) dX10_goesDay_42 f_X10_76 k_183 rfl rfl ?_
    refine WP_iload_n dX10_goesDay_45 rfl rfl ?_
    refine WP_iconst dX10_goesDay_46 (by decide) ?_
    obtain ⟨g2, h⟩ := h
    refine WQ_iast (n := 6) dX10_goesDay_47 k_203 g2 (fun μ3 eμ3 => ?_)
    replace h := h μ3 eμ3
    obtain ⟨g4, h⟩ := h
    refine WQ_iinc dX10_goesDay_48 rfl (by decide) g4 (fun v5 e5 => ?_)
    refine WP_same (L' := [(2, 183), (0, x1), (0, v5), (9, 0), (9, 0), (9, 0), (9, 0)]) rfl ?_
    replace h := h v5 e5
    refine WP_goto (tgt := 35) dX10_goesDay_51 (by decide) ?_
    exact h

theorem s_X10_goesDay_56 {d : Nat} {sc : SC} {Q : Mem → Prop} {μ : Mem} {x1 x2 : Int}
    (h : (μ 183 34 ≤ x2 → WQ mX10_goesDay d sc (ZV sc Q) 79 [(2, 183), (0, x1), (0, 0), (9, 0), (9, 0), (9, 0), (9, 0)] [] μ) ∧ (x2 < μ 183 34 → (0 ≤ x2 ∧ x2 < 10) ∧ (∀ μ3, μ3 = mup μ 204 x2 0 → (-2147483648 ≤ x2 + 1 ∧ x2 + 1 < 2147483648) ∧ ∀ v5 : Int, v5 = x2 + 1 → WQ mX10_goesDay d sc (ZV sc Q) 56 [(2, 183), (0, x1), (0, v5), (9, 0), (9, 0), (9, 0), (9, 0)] [] μ3))) :
    WQ mX10_goesDay d sc (ZV sc Q) 56 [(2, 183), (0, x1), (0, x2), (9, 0), (9, 0), (9, 0), (9, 0)] [] μ := by
  refine WP_iload_n dX10_goesDay_56 rfl rfl ?_
  refine WP_aload_n dX10_goesDay_57 rfl rfl ⟨Nat.le_of_ble_eq_true rfl, Nat.le_of_ble_eq_true rfl⟩ ?_
  refine WP_getfield (ci := 10) (j := 34) (n := 49) (t := 0) (x := μ 183 34) dX10_goesDay_58 f_X10_273 k_183 rfl rfl ?_
  refine WQ_icmp_ge (tgt := 77) dX10_goesDay_61 (by decide) (fun c1 => ?_) (fun c1 => ?_)
  · replace h := h.1 c1
    refine WP_iconst dX10_goesDay_77 (by decide) ?_
    refine WP_istore_n (L' := [(2, 183), (0, x1), (0, 0), (9, 0), (9, 0), (9, 0), (9, 0)]) dX10_goesDay_78 rfl (by decide) rfl ?_
    exact h
  · replace h := h.2 c1
    refine WP_aload_n dX10_goesDay_64 rfl rfl ⟨Nat.le_of_ble_eq_true rfl, Nat.le_of_ble_eq_true rfl⟩ ?_
    refine WP_getfield (ci := 10) (j := 33) (n := 49) (t := 2) (x := 204) dX10_goesDay_65 f_X10_79 k_183 rfl rfl ?_
    refine WP_iload_n dX10_goesDay_68 rfl rfl ?_
    refine WP_iconst dX10_goesDay_69 (by decide) ?_
    obtain ⟨g2, h⟩ := h
    refine WQ_zast (n := 10) dX10_goesDay_70 k_204 g2 ⟨by decide, by decide⟩ (fun μ3 eμ3 => ?_)
    replace h := h μ3 eμ3
    obtain ⟨g4, h⟩ := h
    refine WQ_iinc dX10_goesDay_71 rfl (by decide) g4 (fun v5 e5 => ?_)
    refine WP_same (L' := [(2, 183), (0, x1), (0, v5), (9, 0), (9, 0), (9, 0), (9, 0)]) rfl ?_
    replace h := h v5 e5
    refine WP_goto (tgt := 56) dX10_goesDay_74 (by decide) ?_
    exact h

theorem s_X10_goesDay_79 {d : Nat} {sc : SC} {Q : Mem → Prop} {μ : Mem} {x1 x2 : Int}
    (h : (100 ≤ x2 → Q μ) ∧ (x2 < 100 → ∀ v2 : Int, v2 = μ 183 36 → (0 ≤ x2 ∧ x2 < 100) ∧ (∀ v4 : Int, v4 = μ 195 x2 → WQ mX10_goesDay d sc (ZV sc Q) 101 [(2, 183), (0, x1), (0, x2), (0, v2), (0, 0), (0, v4), (9, 0)] [] μ))) :
    WQ mX10_goesDay d sc (ZV sc Q) 79 [(2, 183), (0, x1), (0, x2), (9, 0), (9, 0), (9, 0), (9, 0)] [] μ := by
  refine WP_iload_n dX10_goesDay_79 rfl rfl ?_
  refine WP_bipush dX10_goesDay_80 (by decide +kernel) (by decide) ?_
  refine WQ_icmp_ge (tgt := 368) dX10_goesDay_82 (by decide) (fun c1 => ?_) (fun c1 => ?_)
  · replace h := h.1 c1
    exact WQ_return dX10_goesDay_368 rfl h
  · replace h := h.2 c1
    refine WP_aload_n dX10_goesDay_85 rfl rfl ⟨Nat.le_of_ble_eq_true rfl, Nat.le_of_ble_eq_true rfl⟩ ?_
    refine WP_getfield (ci := 10) (j := 36) (n := 49) (t := 0) (x := μ 183 36) dX10_goesDay_86 f_X10_287 k_183 rfl rfl ?_
    refine WQ_nm0 (fun v2 e2 => ?_)
    replace h := h v2 e2
    refine WP_istore_n (L' := [(2, 183), (0, x1), (0, x2), (0, v2), (9, 0), (9, 0), (9, 0)]) dX10_goesDay_89 rfl (by decide) rfl ?_
    refine WP_iconst dX10_goesDay_90 (by decide) ?_
    refine WP_istore (L' := [(2, 183), (0, x1), (0, x2), (0, v2), (0, 0), (9, 0), (9, 0)]) dX10_goesDay_91 (by decide) rfl ?_
    refine WP_aload_n dX10_goesDay_93 rfl rfl ⟨Nat.le_of_ble_eq_true rfl, Nat.le_of_ble_eq_true rfl⟩ ?_
    refine WP_getfield (ci := 10) (j := 24) (n := 49) (t := 2) (x := 195) dX10_goesDay_94 f_X10_52 k_183 rfl rfl ?_
    refine WP_iload_n dX10_goesDay_97 rfl rfl ?_
    obtain ⟨g3, h⟩ := h
    refine WP_iaload (n := 100) dX10_goesDay_98 k_195 g3 ?_
    refine WQ_nm0 (fun v4 e4 => ?_)
    replace h := h v4 e4
    refine WP_istore (L' := [(2, 183), (0, x1), (0, x2), (0, v2), (0, 0), (0, v4), (9, 0)]) dX10_goesDay_99 (by decide) rfl ?_
    exact h

theorem s_X10_goesDay_101 {d : Nat} {sc : SC} {Q : Mem → Prop} {μ : Mem} {x1 x2 x3 x4 x5 : Int}
    (h : (x5 = (-1) → WQ mX10_goesDay d sc (ZV sc Q) 188 [(2, 183), (0, x1), (0, x2), (0, x3), (0, x4), (0, 0), (9, 0)] [] μ) ∧ (x5 ≠ (-1) → (0 ≤ x5 ∧ x5 < 640) ∧ (0 ≤ μ 183 36 ∧ μ 183 36 < 640) ∧ (∀ μ4, μ4 = mup μ 200 (μ 183 36) (μ 198 x5) → (0 ≤ x5 ∧ x5 < 640) ∧ (0 ≤ μ4 183 36 ∧ μ4 183 36 < 640) ∧ (∀ μ7, μ7 = mup μ4 202 (μ4 183 36) (μ4 197 x5) → (0 ≤ μ7 183 36 ∧ μ7 183 36 < 640) ∧ (∀ μ9, μ9 = mup μ7 201 (μ7 183 36) x2 → (-2147483648 ≤ (μ9 183 36) + 1 ∧ (μ9 183 36) + 1 < 2147483648) ∧ (∀ μ11, μ11 = mup μ9 183 36 ((μ9 183 36) + 1) → (0 ≤ x5 ∧ x5 < 640) ∧ (∀ v13 : Int, v13 = iOr x4 (iShl 1 (μ11 198 x5)) → (0 ≤ x5 ∧ x5 < 640) ∧ (∀ v15 : Int, v15 = μ11 199 x5 → WQ mX10_goesDay d sc (ZV sc Q) 101 [(2, 183), (0, x1), (0, x2), (0, x3), (0, v13), (0, v15), (9, 0)] [] μ11)))))))) :
    WQ mX10_goesDay d sc (ZV sc Q) 101 [(2, 183), (0, x1), (0, x2), (0, x3), (0, x4), (0, x5), (9, 0)] [] μ := by
  refine WP_iload dX10_goesDay_101 rfl ?_
  refine WP_iconst dX10_goesDay_103 (by decide) ?_
  refine WQ_icmp_eq (tgt := 185) dX10_goesDay_104 (by decide) (fun c1 => ?_) (fun c1 => ?_)
  · replace h := h.1 c1
    refine WP_iconst dX10_goesDay_185 (by decide) ?_
    refine WP_istore (L' := [(2, 183), (0, x1), (0, x2), (0, x3), (0, x4), (0, 0), (9, 0)]) dX10_goesDay_186 (by decide) rfl ?_
    exact h
  · replace h := h.2 c1
    refine WP_aload_n dX10_goesDay_107 rfl rfl ⟨Nat.le_of_ble_eq_true rfl, Nat.le_of_ble_eq_true rfl⟩ ?_
    refine WP_getfield (ci := 10) (j := 29) (n := 49) (t := 2) (x := 200) dX10_goesDay_108 f_X10_67 k_183 rfl rfl ?_
    refine WP_aload_n dX10_goesDay_111 rfl rfl ⟨Nat.le_of_ble_eq_true rfl, Nat.le_of_ble_eq_true rfl⟩ ?_
    refine WP_getfield (ci := 10) (j := 36) (n := 49) (t := 0) (x := μ 183 36) dX10_goesDay_112 f_X10_287 k_183 rfl rfl ?_
    refine WP_aload_n dX10_goesDay_115 rfl rfl ⟨Nat.le_of_ble_eq_true rfl, Nat.le_of_ble_eq_true rfl⟩ ?_
    refine WP_getfield (ci := 10) (j := 27) (n := 49) (t := 2) (x := 198) dX10_goesDay_116 f_X10_61 k_183 rfl rfl ?_
    refine WP_iload dX10_goesDay_119 rfl ?_
    obtain ⟨g2, h⟩ := h
    refine WP_iaload (n := 640) dX10_goesDay_121 k_198 g2 ?_
    obtain ⟨g3, h⟩ := h
    refine WQ_iast (n := 640) dX10_goesDay_122 k_200 g3 (fun μ4 eμ4 => ?_)
    replace h := h μ4 eμ4
    refine WP_aload_n dX10_goesDay_123 rfl rfl ⟨Nat.le_of_ble_eq_true rfl, Nat.le_of_ble_eq_true rfl⟩ ?_
    refine WP_getfield (ci := 10) (j := 31) (n := 49) (t := 2) (x := 202) dX10_goesDay_124 f_X10_73 k_183 rfl rfl ?_
    refine WP_aload_n dX10_goesDay_127 rfl rfl ⟨Nat.le_of_ble_eq_true rfl, Nat.le_of_ble_eq_true rfl⟩ ?_
    refine WP_getfield (ci := 10) (j := 36) (n := 49) (t := 0) (x := μ4 183 36) dX10_goesDay_128 f_X10_287 k_183 rfl rfl ?_
    refine WP_aload_n dX10_goesDay_131 rfl rfl ⟨Nat.le_of_ble_eq_true rfl, Nat.le_of_ble_eq_true rfl⟩ ?_
    refine WP_getfield (ci := 10) (j := 26) (n := 49) (t := 2) (x := 197) dX10_goesDay_132 f_X10_58 k_183 rfl rfl ?_
    refine WP_iload dX10_goesDay_135 rfl ?_
    obtain ⟨g5, h⟩ := h
    refine WP_iaload (n := 640) dX10_goesDay_137 k_197 g5 ?_
    obtain ⟨g6, h⟩ := h
    refine WQ_iast (n := 640) dX10_goesDay_138 k_202 g6 (fun μ7 eμ7 => ?_)
    replace h := h μ7 eμ7
    refine WP_aload_n dX10_goesDay_139 rfl rfl ⟨Nat.le_of_ble_eq_true rfl, Nat.le_of_ble_eq_true rfl⟩ ?_
    refine WP_getfield (ci := 10) (j := 30) (n := 49) (t := 2) (x := 201) dX10_goesDay_140 f_X10_70 k_183 rfl rfl ?_
    refine WP_aload_n dX10_goesDay_143 rfl rfl ⟨Nat.le_of_ble_eq_true rfl, Nat.le_of_ble_eq_true rfl⟩ ?_
    refine WP_getfield (ci := 10) (j := 36) (n := 49) (t := 0) (x := μ7 183 36) dX10_goesDay_144 f_X10_287 k_183 rfl rfl ?_
    refine WP_iload_n dX10_goesDay_147 rfl rfl ?_
    obtain ⟨g8, h⟩ := h
    refine WQ_iast (n := 640) dX10_goesDay_148 k_201 g8 (fun μ9 eμ9 => ?_)
    replace h := h μ9 eμ9
    refine WP_aload_n dX10_goesDay_149 rfl rfl ⟨Nat.le_of_ble_eq_true rfl, Nat.le_of_ble_eq_true rfl⟩ ?_
    refine WP_dup dX10_goesDay_150 (by simp) ?_
    refine WP_getfield (ci := 10) (j := 36) (n := 49) (t := 0) (x := μ9 183 36) dX10_goesDay_151 f_X10_287 k_183 rfl rfl ?_
    refine WP_iconst dX10_goesDay_154 (by decide) ?_
    obtain ⟨g10, h⟩ := h
    refine WP_iadd dX10_goesDay_155 g10 ?_
    refine WQ_put (ci := 10) (j := 36) (n := 49) dX10_goesDay_156 f_X10_287 k_183 rfl (fun μ11 eμ11 => ?_)
    replace h := h μ11 eμ11
    refine WP_iload dX10_goesDay_159 rfl ?_
    refine WP_iconst dX10_goesDay_161 (by decide) ?_
    refine WP_aload_n dX10_goesDay_162 rfl rfl ⟨Nat.le_of_ble_eq_true rfl, Nat.le_of_ble_eq_true rfl⟩ ?_
    refine WP_getfield (ci := 10) (j := 27) (n := 49) (t := 2) (x := 198) dX10_goesDay_163 f_X10_61 k_183 rfl rfl ?_
    refine WP_iload dX10_goesDay_166 rfl ?_
    obtain ⟨g12, h⟩ := h
    refine WP_iaload (n := 640) dX10_goesDay_168 k_198 g12 ?_
    refine WP_ishl dX10_goesDay_169 ?_
    refine WP_ior dX10_goesDay_170 ?_
    refine WQ_nm0 (fun v13 e13 => ?_)
    replace h := h v13 e13
    refine WP_istore (L' := [(2, 183), (0, x1), (0, x2), (0, x3), (0, v13), (0, x5), (9, 0)]) dX10_goesDay_171 (by decide) rfl ?_
    refine WP_aload_n dX10_goesDay_173 rfl rfl ⟨Nat.le_of_ble_eq_true rfl, Nat.le_of_ble_eq_true rfl⟩ ?_
    refine WP_getfield (ci := 10) (j := 28) (n := 49) (t := 2) (x := 199) dX10_goesDay_174 f_X10_64 k_183 rfl rfl ?_
    refine WP_iload dX10_goesDay_177 rfl ?_
    obtain ⟨g14, h⟩ := h
    refine WP_iaload (n := 640) dX10_goesDay_179 k_199 g14 ?_
    refine WQ_nm0 (fun v15 e15 => ?_)
    replace h := h v15 e15
    refine WP_istore (L' := [(2, 183), (0, x1), (0, x2), (0, x3), (0, v13), (0, v15), (9, 0)]) dX10_goesDay_180 (by decide) rfl ?_
    refine WP_goto (tgt := 101) dX10_goesDay_182 (by decide) ?_
    exact h

theorem s_X10_goesDay_188 {d : Nat} {sc : SC} {Q : Mem → Prop} {μ : Mem} {x1 x2 x3 x4 x5 : Int}
    (h : (μ 183 34 ≤ x5 → WQ mX10_goesDay d sc (ZV sc Q) 263 [(2, 183), (9, 0), (0, x2), (0, x3), (0, x4), (0, x1), (9, 0)] [] μ) ∧ (x5 < μ 183 34 → (0 ≤ x5 ∧ x5 < 10) ∧ (μ 193 x5 ≠ x2 → (-2147483648 ≤ x5 + 1 ∧ x5 + 1 < 2147483648) ∧ ∀ v5 : Int, v5 = x5 + 1 → WQ mX10_goesDay d sc (ZV sc Q) 188 [(2, 183), (0, x1), (0, x2), (0, x3), (0, x4), (0, v5), (9, 0)] [] μ) ∧ (μ 193 x5 = x2 → (0 ≤ x5 ∧ x5 < 10) ∧ CAi mX10_isIn d sc [(1, x4), (0, μ 191 x5)] μ (fun r7 μ8 => (r7 = 0 → (0 ≤ x5 ∧ x5 < 10) ∧ (∀ μ11, μ11 = mup μ8 204 x5 1 → (0 ≤ x5 ∧ x5 < 10) ∧ (0 ≤ x5 ∧ x5 < 10) ∧ CAv mX10_says d sc [(2, 183), (0, μ11 191 x5), (0, μ11 192 x5), (0, x2)] μ11 (fun μ15 => (-2147483648 ≤ x5 + 1 ∧ x5 + 1 < 2147483648) ∧ ∀ v17 : Int, v17 = x5 + 1 → WQ mX10_goesDay d sc (ZV sc Q) 188 [(2, 183), (0, x1), (0, x2), (0, x3), (0, x4), (0, v17), (9, 0)] [] μ15))) ∧ (r7 ≠ 0 → (-2147483648 ≤ x5 + 1 ∧ x5 + 1 < 2147483648) ∧ ∀ v19 : Int, v19 = x5 + 1 → WQ mX10_goesDay d sc (ZV sc Q) 188 [(2, 183), (0, x1), (0, x2), (0, x3), (0, x4), (0, v19), (9, 0)] [] μ8))))) :
    WQ mX10_goesDay d sc (ZV sc Q) 188 [(2, 183), (0, x1), (0, x2), (0, x3), (0, x4), (0, x5), (9, 0)] [] μ := by
  refine WP_iload dX10_goesDay_188 rfl ?_
  refine WP_aload_n dX10_goesDay_190 rfl rfl ⟨Nat.le_of_ble_eq_true rfl, Nat.le_of_ble_eq_true rfl⟩ ?_
  refine WP_getfield (ci := 10) (j := 34) (n := 49) (t := 0) (x := μ 183 34) dX10_goesDay_191 f_X10_273 k_183 rfl rfl ?_
  refine WQ_icmp_ge (tgt := 260) dX10_goesDay_194 (by decide) (fun c1 => ?_) (fun c1 => ?_)
  · replace h := h.1 c1
    refine WP_iload_n dX10_goesDay_260 rfl rfl ?_
    refine WP_istore (L' := [(2, 183), (0, x1), (0, x2), (0, x3), (0, x4), (0, x1), (9, 0)]) dX10_goesDay_261 (by decide) rfl ?_
    refine WP_lforget (L' := [(2, 183), (9, 0), (0, x2), (0, x3), (0, x4), (0, x1), (9, 0)]) rfl (fun i hi => ?_) h
    match i, hi with
    | 0, _ => exact Or.inl rfl
    | 1, _ => exact Or.inr rfl
    | 2, _ => exact Or.inl rfl
    | 3, _ => exact Or.inl rfl
    | 4, _ => exact Or.inl rfl
    | 5, _ => exact Or.inl rfl
    | 6, _ => exact Or.inl rfl
    | i + 7, hi => exact absurd hi (by simp only [List.length_cons, List.length_nil]; omega)
  · replace h := h.2 c1
    refine WP_aload_n dX10_goesDay_197 rfl rfl ⟨Nat.le_of_ble_eq_true rfl, Nat.le_of_ble_eq_true rfl⟩ ?_
    refine WP_getfield (ci := 10) (j := 22) (n := 49) (t := 2) (x := 193) dX10_goesDay_198 f_X10_46 k_183 rfl rfl ?_
    refine WP_iload dX10_goesDay_201 rfl ?_
    obtain ⟨g2, h⟩ := h
    refine WP_iaload (n := 10) dX10_goesDay_203 k_193 g2 ?_
    refine WP_iload_n dX10_goesDay_204 rfl rfl ?_
    refine WQ_icmp_ne (tgt := 254) dX10_goesDay_205 (by decide) (fun c3 => ?_) (fun c3 => ?_)
    · replace h := h.1 c3
      obtain ⟨g4, h⟩ := h
      refine WQ_iinc dX10_goesDay_254 rfl (by decide) g4 (fun v5 e5 => ?_)
      refine WP_same (L' := [(2, 183), (0, x1), (0, x2), (0, x3), (0, x4), (0, v5), (9, 0)]) rfl ?_
      replace h := h v5 e5
      refine WP_goto (tgt := 188) dX10_goesDay_257 (by decide) ?_
      exact h
    · replace h := h.2 c3
      refine WP_iload dX10_goesDay_208 rfl ?_
      refine WP_i2l dX10_goesDay_210 ?_
      refine WP_aload_n dX10_goesDay_211 rfl rfl ⟨Nat.le_of_ble_eq_true rfl, Nat.le_of_ble_eq_true rfl⟩ ?_
      refine WP_getfield (ci := 10) (j := 20) (n := 49) (t := 2) (x := 191) dX10_goesDay_212 f_X10_40 k_183 rfl rfl ?_
      refine WP_iload dX10_goesDay_215 rfl ?_
      obtain ⟨g6, h⟩ := h
      refine WP_iaload (n := 10) dX10_goesDay_217 k_191 g6 ?_
      refine WQ_invSi (as := [(1, x4), (0, μ 191 x5)]) dX10_goesDay_218 l_X10_276 mw_X10_isIn mt_X10_isIn mo_X10_isIn (Nat.le_of_ble_eq_true rfl) h rfl (fun r7 μ8 h => ?_)
      refine WQ_ifeq (tgt := 227) dX10_goesDay_221 (by decide) (fun c9 => ?_) (fun c9 => ?_)
      · replace h := h.1 c9
        refine WP_aload_n dX10_goesDay_227 rfl rfl ⟨Nat.le_of_ble_eq_true rfl, Nat.le_of_ble_eq_true rfl⟩ ?_
        refine WP_getfield (ci := 10) (j := 33) (n := 49) (t := 2) (x := 204) dX10_goesDay_228 f_X10_79 k_183 rfl rfl ?_
        refine WP_iload dX10_goesDay_231 rfl ?_
        refine WP_iconst dX10_goesDay_233 (by decide) ?_
        obtain ⟨g10, h⟩ := h
        refine WQ_zast (n := 10) dX10_goesDay_234 k_204 g10 ⟨by decide, by decide⟩ (fun μ11 eμ11 => ?_)
        replace h := h μ11 eμ11
        refine WP_aload_n dX10_goesDay_235 rfl rfl ⟨Nat.le_of_ble_eq_true rfl, Nat.le_of_ble_eq_true rfl⟩ ?_
        refine WP_aload_n dX10_goesDay_236 rfl rfl ⟨Nat.le_of_ble_eq_true rfl, Nat.le_of_ble_eq_true rfl⟩ ?_
        refine WP_getfield (ci := 10) (j := 20) (n := 49) (t := 2) (x := 191) dX10_goesDay_237 f_X10_40 k_183 rfl rfl ?_
        refine WP_iload dX10_goesDay_240 rfl ?_
        obtain ⟨g12, h⟩ := h
        refine WP_iaload (n := 10) dX10_goesDay_242 k_191 g12 ?_
        refine WP_aload_n dX10_goesDay_243 rfl rfl ⟨Nat.le_of_ble_eq_true rfl, Nat.le_of_ble_eq_true rfl⟩ ?_
        refine WP_getfield (ci := 10) (j := 21) (n := 49) (t := 2) (x := 192) dX10_goesDay_244 f_X10_43 k_183 rfl rfl ?_
        refine WP_iload dX10_goesDay_247 rfl ?_
        obtain ⟨g13, h⟩ := h
        refine WP_iaload (n := 10) dX10_goesDay_249 k_192 g13 ?_
        refine WP_iload_n dX10_goesDay_250 rfl rfl ?_
        refine WQ_invVv (v := (2, 183)) (as := [(0, μ11 191 x5), (0, μ11 192 x5), (0, x2)]) dX10_goesDay_251 l_X10_290 mw_X10_says mi_X10_says ms_X10_says mo_X10_says (rcv (ci := 10) (n := 49) (r := (RX10, TX10, 49)) k_183 rfl rfl) (Nat.le_of_ble_eq_true rfl) h rfl (fun μ15 h => ?_)
        obtain ⟨g16, h⟩ := h
        refine WQ_iinc dX10_goesDay_254 rfl (by decide) g16 (fun v17 e17 => ?_)
        refine WP_same (L' := [(2, 183), (0, x1), (0, x2), (0, x3), (0, x4), (0, v17), (9, 0)]) rfl ?_
        replace h := h v17 e17
        refine WP_goto (tgt := 188) dX10_goesDay_257 (by decide) ?_
        exact h
      · replace h := h.2 c9
        refine WP_goto (tgt := 254) dX10_goesDay_224 (by decide) ?_
        obtain ⟨g18, h⟩ := h
        refine WQ_iinc dX10_goesDay_254 rfl (by decide) g18 (fun v19 e19 => ?_)
        refine WP_same (L' := [(2, 183), (0, x1), (0, x2), (0, x3), (0, x4), (0, v19), (9, 0)]) rfl ?_
        replace h := h v19 e19
        refine WP_goto (tgt := 188) dX10_goesDay_257 (by decide) ?_
        exact h

theorem s_X10_goesDay_263 {d : Nat} {sc : SC} {Q : Mem → Prop} {μ : Mem} {x2 x3 x4 x5 : Int}
    (h : (x3 ≤ x5 → (-2147483648 ≤ x2 + 1 ∧ x2 + 1 < 2147483648) ∧ ∀ v3 : Int, v3 = x2 + 1 → WQ mX10_goesDay d sc (ZV sc Q) 79 [(2, 183), (0, x3), (0, v3), (9, 0), (9, 0), (9, 0), (9, 0)] [] μ) ∧ (x5 < x3 → (0 ≤ x5 ∧ x5 < 640) ∧ (∀ v5 : Int, v5 = μ 200 x5 → CAi mX10_isIn d sc [(1, x4), (0, v5)] μ (fun r6 μ7 => (r6 ≠ 0 → (-2147483648 ≤ x5 + 1 ∧ x5 + 1 < 2147483648) ∧ ∀ v10 : Int, v10 = x5 + 1 → WQ mX10_goesDay d sc (ZV sc Q) 263 [(2, 183), (9, 0), (0, x2), (0, x3), (0, x4), (0, v10), (9, 0)] [] μ7) ∧ (r6 = 0 → (0 ≤ x5 ∧ x5 < 640) ∧ (0 ≤ x5 ∧ x5 < 640) ∧ (-2147483648 ≤ 6 * (μ7 202 x5) ∧ 6 * (μ7 202 x5) < 2147483648) ∧ (-2147483648 ≤ (6 * (μ7 202 x5)) + v5 ∧ (6 * (μ7 202 x5)) + v5 < 2147483648) ∧ (0 ≤ (6 * (μ7 202 x5)) + v5 ∧ (6 * (μ7 202 x5)) + v5 < 36) ∧ (-2147483648 ≤ x2 - 1 ∧ x2 - 1 < 2147483648) ∧ CAi mX10_isAnswered d sc [(2, 183), (0, μ7 202 x5), (0, v5), (0, μ7 194 ((6 * (μ7 202 x5)) + v5)), (0, x2 - 1)] μ7 (fun r17 μ18 => (r17 ≠ 0 → (0 ≤ v5 ∧ v5 < 6) ∧ (-2147483648 ≤ (μ18 203 v5) + 1 ∧ (μ18 203 v5) + 1 < 2147483648) ∧ (0 ≤ v5 ∧ v5 < 6) ∧ (∀ μ23, μ23 = mup μ18 203 v5 ((μ18 203 v5) + 1) → (0 ≤ x5 ∧ x5 < 640) ∧ CAv mX10_says d sc [(2, 183), (0, v5), (0, μ23 202 x5), (0, x2)] μ23 (fun μ26 => (-2147483648 ≤ x5 + 1 ∧ x5 + 1 < 2147483648) ∧ ∀ v28 : Int, v28 = x5 + 1 → WQ mX10_goesDay d sc (ZV sc Q) 263 [(2, 183), (9, 0), (0, x2), (0, x3), (0, x4), (0, v28), (9, 0)] [] μ26))) ∧ (r17 = 0 → (-2147483648 ≤ x5 + 1 ∧ x5 + 1 < 2147483648) ∧ ∀ v30 : Int, v30 = x5 + 1 → WQ mX10_goesDay d sc (ZV sc Q) 263 [(2, 183), (9, 0), (0, x2), (0, x3), (0, x4), (0, v30), (9, 0)] [] μ18))))))) :
    WQ mX10_goesDay d sc (ZV sc Q) 263 [(2, 183), (9, 0), (0, x2), (0, x3), (0, x4), (0, x5), (9, 0)] [] μ := by
  refine WP_iload dX10_goesDay_263 rfl ?_
  refine WP_iload_n dX10_goesDay_265 rfl rfl ?_
  refine WQ_icmp_ge (tgt := 360) dX10_goesDay_266 (by decide) (fun c1 => ?_) (fun c1 => ?_)
  · replace h := h.1 c1
    refine WP_iload_n dX10_goesDay_360 rfl rfl ?_
    refine WP_istore_n (L' := [(2, 183), (0, x3), (0, x2), (0, x3), (0, x4), (0, x5), (9, 0)]) dX10_goesDay_361 rfl (by decide) rfl ?_
    obtain ⟨g2, h⟩ := h
    refine WQ_iinc dX10_goesDay_362 rfl (by decide) g2 (fun v3 e3 => ?_)
    refine WP_same (L' := [(2, 183), (0, x3), (0, v3), (0, x3), (0, x4), (0, x5), (9, 0)]) rfl ?_
    replace h := h v3 e3
    refine WP_goto (tgt := 79) dX10_goesDay_365 (by decide) ?_
    refine WP_lforget (L' := [(2, 183), (0, x3), (0, v3), (9, 0), (9, 0), (9, 0), (9, 0)]) rfl (fun i hi => ?_) h
    match i, hi with
    | 0, _ => exact Or.inl rfl
    | 1, _ => exact Or.inl rfl
    | 2, _ => exact Or.inl rfl
    | 3, _ => exact Or.inr rfl
    | 4, _ => exact Or.inr rfl
    | 5, _ => exact Or.inr rfl
    | 6, _ => exact Or.inl rfl
    | i + 7, hi => exact absurd hi (by simp only [List.length_cons, List.length_nil]; omega)
  · replace h := h.2 c1
    refine WP_aload_n dX10_goesDay_269 rfl rfl ⟨Nat.le_of_ble_eq_true rfl, Nat.le_of_ble_eq_true rfl⟩ ?_
    refine WP_getfield (ci := 10) (j := 29) (n := 49) (t := 2) (x := 200) dX10_goesDay_270 f_X10_67 k_183 rfl rfl ?_
    refine WP_iload dX10_goesDay_273 rfl ?_
    obtain ⟨g4, h⟩ := h
    refine WP_iaload (n := 640) dX10_goesDay_275 k_200 g4 ?_
    refine WQ_nm0 (fun v5 e5 => ?_)
    replace h := h v5 e5
    refine WP_istore (L' := [(2, 183), (9, 0), (0, x2), (0, x3), (0, x4), (0, x5), (0, v5)]) dX10_goesDay_276 (by decide) rfl ?_
    refine WP_iload dX10_goesDay_278 rfl ?_
    refine WP_i2l dX10_goesDay_280 ?_
    refine WP_iload dX10_goesDay_281 rfl ?_
    refine WQ_invSi (as := [(1, x4), (0, v5)]) dX10_goesDay_283 l_X10_276 mw_X10_isIn mt_X10_isIn mo_X10_isIn (Nat.le_of_ble_eq_true rfl) h rfl (fun r6 μ7 h => ?_)
    refine WQ_ifne (tgt := 354) dX10_goesDay_286 (by decide) (fun c8 => ?_) (fun c8 => ?_)
    · replace h := h.1 c8
      obtain ⟨g9, h⟩ := h
      refine WQ_iinc dX10_goesDay_354 rfl (by decide) g9 (fun v10 e10 => ?_)
      refine WP_same (L' := [(2, 183), (9, 0), (0, x2), (0, x3), (0, x4), (0, v10), (0, v5)]) rfl ?_
      replace h := h v10 e10
      refine WP_goto (tgt := 263) dX10_goesDay_357 (by decide) ?_
      refine WP_lforget (L' := [(2, 183), (9, 0), (0, x2), (0, x3), (0, x4), (0, v10), (9, 0)]) rfl (fun i hi => ?_) h
      match i, hi with
      | 0, _ => exact Or.inl rfl
      | 1, _ => exact Or.inl rfl
      | 2, _ => exact Or.inl rfl
      | 3, _ => exact Or.inl rfl
      | 4, _ => exact Or.inl rfl
      | 5, _ => exact Or.inl rfl
      | 6, _ => exact Or.inr rfl
      | i + 7, hi => exact absurd hi (by simp only [List.length_cons, List.length_nil]; omega)
    · replace h := h.2 c8
      refine WP_aload_n dX10_goesDay_289 rfl rfl ⟨Nat.le_of_ble_eq_true rfl, Nat.le_of_ble_eq_true rfl⟩ ?_
      refine WP_aload_n dX10_goesDay_290 rfl rfl ⟨Nat.le_of_ble_eq_true rfl, Nat.le_of_ble_eq_true rfl⟩ ?_
      refine WP_getfield (ci := 10) (j := 31) (n := 49) (t := 2) (x := 202) dX10_goesDay_291 f_X10_73 k_183 rfl rfl ?_
      refine WP_iload dX10_goesDay_294 rfl ?_
      obtain ⟨g11, h⟩ := h
      refine WP_iaload (n := 640) dX10_goesDay_296 k_202 g11 ?_
      refine WP_iload dX10_goesDay_297 rfl ?_
      refine WP_aload_n dX10_goesDay_299 rfl rfl ⟨Nat.le_of_ble_eq_true rfl, Nat.le_of_ble_eq_true rfl⟩ ?_
      refine WP_getfield (ci := 10) (j := 23) (n := 49) (t := 2) (x := 194) dX10_goesDay_300 f_X10_49 k_183 rfl rfl ?_
      refine WP_bipush dX10_goesDay_303 (by decide +kernel) (by decide) ?_
      refine WP_aload_n dX10_goesDay_305 rfl rfl ⟨Nat.le_of_ble_eq_true rfl, Nat.le_of_ble_eq_true rfl⟩ ?_
      refine WP_getfield (ci := 10) (j := 31) (n := 49) (t := 2) (x := 202) dX10_goesDay_306 f_X10_73 k_183 rfl rfl ?_
      refine WP_iload dX10_goesDay_309 rfl ?_
      obtain ⟨g12, h⟩ := h
      refine WP_iaload (n := 640) dX10_goesDay_311 k_202 g12 ?_
      obtain ⟨g13, h⟩ := h
      refine WP_imul dX10_goesDay_312 g13 ?_
      refine WP_iload dX10_goesDay_313 rfl ?_
      obtain ⟨g14, h⟩ := h
      refine WP_iadd dX10_goesDay_315 g14 ?_
      obtain ⟨g15, h⟩ := h
      refine WP_iaload (n := 36) dX10_goesDay_316 k_194 g15 ?_
      refine WP_iload_n dX10_goesDay_317 rfl rfl ?_
      refine WP_iconst dX10_goesDay_318 (by decide) ?_
      obtain ⟨g16, h⟩ := h
      refine WP_isub dX10_goesDay_319 g16 ?_
      refine WQ_invVi (v := (2, 183)) (as := [(0, μ7 202 x5), (0, v5), (0, μ7 194 ((6 * (μ7 202 x5)) + v5)), (0, x2 - 1)]) dX10_goesDay_320 l_X10_293 mw_X10_isAnswered mi_X10_isAnswered ms_X10_isAnswered mo_X10_isAnswered (rcv (ci := 10) (n := 49) (r := (RX10, TX10, 49)) k_183 rfl rfl) (Nat.le_of_ble_eq_true rfl) h rfl (fun r17 μ18 h => ?_)
      refine WQ_ifne (tgt := 329) dX10_goesDay_323 (by decide) (fun c19 => ?_) (fun c19 => ?_)
      · replace h := h.1 c19
        refine WP_aload_n dX10_goesDay_329 rfl rfl ⟨Nat.le_of_ble_eq_true rfl, Nat.le_of_ble_eq_true rfl⟩ ?_
        refine WP_getfield (ci := 10) (j := 32) (n := 49) (t := 2) (x := 203) dX10_goesDay_330 f_X10_76 k_183 rfl rfl ?_
        refine WP_iload dX10_goesDay_333 rfl ?_
        refine WP_dup2 dX10_goesDay_335 (by simp) (by simp) ?_
        obtain ⟨g20, h⟩ := h
        refine WP_iaload (n := 6) dX10_goesDay_336 k_203 g20 ?_
        refine WP_iconst dX10_goesDay_337 (by decide) ?_
        obtain ⟨g21, h⟩ := h
        refine WP_iadd dX10_goesDay_338 g21 ?_
        obtain ⟨g22, h⟩ := h
        refine WQ_iast (n := 6) dX10_goesDay_339 k_203 g22 (fun μ23 eμ23 => ?_)
        replace h := h μ23 eμ23
        refine WP_aload_n dX10_goesDay_340 rfl rfl ⟨Nat.le_of_ble_eq_true rfl, Nat.le_of_ble_eq_true rfl⟩ ?_
        refine WP_iload dX10_goesDay_341 rfl ?_
        refine WP_aload_n dX10_goesDay_343 rfl rfl ⟨Nat.le_of_ble_eq_true rfl, Nat.le_of_ble_eq_true rfl⟩ ?_
        refine WP_getfield (ci := 10) (j := 31) (n := 49) (t := 2) (x := 202) dX10_goesDay_344 f_X10_73 k_183 rfl rfl ?_
        refine WP_iload dX10_goesDay_347 rfl ?_
        obtain ⟨g24, h⟩ := h
        refine WP_iaload (n := 640) dX10_goesDay_349 k_202 g24 ?_
        refine WP_iload_n dX10_goesDay_350 rfl rfl ?_
        refine WQ_invVv (v := (2, 183)) (as := [(0, v5), (0, μ23 202 x5), (0, x2)]) dX10_goesDay_351 l_X10_290 mw_X10_says mi_X10_says ms_X10_says mo_X10_says (rcv (ci := 10) (n := 49) (r := (RX10, TX10, 49)) k_183 rfl rfl) (Nat.le_of_ble_eq_true rfl) h rfl (fun μ26 h => ?_)
        obtain ⟨g27, h⟩ := h
        refine WQ_iinc dX10_goesDay_354 rfl (by decide) g27 (fun v28 e28 => ?_)
        refine WP_same (L' := [(2, 183), (9, 0), (0, x2), (0, x3), (0, x4), (0, v28), (0, v5)]) rfl ?_
        replace h := h v28 e28
        refine WP_goto (tgt := 263) dX10_goesDay_357 (by decide) ?_
        refine WP_lforget (L' := [(2, 183), (9, 0), (0, x2), (0, x3), (0, x4), (0, v28), (9, 0)]) rfl (fun i hi => ?_) h
        match i, hi with
        | 0, _ => exact Or.inl rfl
        | 1, _ => exact Or.inl rfl
        | 2, _ => exact Or.inl rfl
        | 3, _ => exact Or.inl rfl
        | 4, _ => exact Or.inl rfl
        | 5, _ => exact Or.inl rfl
        | 6, _ => exact Or.inr rfl
        | i + 7, hi => exact absurd hi (by simp only [List.length_cons, List.length_nil]; omega)
      · replace h := h.2 c19
        refine WP_goto (tgt := 354) dX10_goesDay_326 (by decide) ?_
        obtain ⟨g29, h⟩ := h
        refine WQ_iinc dX10_goesDay_354 rfl (by decide) g29 (fun v30 e30 => ?_)
        refine WP_same (L' := [(2, 183), (9, 0), (0, x2), (0, x3), (0, x4), (0, v30), (0, v5)]) rfl ?_
        replace h := h v30 e30
        refine WP_goto (tgt := 263) dX10_goesDay_357 (by decide) ?_
        refine WP_lforget (L' := [(2, 183), (9, 0), (0, x2), (0, x3), (0, x4), (0, v30), (9, 0)]) rfl (fun i hi => ?_) h
        match i, hi with
        | 0, _ => exact Or.inl rfl
        | 1, _ => exact Or.inl rfl
        | 2, _ => exact Or.inl rfl
        | 3, _ => exact Or.inl rfl
        | 4, _ => exact Or.inl rfl
        | 5, _ => exact Or.inl rfl
        | 6, _ => exact Or.inr rfl
        | i + 7, hi => exact absurd hi (by simp only [List.length_cons, List.length_nil]; omega)

theorem s_X10_goesIn_0 {d : Nat} {sc : SC} {Q : Int → Mem → Prop} {μ : Mem} {a1 : Int}
    (h : (a1 ≠ 6 → (μ 183 11 ≠ 0 → (μ 183 11 ≠ 0 → Q 0 μ) ∧ (μ 183 11 = 0 → Q 1 μ)) ∧ (μ 183 11 = 0 → CAv mX10_next d sc [(2, 183)] μ (fun μ5 => (μ5 183 11 ≠ 0 → Q 0 μ5) ∧ (μ5 183 11 = 0 → Q 1 μ5)))) ∧ (a1 = 6 → CAv mX10_fails d sc [(2, 183), (0, 4)] μ (fun μ8 => (μ8 183 11 ≠ 0 → (μ8 183 11 ≠ 0 → Q 0 μ8) ∧ (μ8 183 11 = 0 → Q 1 μ8)) ∧ (μ8 183 11 = 0 → CAv mX10_next d sc [(2, 183)] μ8 (fun μ12 => (μ12 183 11 ≠ 0 → Q 0 μ12) ∧ (μ12 183 11 = 0 → Q 1 μ12)))))) :
    WQ mX10_goesIn d sc (ZI sc Q) 0 [(2, 183), (0, a1)] [] μ := by
  refine WP_iload_n dX10_goesIn_0 rfl rfl ?_
  refine WP_bipush dX10_goesIn_1 (by decide +kernel) (by decide) ?_
  refine WQ_icmp_ne (tgt := 11) dX10_goesIn_3 (by decide) (fun c1 => ?_) (fun c1 => ?_)
  · replace h := h.1 c1
    refine WP_aload_n dX10_goesIn_11 rfl rfl ⟨Nat.le_of_ble_eq_true rfl, Nat.le_of_ble_eq_true rfl⟩ ?_
    refine WP_getfield (ci := 10) (j := 11) (n := 49) (t := 0) (x := μ 183 11) dX10_goesIn_12 f_X10_154 k_183 rfl rfl ?_
    refine WQ_ifne (tgt := 22) dX10_goesIn_15 (by decide) (fun c2 => ?_) (fun c2 => ?_)
    · replace h := h.1 c2
      refine WP_aload_n dX10_goesIn_22 rfl rfl ⟨Nat.le_of_ble_eq_true rfl, Nat.le_of_ble_eq_true rfl⟩ ?_
      refine WP_getfield (ci := 10) (j := 11) (n := 49) (t := 0) (x := μ 183 11) dX10_goesIn_23 f_X10_154 k_183 rfl rfl ?_
      refine WQ_ifne (tgt := 33) dX10_goesIn_26 (by decide) (fun c3 => ?_) (fun c3 => ?_)
      · replace h := h.1 c3
        refine WP_iconst dX10_goesIn_33 (by decide) ?_
        exact WQ_zreturn dX10_goesIn_34 rfl ⟨by decide, by decide⟩ h
      · replace h := h.2 c3
        refine WP_iconst dX10_goesIn_29 (by decide) ?_
        refine WP_goto (tgt := 34) dX10_goesIn_30 (by decide) ?_
        exact WQ_zreturn dX10_goesIn_34 rfl ⟨by decide, by decide⟩ h
    · replace h := h.2 c2
      refine WP_aload_n dX10_goesIn_18 rfl rfl ⟨Nat.le_of_ble_eq_true rfl, Nat.le_of_ble_eq_true rfl⟩ ?_
      refine WQ_invVv (v := (2, 183)) (as := []) dX10_goesIn_19 l_X10_163 mw_X10_next mi_X10_next ms_X10_next mo_X10_next (rcv (ci := 10) (n := 49) (r := (RX10, TX10, 49)) k_183 rfl rfl) (Nat.le_of_ble_eq_true rfl) h rfl (fun μ5 h => ?_)
      refine WP_aload_n dX10_goesIn_22 rfl rfl ⟨Nat.le_of_ble_eq_true rfl, Nat.le_of_ble_eq_true rfl⟩ ?_
      refine WP_getfield (ci := 10) (j := 11) (n := 49) (t := 0) (x := μ5 183 11) dX10_goesIn_23 f_X10_154 k_183 rfl rfl ?_
      refine WQ_ifne (tgt := 33) dX10_goesIn_26 (by decide) (fun c6 => ?_) (fun c6 => ?_)
      · replace h := h.1 c6
        refine WP_iconst dX10_goesIn_33 (by decide) ?_
        exact WQ_zreturn dX10_goesIn_34 rfl ⟨by decide, by decide⟩ h
      · replace h := h.2 c6
        refine WP_iconst dX10_goesIn_29 (by decide) ?_
        refine WP_goto (tgt := 34) dX10_goesIn_30 (by decide) ?_
        exact WQ_zreturn dX10_goesIn_34 rfl ⟨by decide, by decide⟩ h
  · replace h := h.2 c1
    refine WP_aload_n dX10_goesIn_6 rfl rfl ⟨Nat.le_of_ble_eq_true rfl, Nat.le_of_ble_eq_true rfl⟩ ?_
    refine WP_iconst dX10_goesIn_7 (by decide) ?_
    refine WQ_invVv (v := (2, 183)) (as := [(0, 4)]) dX10_goesIn_8 l_X10_166 mw_X10_fails mi_X10_fails ms_X10_fails mo_X10_fails (rcv (ci := 10) (n := 49) (r := (RX10, TX10, 49)) k_183 rfl rfl) (Nat.le_of_ble_eq_true rfl) h rfl (fun μ8 h => ?_)
    refine WP_aload_n dX10_goesIn_11 rfl rfl ⟨Nat.le_of_ble_eq_true rfl, Nat.le_of_ble_eq_true rfl⟩ ?_
    refine WP_getfield (ci := 10) (j := 11) (n := 49) (t := 0) (x := μ8 183 11) dX10_goesIn_12 f_X10_154 k_183 rfl rfl ?_
    refine WQ_ifne (tgt := 22) dX10_goesIn_15 (by decide) (fun c9 => ?_) (fun c9 => ?_)
    · replace h := h.1 c9
      refine WP_aload_n dX10_goesIn_22 rfl rfl ⟨Nat.le_of_ble_eq_true rfl, Nat.le_of_ble_eq_true rfl⟩ ?_
      refine WP_getfield (ci := 10) (j := 11) (n := 49) (t := 0) (x := μ8 183 11) dX10_goesIn_23 f_X10_154 k_183 rfl rfl ?_
      refine WQ_ifne (tgt := 33) dX10_goesIn_26 (by decide) (fun c10 => ?_) (fun c10 => ?_)
      · replace h := h.1 c10
        refine WP_iconst dX10_goesIn_33 (by decide) ?_
        exact WQ_zreturn dX10_goesIn_34 rfl ⟨by decide, by decide⟩ h
      · replace h := h.2 c10
        refine WP_iconst dX10_goesIn_29 (by decide) ?_
        refine WP_goto (tgt := 34) dX10_goesIn_30 (by decide) ?_
        exact WQ_zreturn dX10_goesIn_34 rfl ⟨by decide, by decide⟩ h
    · replace h := h.2 c9
      refine WP_aload_n dX10_goesIn_18 rfl rfl ⟨Nat.le_of_ble_eq_true rfl, Nat.le_of_ble_eq_true rfl⟩ ?_
      refine WQ_invVv (v := (2, 183)) (as := []) dX10_goesIn_19 l_X10_163 mw_X10_next mi_X10_next ms_X10_next mo_X10_next (rcv (ci := 10) (n := 49) (r := (RX10, TX10, 49)) k_183 rfl rfl) (Nat.le_of_ble_eq_true rfl) h rfl (fun μ12 h => ?_)
      refine WP_aload_n dX10_goesIn_22 rfl rfl ⟨Nat.le_of_ble_eq_true rfl, Nat.le_of_ble_eq_true rfl⟩ ?_
      refine WP_getfield (ci := 10) (j := 11) (n := 49) (t := 0) (x := μ12 183 11) dX10_goesIn_23 f_X10_154 k_183 rfl rfl ?_
      refine WQ_ifne (tgt := 33) dX10_goesIn_26 (by decide) (fun c13 => ?_) (fun c13 => ?_)
      · replace h := h.1 c13
        refine WP_iconst dX10_goesIn_33 (by decide) ?_
        exact WQ_zreturn dX10_goesIn_34 rfl ⟨by decide, by decide⟩ h
      · replace h := h.2 c13
        refine WP_iconst dX10_goesIn_29 (by decide) ?_
        refine WP_goto (tgt := 34) dX10_goesIn_30 (by decide) ?_
        exact WQ_zreturn dX10_goesIn_34 rfl ⟨by decide, by decide⟩ h

theorem s_X10_hasOneAt_0 {d : Nat} {sc : SC} {Q : Int → Mem → Prop} {μ : Mem} {a1 a2 : Int}
    (h : WQ mX10_hasOneAt d sc (ZI sc Q) 2 [(2, 183), (0, a1), (0, a2), (0, 0)] [] μ) :
    WQ mX10_hasOneAt d sc (ZI sc Q) 0 [(2, 183), (0, a1), (0, a2), (9, 0)] [] μ := by
  refine WP_iconst dX10_hasOneAt_0 (by decide) ?_
  refine WP_istore_n (L' := [(2, 183), (0, a1), (0, a2), (0, 0)]) dX10_hasOneAt_1 rfl (by decide) rfl ?_
  exact h

theorem s_X10_hasOneAt_2 {d : Nat} {sc : SC} {Q : Int → Mem → Prop} {μ : Mem} {x1 x2 x3 : Int}
    (h : (μ 183 36 ≤ x3 → Q 0 μ) ∧ (x3 < μ 183 36 → (0 ≤ x3 ∧ x3 < 640) ∧ (μ 200 x3 ≠ x1 → (-2147483648 ≤ x3 + 1 ∧ x3 + 1 < 2147483648) ∧ ∀ v5 : Int, v5 = x3 + 1 → WQ mX10_hasOneAt d sc (ZI sc Q) 2 [(2, 183), (0, x1), (0, x2), (0, v5)] [] μ) ∧ (μ 200 x3 = x1 → (0 ≤ x3 ∧ x3 < 640) ∧ (μ 201 x3 ≠ x2 → (-2147483648 ≤ x3 + 1 ∧ x3 + 1 < 2147483648) ∧ ∀ v9 : Int, v9 = x3 + 1 → WQ mX10_hasOneAt d sc (ZI sc Q) 2 [(2, 183), (0, x1), (0, x2), (0, v9)] [] μ) ∧ (μ 201 x3 = x2 → Q 1 μ)))) :
    WQ mX10_hasOneAt d sc (ZI sc Q) 2 [(2, 183), (0, x1), (0, x2), (0, x3)] [] μ := by
  refine WP_iload_n dX10_hasOneAt_2 rfl rfl ?_
  refine WP_aload_n dX10_hasOneAt_3 rfl rfl ⟨Nat.le_of_ble_eq_true rfl, Nat.le_of_ble_eq_true rfl⟩ ?_
  refine WP_getfield (ci := 10) (j := 36) (n := 49) (t := 0) (x := μ 183 36) dX10_hasOneAt_4 f_X10_287 k_183 rfl rfl ?_
  refine WQ_icmp_ge (tgt := 38) dX10_hasOneAt_7 (by decide) (fun c1 => ?_) (fun c1 => ?_)
  · replace h := h.1 c1
    refine WP_iconst dX10_hasOneAt_38 (by decide) ?_
    exact WQ_zreturn dX10_hasOneAt_39 rfl ⟨by decide, by decide⟩ h
  · replace h := h.2 c1
    refine WP_aload_n dX10_hasOneAt_10 rfl rfl ⟨Nat.le_of_ble_eq_true rfl, Nat.le_of_ble_eq_true rfl⟩ ?_
    refine WP_getfield (ci := 10) (j := 29) (n := 49) (t := 2) (x := 200) dX10_hasOneAt_11 f_X10_67 k_183 rfl rfl ?_
    refine WP_iload_n dX10_hasOneAt_14 rfl rfl ?_
    obtain ⟨g2, h⟩ := h
    refine WP_iaload (n := 640) dX10_hasOneAt_15 k_200 g2 ?_
    refine WP_iload_n dX10_hasOneAt_16 rfl rfl ?_
    refine WQ_icmp_ne (tgt := 32) dX10_hasOneAt_17 (by decide) (fun c3 => ?_) (fun c3 => ?_)
    · replace h := h.1 c3
      obtain ⟨g4, h⟩ := h
      refine WQ_iinc dX10_hasOneAt_32 rfl (by decide) g4 (fun v5 e5 => ?_)
      refine WP_same (L' := [(2, 183), (0, x1), (0, x2), (0, v5)]) rfl ?_
      replace h := h v5 e5
      refine WP_goto (tgt := 2) dX10_hasOneAt_35 (by decide) ?_
      exact h
    · replace h := h.2 c3
      refine WP_aload_n dX10_hasOneAt_20 rfl rfl ⟨Nat.le_of_ble_eq_true rfl, Nat.le_of_ble_eq_true rfl⟩ ?_
      refine WP_getfield (ci := 10) (j := 30) (n := 49) (t := 2) (x := 201) dX10_hasOneAt_21 f_X10_70 k_183 rfl rfl ?_
      refine WP_iload_n dX10_hasOneAt_24 rfl rfl ?_
      obtain ⟨g6, h⟩ := h
      refine WP_iaload (n := 640) dX10_hasOneAt_25 k_201 g6 ?_
      refine WP_iload_n dX10_hasOneAt_26 rfl rfl ?_
      refine WQ_icmp_ne (tgt := 32) dX10_hasOneAt_27 (by decide) (fun c7 => ?_) (fun c7 => ?_)
      · replace h := h.1 c7
        obtain ⟨g8, h⟩ := h
        refine WQ_iinc dX10_hasOneAt_32 rfl (by decide) g8 (fun v9 e9 => ?_)
        refine WP_same (L' := [(2, 183), (0, x1), (0, x2), (0, v9)]) rfl ?_
        replace h := h v9 e9
        refine WP_goto (tgt := 2) dX10_hasOneAt_35 (by decide) ?_
        exact h
      · replace h := h.2 c7
        refine WP_iconst dX10_hasOneAt_30 (by decide) ?_
        exact WQ_zreturn dX10_hasOneAt_31 rfl ⟨by decide, by decide⟩ h

theorem s_X10_heard_0 {d : Nat} {sc : SC} {Q : Int → Mem → Prop} {μ : Mem} {a1 a2 : Int}
    (h : ∀ μ1, μ1 = mup μ 183 0 0 → CAi mX10_noHeard d sc [(2, 183), (0, a1), (0, a2)] μ1 (fun r2 μ3 => (r2 = 0 → CAi mX10_heardOf d sc [(2, 183), (0, a1), (0, a2), (0, (-1))] μ3 (fun r5 μ6 => Q r5 μ6)) ∧ (r2 ≠ 0 → Q r2 μ3))) :
    WQ mX10_heard d sc (ZI sc Q) 0 [(2, 183), (0, a1), (0, a2), (9, 0)] [] μ := by
  refine WP_aload_n dX10_heard_0 rfl rfl ⟨Nat.le_of_ble_eq_true rfl, Nat.le_of_ble_eq_true rfl⟩ ?_
  refine WP_iconst dX10_heard_1 (by decide) ?_
  refine WQ_put (ci := 10) (j := 0) (n := 49) dX10_heard_2 f_X10_1 k_183 rfl (fun μ1 eμ1 => ?_)
  replace h := h μ1 eμ1
  refine WP_aload_n dX10_heard_5 rfl rfl ⟨Nat.le_of_ble_eq_true rfl, Nat.le_of_ble_eq_true rfl⟩ ?_
  refine WP_iload_n dX10_heard_6 rfl rfl ?_
  refine WP_iload_n dX10_heard_7 rfl rfl ?_
  refine WQ_invVi (v := (2, 183)) (as := [(0, a1), (0, a2)]) dX10_heard_8 l_X10_444 mw_X10_noHeard mi_X10_noHeard ms_X10_noHeard mo_X10_noHeard (rcv (ci := 10) (n := 49) (r := (RX10, TX10, 49)) k_183 rfl rfl) (Nat.le_of_ble_eq_true rfl) h rfl (fun r2 μ3 h => ?_)
  refine WP_istore_n (L' := [(2, 183), (0, a1), (0, a2), (0, r2)]) dX10_heard_11 rfl (by decide) rfl ?_
  refine WP_iload_n dX10_heard_12 rfl rfl ?_
  refine WQ_ifeq (tgt := 20) dX10_heard_13 (by decide) (fun c4 => ?_) (fun c4 => ?_)
  · replace h := h.1 c4
    refine WP_aload_n dX10_heard_20 rfl rfl ⟨Nat.le_of_ble_eq_true rfl, Nat.le_of_ble_eq_true rfl⟩ ?_
    refine WP_iload_n dX10_heard_21 rfl rfl ?_
    refine WP_iload_n dX10_heard_22 rfl rfl ?_
    refine WP_iconst dX10_heard_23 (by decide) ?_
    refine WQ_invVi (v := (2, 183)) (as := [(0, a1), (0, a2), (0, (-1))]) dX10_heard_24 l_X10_447 mw_X10_heardOf mi_X10_heardOf ms_X10_heardOf mo_X10_heardOf (rcv (ci := 10) (n := 49) (r := (RX10, TX10, 49)) k_183 rfl rfl) (Nat.le_of_ble_eq_true rfl) h rfl (fun r5 μ6 h => ?_)
    exact WQ_ireturn dX10_heard_27 rfl h
  · replace h := h.2 c4
    refine WP_iload_n dX10_heard_16 rfl rfl ?_
    refine WP_goto (tgt := 27) dX10_heard_17 (by decide) ?_
    exact WQ_ireturn dX10_heard_27 rfl h

theorem s_X10_heardAt_0 {d : Nat} {sc : SC} {Q : Int → Mem → Prop} {μ : Mem} {a1 a2 a3 : Int}
    (h : ∀ μ1, μ1 = mup μ 183 0 0 → CAi mX10_noHeard d sc [(2, 183), (0, a1), (0, a2)] μ1 (fun r2 μ3 => (r2 = 0 → (0 ≤ a3 → CAi mX10_heardOf d sc [(2, 183), (0, a1), (0, a2), (0, a3)] μ3 (fun r6 μ7 => Q r6 μ7)) ∧ (a3 < 0 → Q (-3) μ3)) ∧ (r2 ≠ 0 → Q r2 μ3))) :
    WQ mX10_heardAt d sc (ZI sc Q) 0 [(2, 183), (0, a1), (0, a2), (0, a3), (9, 0)] [] μ := by
  refine WP_aload_n dX10_heardAt_0 rfl rfl ⟨Nat.le_of_ble_eq_true rfl, Nat.le_of_ble_eq_true rfl⟩ ?_
  refine WP_iconst dX10_heardAt_1 (by decide) ?_
  refine WQ_put (ci := 10) (j := 0) (n := 49) dX10_heardAt_2 f_X10_1 k_183 rfl (fun μ1 eμ1 => ?_)
  replace h := h μ1 eμ1
  refine WP_aload_n dX10_heardAt_5 rfl rfl ⟨Nat.le_of_ble_eq_true rfl, Nat.le_of_ble_eq_true rfl⟩ ?_
  refine WP_iload_n dX10_heardAt_6 rfl rfl ?_
  refine WP_iload_n dX10_heardAt_7 rfl rfl ?_
  refine WQ_invVi (v := (2, 183)) (as := [(0, a1), (0, a2)]) dX10_heardAt_8 l_X10_444 mw_X10_noHeard mi_X10_noHeard ms_X10_noHeard mo_X10_noHeard (rcv (ci := 10) (n := 49) (r := (RX10, TX10, 49)) k_183 rfl rfl) (Nat.le_of_ble_eq_true rfl) h rfl (fun r2 μ3 h => ?_)
  refine WP_istore (L' := [(2, 183), (0, a1), (0, a2), (0, a3), (0, r2)]) dX10_heardAt_11 (by decide) rfl ?_
  refine WP_iload dX10_heardAt_13 rfl ?_
  refine WQ_ifeq (tgt := 21) dX10_heardAt_15 (by decide) (fun c4 => ?_) (fun c4 => ?_)
  · replace h := h.1 c4
    refine WP_iload_n dX10_heardAt_21 rfl rfl ?_
    refine WQ_ifge (tgt := 30) dX10_heardAt_22 (by decide) (fun c5 => ?_) (fun c5 => ?_)
    · replace h := h.1 c5
      refine WP_aload_n dX10_heardAt_30 rfl rfl ⟨Nat.le_of_ble_eq_true rfl, Nat.le_of_ble_eq_true rfl⟩ ?_
      refine WP_iload_n dX10_heardAt_31 rfl rfl ?_
      refine WP_iload_n dX10_heardAt_32 rfl rfl ?_
      refine WP_iload_n dX10_heardAt_33 rfl rfl ?_
      refine WQ_invVi (v := (2, 183)) (as := [(0, a1), (0, a2), (0, a3)]) dX10_heardAt_34 l_X10_447 mw_X10_heardOf mi_X10_heardOf ms_X10_heardOf mo_X10_heardOf (rcv (ci := 10) (n := 49) (r := (RX10, TX10, 49)) k_183 rfl rfl) (Nat.le_of_ble_eq_true rfl) h rfl (fun r6 μ7 h => ?_)
      exact WQ_ireturn dX10_heardAt_37 rfl h
    · replace h := h.2 c5
      refine WP_bipush dX10_heardAt_25 (by decide +kernel) (by decide) ?_
      refine WP_goto (tgt := 37) dX10_heardAt_27 (by decide) ?_
      exact WQ_ireturn dX10_heardAt_37 rfl h
  · replace h := h.2 c4
    refine WP_iload dX10_heardAt_18 rfl ?_
    exact WQ_ireturn dX10_heardAt_20 rfl h

theorem s_X10_heardOf_0 {d : Nat} {sc : SC} {Q : Int → Mem → Prop} {μ : Mem} {a1 a2 a3 : Int}
    (h : (-2147483648 ≤ 64 + a2 ∧ 64 + a2 < 2147483648) ∧ (0 ≤ 64 + a2 ∧ 64 + a2 < 4119) ∧ (∀ v3 : Int, v3 = μ 184 (64 + a2) → WQ mX10_heardOf d sc (ZI sc Q) 20 [(2, 183), (0, a1), (0, a2), (0, a3), (0, v3), (0, (-1)), (0, 0), (0, 0)] [] μ)) :
    WQ mX10_heardOf d sc (ZI sc Q) 0 [(2, 183), (0, a1), (0, a2), (0, a3), (9, 0), (9, 0), (9, 0), (9, 0)] [] μ := by
  refine WP_aload_n dX10_heardOf_0 rfl rfl ⟨Nat.le_of_ble_eq_true rfl, Nat.le_of_ble_eq_true rfl⟩ ?_
  refine WP_getfield (ci := 10) (j := 1) (n := 49) (t := 2) (x := 184) dX10_heardOf_1 f_X10_13 k_183 rfl rfl ?_
  refine WP_bipush dX10_heardOf_4 (by decide +kernel) (by decide) ?_
  refine WP_iload_n dX10_heardOf_6 rfl rfl ?_
  obtain ⟨g1, h⟩ := h
  refine WP_iadd dX10_heardOf_7 g1 ?_
  obtain ⟨g2, h⟩ := h
  refine WP_iaload (n := 4119) dX10_heardOf_8 k_184 g2 ?_
  refine WQ_nm0 (fun v3 e3 => ?_)
  replace h := h v3 e3
  refine WP_istore (L' := [(2, 183), (0, a1), (0, a2), (0, a3), (0, v3), (9, 0), (9, 0), (9, 0)]) dX10_heardOf_9 (by decide) rfl ?_
  refine WP_iconst dX10_heardOf_11 (by decide) ?_
  refine WP_istore (L' := [(2, 183), (0, a1), (0, a2), (0, a3), (0, v3), (0, (-1)), (9, 0), (9, 0)]) dX10_heardOf_12 (by decide) rfl ?_
  refine WP_iconst dX10_heardOf_14 (by decide) ?_
  refine WP_istore (L' := [(2, 183), (0, a1), (0, a2), (0, a3), (0, v3), (0, (-1)), (0, 0), (9, 0)]) dX10_heardOf_15 (by decide) rfl ?_
  refine WP_iconst dX10_heardOf_17 (by decide) ?_
  refine WP_istore (L' := [(2, 183), (0, a1), (0, a2), (0, a3), (0, v3), (0, (-1)), (0, 0), (0, 0)]) dX10_heardOf_18 (by decide) rfl ?_
  exact h

theorem s_X10_heardOf_20 {d : Nat} {sc : SC} {Q : Int → Mem → Prop} {μ : Mem} {x1 x2 x3 x4 x5 x6 x7 : Int}
    (h : CAi mX10_cellMany d sc [(2, 183)] μ (fun r1 μ2 => (r1 ≤ x7 → (-2147483648 ≤ 64 + x2 ∧ 64 + x2 < 2147483648) ∧ (0 ≤ 64 + x2 ∧ 64 + x2 < 4119) ∧ (∀ μ6, μ6 = mup μ2 184 (64 + x2) x4 → (0 ≤ x3 → Q x5 μ6) ∧ (x3 < 0 → Q x6 μ6))) ∧ (x7 < r1 → (-2147483648 ≤ 64 + x2 ∧ 64 + x2 < 2147483648) ∧ (0 ≤ 64 + x2 ∧ 64 + x2 < 4119) ∧ (∀ μ10, μ10 = mup μ2 184 (64 + x2) x7 → CAi mX10_isHeard d sc [(2, 183), (0, x1), (0, x2)] μ10 (fun r11 μ12 => (r11 ≠ 0 → (x6 ≠ x3 → (-2147483648 ≤ x6 + 1 ∧ x6 + 1 < 2147483648) ∧ ∀ v16 : Int, v16 = x6 + 1 → (-2147483648 ≤ x7 + 1 ∧ x7 + 1 < 2147483648) ∧ ∀ v18 : Int, v18 = x7 + 1 → WQ mX10_heardOf d sc (ZI sc Q) 20 [(2, 183), (0, x1), (0, x2), (0, x3), (0, x4), (0, x5), (0, v16), (0, v18)] [] μ12) ∧ (x6 = x3 → (-2147483648 ≤ x6 + 1 ∧ x6 + 1 < 2147483648) ∧ ∀ v20 : Int, v20 = x6 + 1 → (-2147483648 ≤ x7 + 1 ∧ x7 + 1 < 2147483648) ∧ ∀ v22 : Int, v22 = x7 + 1 → WQ mX10_heardOf d sc (ZI sc Q) 20 [(2, 183), (0, x1), (0, x2), (0, x3), (0, x4), (0, x7), (0, v20), (0, v22)] [] μ12)) ∧ (r11 = 0 → (-2147483648 ≤ x7 + 1 ∧ x7 + 1 < 2147483648) ∧ ∀ v24 : Int, v24 = x7 + 1 → WQ mX10_heardOf d sc (ZI sc Q) 20 [(2, 183), (0, x1), (0, x2), (0, x3), (0, x4), (0, x5), (0, x6), (0, v24)] [] μ12)))))) :
    WQ mX10_heardOf d sc (ZI sc Q) 20 [(2, 183), (0, x1), (0, x2), (0, x3), (0, x4), (0, x5), (0, x6), (0, x7)] [] μ := by
  refine WP_iload dX10_heardOf_20 rfl ?_
  refine WP_aload_n dX10_heardOf_22 rfl rfl ⟨Nat.le_of_ble_eq_true rfl, Nat.le_of_ble_eq_true rfl⟩ ?_
  refine WQ_invVi (v := (2, 183)) (as := []) dX10_heardOf_23 l_X10_313 mw_X10_cellMany mi_X10_cellMany ms_X10_cellMany mo_X10_cellMany (rcv (ci := 10) (n := 49) (r := (RX10, TX10, 49)) k_183 rfl rfl) (Nat.le_of_ble_eq_true rfl) h rfl (fun r1 μ2 h => ?_)
  refine WQ_icmp_ge (tgt := 76) dX10_heardOf_26 (by decide) (fun c3 => ?_) (fun c3 => ?_)
  · replace h := h.1 c3
    refine WP_aload_n dX10_heardOf_76 rfl rfl ⟨Nat.le_of_ble_eq_true rfl, Nat.le_of_ble_eq_true rfl⟩ ?_
    refine WP_getfield (ci := 10) (j := 1) (n := 49) (t := 2) (x := 184) dX10_heardOf_77 f_X10_13 k_183 rfl rfl ?_
    refine WP_bipush dX10_heardOf_80 (by decide +kernel) (by decide) ?_
    refine WP_iload_n dX10_heardOf_82 rfl rfl ?_
    obtain ⟨g4, h⟩ := h
    refine WP_iadd dX10_heardOf_83 g4 ?_
    refine WP_iload dX10_heardOf_84 rfl ?_
    obtain ⟨g5, h⟩ := h
    refine WQ_iast (n := 4119) dX10_heardOf_86 k_184 g5 (fun μ6 eμ6 => ?_)
    replace h := h μ6 eμ6
    refine WP_iload_n dX10_heardOf_87 rfl rfl ?_
    refine WQ_ifge (tgt := 96) dX10_heardOf_88 (by decide) (fun c7 => ?_) (fun c7 => ?_)
    · replace h := h.1 c7
      refine WP_iload dX10_heardOf_96 rfl ?_
      exact WQ_ireturn dX10_heardOf_98 rfl h
    · replace h := h.2 c7
      refine WP_iload dX10_heardOf_91 rfl ?_
      refine WP_goto (tgt := 98) dX10_heardOf_93 (by decide) ?_
      exact WQ_ireturn dX10_heardOf_98 rfl h
  · replace h := h.2 c3
    refine WP_aload_n dX10_heardOf_29 rfl rfl ⟨Nat.le_of_ble_eq_true rfl, Nat.le_of_ble_eq_true rfl⟩ ?_
    refine WP_getfield (ci := 10) (j := 1) (n := 49) (t := 2) (x := 184) dX10_heardOf_30 f_X10_13 k_183 rfl rfl ?_
    refine WP_bipush dX10_heardOf_33 (by decide +kernel) (by decide) ?_
    refine WP_iload_n dX10_heardOf_35 rfl rfl ?_
    obtain ⟨g8, h⟩ := h
    refine WP_iadd dX10_heardOf_36 g8 ?_
    refine WP_iload dX10_heardOf_37 rfl ?_
    obtain ⟨g9, h⟩ := h
    refine WQ_iast (n := 4119) dX10_heardOf_39 k_184 g9 (fun μ10 eμ10 => ?_)
    replace h := h μ10 eμ10
    refine WP_aload_n dX10_heardOf_40 rfl rfl ⟨Nat.le_of_ble_eq_true rfl, Nat.le_of_ble_eq_true rfl⟩ ?_
    refine WP_iload_n dX10_heardOf_41 rfl rfl ?_
    refine WP_iload_n dX10_heardOf_42 rfl rfl ?_
    refine WQ_invVi (v := (2, 183)) (as := [(0, x1), (0, x2)]) dX10_heardOf_43 l_X10_441 mw_X10_isHeard mi_X10_isHeard ms_X10_isHeard mo_X10_isHeard (rcv (ci := 10) (n := 49) (r := (RX10, TX10, 49)) k_183 rfl rfl) (Nat.le_of_ble_eq_true rfl) h rfl (fun r11 μ12 h => ?_)
    refine WQ_ifne (tgt := 52) dX10_heardOf_46 (by decide) (fun c13 => ?_) (fun c13 => ?_)
    · replace h := h.1 c13
      refine WP_iload dX10_heardOf_52 rfl ?_
      refine WP_iload_n dX10_heardOf_54 rfl rfl ?_
      refine WQ_icmp_ne (tgt := 63) dX10_heardOf_55 (by decide) (fun c14 => ?_) (fun c14 => ?_)
      · replace h := h.1 c14
        refine WP_iload dX10_heardOf_63 rfl ?_
        refine WP_istore (L' := [(2, 183), (0, x1), (0, x2), (0, x3), (0, x4), (0, x5), (0, x6), (0, x7)]) dX10_heardOf_65 (by decide) rfl ?_
        obtain ⟨g15, h⟩ := h
        refine WQ_iinc dX10_heardOf_67 rfl (by decide) g15 (fun v16 e16 => ?_)
        refine WP_same (L' := [(2, 183), (0, x1), (0, x2), (0, x3), (0, x4), (0, x5), (0, v16), (0, x7)]) rfl ?_
        replace h := h v16 e16
        obtain ⟨g17, h⟩ := h
        refine WQ_iinc dX10_heardOf_70 rfl (by decide) g17 (fun v18 e18 => ?_)
        refine WP_same (L' := [(2, 183), (0, x1), (0, x2), (0, x3), (0, x4), (0, x5), (0, v16), (0, v18)]) rfl ?_
        replace h := h v18 e18
        refine WP_goto (tgt := 20) dX10_heardOf_73 (by decide) ?_
        exact h
      · replace h := h.2 c14
        refine WP_iload dX10_heardOf_58 rfl ?_
        refine WP_goto (tgt := 65) dX10_heardOf_60 (by decide) ?_
        refine WP_istore (L' := [(2, 183), (0, x1), (0, x2), (0, x3), (0, x4), (0, x7), (0, x6), (0, x7)]) dX10_heardOf_65 (by decide) rfl ?_
        obtain ⟨g19, h⟩ := h
        refine WQ_iinc dX10_heardOf_67 rfl (by decide) g19 (fun v20 e20 => ?_)
        refine WP_same (L' := [(2, 183), (0, x1), (0, x2), (0, x3), (0, x4), (0, x7), (0, v20), (0, x7)]) rfl ?_
        replace h := h v20 e20
        obtain ⟨g21, h⟩ := h
        refine WQ_iinc dX10_heardOf_70 rfl (by decide) g21 (fun v22 e22 => ?_)
        refine WP_same (L' := [(2, 183), (0, x1), (0, x2), (0, x3), (0, x4), (0, x7), (0, v20), (0, v22)]) rfl ?_
        replace h := h v22 e22
        refine WP_goto (tgt := 20) dX10_heardOf_73 (by decide) ?_
        exact h
    · replace h := h.2 c13
      refine WP_goto (tgt := 70) dX10_heardOf_49 (by decide) ?_
      obtain ⟨g23, h⟩ := h
      refine WQ_iinc dX10_heardOf_70 rfl (by decide) g23 (fun v24 e24 => ?_)
      refine WP_same (L' := [(2, 183), (0, x1), (0, x2), (0, x3), (0, x4), (0, x5), (0, x6), (0, v24)]) rfl ?_
      replace h := h v24 e24
      refine WP_goto (tgt := 20) dX10_heardOf_73 (by decide) ?_
      exact h

theorem s_X10_hiccup_0 {d : Nat} {sc : SC} {Q : Int → Mem → Prop} {μ : Mem} {a1 a2 : Int}
    (h : ∀ μ1, μ1 = mup μ 183 0 0 → CAi mX10_within d sc [(1, a2), (1, 0), (1, 4)] μ1 (fun r2 μ3 => (r2 ≠ 0 → (0 ≤ a1 → CAv mX10_laysDay d sc [(2, 183)] μ3 (fun μ7 => (a1 < μ7 183 36 → (a2 = 0 → (0 ≤ a1 ∧ a1 < 640) ∧ Q (μ7 200 a1) μ7) ∧ (a2 = 1 → (0 ≤ a1 ∧ a1 < 640) ∧ Q (μ7 201 a1) μ7) ∧ (a2 = 2 → (0 ≤ a1 ∧ a1 < 640) ∧ Q (μ7 202 a1) μ7) ∧ (a2 = 3 → (0 ≤ a1 ∧ a1 < 640) ∧ (0 ≤ a1 ∧ a1 < 640) ∧ CAi mX10_pitchOf d sc [(2, 183), (0, μ7 202 a1), (0, μ7 200 a1)] μ7 (fun r15 μ16 => Q r15 μ16)) ∧ ((a2 ≠ 0 ∧ a2 ≠ 1 ∧ a2 ≠ 2 ∧ a2 ≠ 3) → (0 ≤ a1 ∧ a1 < 640) ∧ (-2147483648 ≤ 6 * (μ7 202 a1) ∧ 6 * (μ7 202 a1) < 2147483648) ∧ (0 ≤ a1 ∧ a1 < 640) ∧ (-2147483648 ≤ (6 * (μ7 202 a1)) + (μ7 200 a1) ∧ (6 * (μ7 202 a1)) + (μ7 200 a1) < 2147483648) ∧ (0 ≤ (6 * (μ7 202 a1)) + (μ7 200 a1) ∧ (6 * (μ7 202 a1)) + (μ7 200 a1) < 36) ∧ Q (μ7 194 ((6 * (μ7 202 a1)) + (μ7 200 a1))) μ7)) ∧ (μ7 183 36 ≤ a1 → Q (-1) μ7))) ∧ (a1 < 0 → Q (-3) μ3)) ∧ (r2 = 0 → Q (-2) μ3))) :
    WQ mX10_hiccup d sc (ZI sc Q) 0 [(2, 183), (0, a1), (0, a2)] [] μ := by
  refine WP_aload_n dX10_hiccup_0 rfl rfl ⟨Nat.le_of_ble_eq_true rfl, Nat.le_of_ble_eq_true rfl⟩ ?_
  refine WP_iconst dX10_hiccup_1 (by decide) ?_
  refine WQ_put (ci := 10) (j := 0) (n := 49) dX10_hiccup_2 f_X10_1 k_183 rfl (fun μ1 eμ1 => ?_)
  replace h := h μ1 eμ1
  refine WP_iload_n dX10_hiccup_5 rfl rfl ?_
  refine WP_i2l dX10_hiccup_6 ?_
  refine WP_lconst dX10_hiccup_7 rfl ?_
  refine WP_ldc2 dX10_hiccup_8 c_X10_306 (by decide) ?_
  refine WQ_invSi (as := [(1, a2), (1, 0), (1, 4)]) dX10_hiccup_11 l_X10_170 mw_X10_within mt_X10_within mo_X10_within (Nat.le_of_ble_eq_true rfl) h rfl (fun r2 μ3 h => ?_)
  refine WQ_ifne (tgt := 20) dX10_hiccup_14 (by decide) (fun c4 => ?_) (fun c4 => ?_)
  · replace h := h.1 c4
    refine WP_iload_n dX10_hiccup_20 rfl rfl ?_
    refine WQ_ifge (tgt := 27) dX10_hiccup_21 (by decide) (fun c5 => ?_) (fun c5 => ?_)
    · replace h := h.1 c5
      refine WP_aload_n dX10_hiccup_27 rfl rfl ⟨Nat.le_of_ble_eq_true rfl, Nat.le_of_ble_eq_true rfl⟩ ?_
      refine WQ_invVv (v := (2, 183)) (as := []) dX10_hiccup_28 l_X10_308 mw_X10_laysDay mi_X10_laysDay ms_X10_laysDay mo_X10_laysDay (rcv (ci := 10) (n := 49) (r := (RX10, TX10, 49)) k_183 rfl rfl) (Nat.le_of_ble_eq_true rfl) h rfl (fun μ7 h => ?_)
      refine WP_iload_n dX10_hiccup_31 rfl rfl ?_
      refine WP_aload_n dX10_hiccup_32 rfl rfl ⟨Nat.le_of_ble_eq_true rfl, Nat.le_of_ble_eq_true rfl⟩ ?_
      refine WP_getfield (ci := 10) (j := 36) (n := 49) (t := 0) (x := μ7 183 36) dX10_hiccup_33 f_X10_287 k_183 rfl rfl ?_
      refine WQ_icmp_lt (tgt := 41) dX10_hiccup_36 (by decide) (fun c8 => ?_) (fun c8 => ?_)
      · replace h := h.1 c8
        refine WP_iload_n dX10_hiccup_41 rfl rfl ?_
        have hD : (a2 ≠ 0 ∧ a2 ≠ 1 ∧ a2 ≠ 2 ∧ a2 ≠ 3) → WQ mX10_hiccup d sc (ZI sc Q) 110 [(2, 183), (0, a1), (0, a2)] [] μ7 := by
          intro c9
          replace h := h.2.2.2.2 c9
          refine WP_aload_n dX10_hiccup_110 rfl rfl ⟨Nat.le_of_ble_eq_true rfl, Nat.le_of_ble_eq_true rfl⟩ ?_
          refine WP_getfield (ci := 10) (j := 23) (n := 49) (t := 2) (x := 194) dX10_hiccup_111 f_X10_49 k_183 rfl rfl ?_
          refine WP_bipush dX10_hiccup_114 (by decide +kernel) (by decide) ?_
          refine WP_aload_n dX10_hiccup_116 rfl rfl ⟨Nat.le_of_ble_eq_true rfl, Nat.le_of_ble_eq_true rfl⟩ ?_
          refine WP_getfield (ci := 10) (j := 31) (n := 49) (t := 2) (x := 202) dX10_hiccup_117 f_X10_73 k_183 rfl rfl ?_
          refine WP_iload_n dX10_hiccup_120 rfl rfl ?_
          obtain ⟨g17, h⟩ := h
          refine WP_iaload (n := 640) dX10_hiccup_121 k_202 g17 ?_
          obtain ⟨g18, h⟩ := h
          refine WP_imul dX10_hiccup_122 g18 ?_
          refine WP_aload_n dX10_hiccup_123 rfl rfl ⟨Nat.le_of_ble_eq_true rfl, Nat.le_of_ble_eq_true rfl⟩ ?_
          refine WP_getfield (ci := 10) (j := 29) (n := 49) (t := 2) (x := 200) dX10_hiccup_124 f_X10_67 k_183 rfl rfl ?_
          refine WP_iload_n dX10_hiccup_127 rfl rfl ?_
          obtain ⟨g19, h⟩ := h
          refine WP_iaload (n := 640) dX10_hiccup_128 k_200 g19 ?_
          obtain ⟨g20, h⟩ := h
          refine WP_iadd dX10_hiccup_129 g20 ?_
          obtain ⟨g21, h⟩ := h
          refine WP_iaload (n := 36) dX10_hiccup_130 k_194 g21 ?_
          exact WQ_ireturn dX10_hiccup_131 rfl h
        rcases (show (a2 < 0 ∨ 3 < a2) ∨ a2 = 0 ∨ a2 = 1 ∨ a2 = 2 ∨ a2 = 3 by omega) with c9 | c9 | c9 | c9 | c9
        · exact WP_tableOut (tgt := 110) dX10_hiccup_42 c9 (by decide) (hD (by omega))
        · refine WP_tableIn (tgt := 72) dX10_hiccup_42 (by omega) (by omega) (by rw [c9]; rfl) (by decide) ?_
          replace h := h.1 c9
          refine WP_aload_n dX10_hiccup_72 rfl rfl ⟨Nat.le_of_ble_eq_true rfl, Nat.le_of_ble_eq_true rfl⟩ ?_
          refine WP_getfield (ci := 10) (j := 29) (n := 49) (t := 2) (x := 200) dX10_hiccup_73 f_X10_67 k_183 rfl rfl ?_
          refine WP_iload_n dX10_hiccup_76 rfl rfl ?_
          obtain ⟨g10, h⟩ := h
          refine WP_iaload (n := 640) dX10_hiccup_77 k_200 g10 ?_
          exact WQ_ireturn dX10_hiccup_78 rfl h
        · refine WP_tableIn (tgt := 79) dX10_hiccup_42 (by omega) (by omega) (by rw [c9]; rfl) (by decide) ?_
          replace h := h.2.1 c9
          refine WP_aload_n dX10_hiccup_79 rfl rfl ⟨Nat.le_of_ble_eq_true rfl, Nat.le_of_ble_eq_true rfl⟩ ?_
          refine WP_getfield (ci := 10) (j := 30) (n := 49) (t := 2) (x := 201) dX10_hiccup_80 f_X10_70 k_183 rfl rfl ?_
          refine WP_iload_n dX10_hiccup_83 rfl rfl ?_
          obtain ⟨g11, h⟩ := h
          refine WP_iaload (n := 640) dX10_hiccup_84 k_201 g11 ?_
          exact WQ_ireturn dX10_hiccup_85 rfl h
        · refine WP_tableIn (tgt := 86) dX10_hiccup_42 (by omega) (by omega) (by rw [c9]; rfl) (by decide) ?_
          replace h := h.2.2.1 c9
          refine WP_aload_n dX10_hiccup_86 rfl rfl ⟨Nat.le_of_ble_eq_true rfl, Nat.le_of_ble_eq_true rfl⟩ ?_
          refine WP_getfield (ci := 10) (j := 31) (n := 49) (t := 2) (x := 202) dX10_hiccup_87 f_X10_73 k_183 rfl rfl ?_
          refine WP_iload_n dX10_hiccup_90 rfl rfl ?_
          obtain ⟨g12, h⟩ := h
          refine WP_iaload (n := 640) dX10_hiccup_91 k_202 g12 ?_
          exact WQ_ireturn dX10_hiccup_92 rfl h
        · refine WP_tableIn (tgt := 93) dX10_hiccup_42 (by omega) (by omega) (by rw [c9]; rfl) (by decide) ?_
          replace h := h.2.2.2.1 c9
          refine WP_aload_n dX10_hiccup_93 rfl rfl ⟨Nat.le_of_ble_eq_true rfl, Nat.le_of_ble_eq_true rfl⟩ ?_
          refine WP_aload_n dX10_hiccup_94 rfl rfl ⟨Nat.le_of_ble_eq_true rfl, Nat.le_of_ble_eq_true rfl⟩ ?_
          refine WP_getfield (ci := 10) (j := 31) (n := 49) (t := 2) (x := 202) dX10_hiccup_95 f_X10_73 k_183 rfl rfl ?_
          refine WP_iload_n dX10_hiccup_98 rfl rfl ?_
          obtain ⟨g13, h⟩ := h
          refine WP_iaload (n := 640) dX10_hiccup_99 k_202 g13 ?_
          refine WP_aload_n dX10_hiccup_100 rfl rfl ⟨Nat.le_of_ble_eq_true rfl, Nat.le_of_ble_eq_true rfl⟩ ?_
          refine WP_getfield (ci := 10) (j := 29) (n := 49) (t := 2) (x := 200) dX10_hiccup_101 f_X10_67 k_183 rfl rfl ?_
          refine WP_iload_n dX10_hiccup_104 rfl rfl ?_
          obtain ⟨g14, h⟩ := h
          refine WP_iaload (n := 640) dX10_hiccup_105 k_200 g14 ?_
          refine WQ_invVi (v := (2, 183)) (as := [(0, μ7 202 a1), (0, μ7 200 a1)]) dX10_hiccup_106 l_X10_266 mw_X10_pitchOf mi_X10_pitchOf ms_X10_pitchOf mo_X10_pitchOf (rcv (ci := 10) (n := 49) (r := (RX10, TX10, 49)) k_183 rfl rfl) (Nat.le_of_ble_eq_true rfl) h rfl (fun r15 μ16 h => ?_)
          exact WQ_ireturn dX10_hiccup_109 rfl h
      · replace h := h.2 c8
        refine WP_iconst dX10_hiccup_39 (by decide) ?_
        exact WQ_ireturn dX10_hiccup_40 rfl h
    · replace h := h.2 c5
      refine WP_bipush dX10_hiccup_24 (by decide +kernel) (by decide) ?_
      exact WQ_ireturn dX10_hiccup_26 rfl h
  · replace h := h.2 c4
    refine WP_bipush dX10_hiccup_17 (by decide +kernel) (by decide) ?_
    exact WQ_ireturn dX10_hiccup_19 rfl h

theorem s_X10_hiccups_0 {d : Nat} {sc : SC} {Q : Int → Mem → Prop} {μ : Mem} {a1 : Int}
    (h : ∀ μ1, μ1 = mup μ 183 0 0 → (a1 = (-1) → CAv mX10_laysDay d sc [(2, 183)] μ1 (fun μ4 => (a1 ≠ (-1) → CAi mX10_hiccupsOf d sc [(2, 183), (0, a1)] μ4 (fun r6 μ7 => Q r6 μ7)) ∧ (a1 = (-1) → Q (μ4 183 36) μ4))) ∧ (a1 ≠ (-1) → CAi mX10_isPerson d sc [(2, 183), (1, a1)] μ1 (fun r8 μ9 => (r8 ≠ 0 → CAv mX10_laysDay d sc [(2, 183)] μ9 (fun μ12 => (a1 ≠ (-1) → CAi mX10_hiccupsOf d sc [(2, 183), (0, a1)] μ12 (fun r14 μ15 => Q r14 μ15)) ∧ (a1 = (-1) → Q (μ12 183 36) μ12))) ∧ (r8 = 0 → Q (-2) μ9)))) :
    WQ mX10_hiccups d sc (ZI sc Q) 0 [(2, 183), (0, a1)] [] μ := by
  refine WP_aload_n dX10_hiccups_0 rfl rfl ⟨Nat.le_of_ble_eq_true rfl, Nat.le_of_ble_eq_true rfl⟩ ?_
  refine WP_iconst dX10_hiccups_1 (by decide) ?_
  refine WQ_put (ci := 10) (j := 0) (n := 49) dX10_hiccups_2 f_X10_1 k_183 rfl (fun μ1 eμ1 => ?_)
  replace h := h μ1 eμ1
  refine WP_iload_n dX10_hiccups_5 rfl rfl ?_
  refine WP_iconst dX10_hiccups_6 (by decide) ?_
  refine WQ_icmp_eq (tgt := 22) dX10_hiccups_7 (by decide) (fun c2 => ?_) (fun c2 => ?_)
  · replace h := h.1 c2
    refine WP_aload_n dX10_hiccups_22 rfl rfl ⟨Nat.le_of_ble_eq_true rfl, Nat.le_of_ble_eq_true rfl⟩ ?_
    refine WQ_invVv (v := (2, 183)) (as := []) dX10_hiccups_23 l_X10_308 mw_X10_laysDay mi_X10_laysDay ms_X10_laysDay mo_X10_laysDay (rcv (ci := 10) (n := 49) (r := (RX10, TX10, 49)) k_183 rfl rfl) (Nat.le_of_ble_eq_true rfl) h rfl (fun μ4 h => ?_)
    refine WP_iload_n dX10_hiccups_26 rfl rfl ?_
    refine WP_iconst dX10_hiccups_27 (by decide) ?_
    refine WQ_icmp_ne (tgt := 38) dX10_hiccups_28 (by decide) (fun c5 => ?_) (fun c5 => ?_)
    · replace h := h.1 c5
      refine WP_aload_n dX10_hiccups_38 rfl rfl ⟨Nat.le_of_ble_eq_true rfl, Nat.le_of_ble_eq_true rfl⟩ ?_
      refine WP_iload_n dX10_hiccups_39 rfl rfl ?_
      refine WQ_invVi (v := (2, 183)) (as := [(0, a1)]) dX10_hiccups_40 l_X10_396 mw_X10_hiccupsOf mi_X10_hiccupsOf ms_X10_hiccupsOf mo_X10_hiccupsOf (rcv (ci := 10) (n := 49) (r := (RX10, TX10, 49)) k_183 rfl rfl) (Nat.le_of_ble_eq_true rfl) h rfl (fun r6 μ7 h => ?_)
      exact WQ_ireturn dX10_hiccups_43 rfl h
    · replace h := h.2 c5
      refine WP_aload_n dX10_hiccups_31 rfl rfl ⟨Nat.le_of_ble_eq_true rfl, Nat.le_of_ble_eq_true rfl⟩ ?_
      refine WP_getfield (ci := 10) (j := 36) (n := 49) (t := 0) (x := μ4 183 36) dX10_hiccups_32 f_X10_287 k_183 rfl rfl ?_
      refine WP_goto (tgt := 43) dX10_hiccups_35 (by decide) ?_
      exact WQ_ireturn dX10_hiccups_43 rfl h
  · replace h := h.2 c2
    refine WP_aload_n dX10_hiccups_10 rfl rfl ⟨Nat.le_of_ble_eq_true rfl, Nat.le_of_ble_eq_true rfl⟩ ?_
    refine WP_iload_n dX10_hiccups_11 rfl rfl ?_
    refine WP_i2l dX10_hiccups_12 ?_
    refine WQ_invVi (v := (2, 183)) (as := [(1, a1)]) dX10_hiccups_13 l_X10_235 mw_X10_isPerson mi_X10_isPerson ms_X10_isPerson mo_X10_isPerson (rcv (ci := 10) (n := 49) (r := (RX10, TX10, 49)) k_183 rfl rfl) (Nat.le_of_ble_eq_true rfl) h rfl (fun r8 μ9 h => ?_)
    refine WQ_ifne (tgt := 22) dX10_hiccups_16 (by decide) (fun c10 => ?_) (fun c10 => ?_)
    · replace h := h.1 c10
      refine WP_aload_n dX10_hiccups_22 rfl rfl ⟨Nat.le_of_ble_eq_true rfl, Nat.le_of_ble_eq_true rfl⟩ ?_
      refine WQ_invVv (v := (2, 183)) (as := []) dX10_hiccups_23 l_X10_308 mw_X10_laysDay mi_X10_laysDay ms_X10_laysDay mo_X10_laysDay (rcv (ci := 10) (n := 49) (r := (RX10, TX10, 49)) k_183 rfl rfl) (Nat.le_of_ble_eq_true rfl) h rfl (fun μ12 h => ?_)
      refine WP_iload_n dX10_hiccups_26 rfl rfl ?_
      refine WP_iconst dX10_hiccups_27 (by decide) ?_
      refine WQ_icmp_ne (tgt := 38) dX10_hiccups_28 (by decide) (fun c13 => ?_) (fun c13 => ?_)
      · replace h := h.1 c13
        refine WP_aload_n dX10_hiccups_38 rfl rfl ⟨Nat.le_of_ble_eq_true rfl, Nat.le_of_ble_eq_true rfl⟩ ?_
        refine WP_iload_n dX10_hiccups_39 rfl rfl ?_
        refine WQ_invVi (v := (2, 183)) (as := [(0, a1)]) dX10_hiccups_40 l_X10_396 mw_X10_hiccupsOf mi_X10_hiccupsOf ms_X10_hiccupsOf mo_X10_hiccupsOf (rcv (ci := 10) (n := 49) (r := (RX10, TX10, 49)) k_183 rfl rfl) (Nat.le_of_ble_eq_true rfl) h rfl (fun r14 μ15 h => ?_)
        exact WQ_ireturn dX10_hiccups_43 rfl h
      · replace h := h.2 c13
        refine WP_aload_n dX10_hiccups_31 rfl rfl ⟨Nat.le_of_ble_eq_true rfl, Nat.le_of_ble_eq_true rfl⟩ ?_
        refine WP_getfield (ci := 10) (j := 36) (n := 49) (t := 0) (x := μ12 183 36) dX10_hiccups_32 f_X10_287 k_183 rfl rfl ?_
        refine WP_goto (tgt := 43) dX10_hiccups_35 (by decide) ?_
        exact WQ_ireturn dX10_hiccups_43 rfl h
    · replace h := h.2 c10
      refine WP_bipush dX10_hiccups_19 (by decide +kernel) (by decide) ?_
      exact WQ_ireturn dX10_hiccups_21 rfl h

theorem s_X10_hiccupsOf_0 {d : Nat} {sc : SC} {Q : Int → Mem → Prop} {μ : Mem} {a1 : Int}
    (h : WQ mX10_hiccupsOf d sc (ZI sc Q) 4 [(2, 183), (0, a1), (0, 0), (0, 0)] [] μ) :
    WQ mX10_hiccupsOf d sc (ZI sc Q) 0 [(2, 183), (0, a1), (9, 0), (9, 0)] [] μ := by
  refine WP_iconst dX10_hiccupsOf_0 (by decide) ?_
  refine WP_istore_n (L' := [(2, 183), (0, a1), (0, 0), (9, 0)]) dX10_hiccupsOf_1 rfl (by decide) rfl ?_
  refine WP_iconst dX10_hiccupsOf_2 (by decide) ?_
  refine WP_istore_n (L' := [(2, 183), (0, a1), (0, 0), (0, 0)]) dX10_hiccupsOf_3 rfl (by decide) rfl ?_
  exact h

theorem s_X10_hiccupsOf_4 {d : Nat} {sc : SC} {Q : Int → Mem → Prop} {μ : Mem} {x1 x2 x3 : Int}
    (h : (μ 183 36 ≤ x3 → Q x2 μ) ∧ (x3 < μ 183 36 → (0 ≤ x3 ∧ x3 < 640) ∧ (μ 200 x3 ≠ x1 → (-2147483648 ≤ x2 + 0 ∧ x2 + 0 < 2147483648) ∧ (∀ v5 : Int, v5 = x2 + 0 → (-2147483648 ≤ x3 + 1 ∧ x3 + 1 < 2147483648) ∧ ∀ v7 : Int, v7 = x3 + 1 → WQ mX10_hiccupsOf d sc (ZI sc Q) 4 [(2, 183), (0, x1), (0, v5), (0, v7)] [] μ)) ∧ (μ 200 x3 = x1 → (-2147483648 ≤ x2 + 1 ∧ x2 + 1 < 2147483648) ∧ (∀ v9 : Int, v9 = x2 + 1 → (-2147483648 ≤ x3 + 1 ∧ x3 + 1 < 2147483648) ∧ ∀ v11 : Int, v11 = x3 + 1 → WQ mX10_hiccupsOf d sc (ZI sc Q) 4 [(2, 183), (0, x1), (0, v9), (0, v11)] [] μ)))) :
    WQ mX10_hiccupsOf d sc (ZI sc Q) 4 [(2, 183), (0, x1), (0, x2), (0, x3)] [] μ := by
  refine WP_iload_n dX10_hiccupsOf_4 rfl rfl ?_
  refine WP_aload_n dX10_hiccupsOf_5 rfl rfl ⟨Nat.le_of_ble_eq_true rfl, Nat.le_of_ble_eq_true rfl⟩ ?_
  refine WP_getfield (ci := 10) (j := 36) (n := 49) (t := 0) (x := μ 183 36) dX10_hiccupsOf_6 f_X10_287 k_183 rfl rfl ?_
  refine WQ_icmp_ge (tgt := 36) dX10_hiccupsOf_9 (by decide) (fun c1 => ?_) (fun c1 => ?_)
  · replace h := h.1 c1
    refine WP_iload_n dX10_hiccupsOf_36 rfl rfl ?_
    exact WQ_ireturn dX10_hiccupsOf_37 rfl h
  · replace h := h.2 c1
    refine WP_iload_n dX10_hiccupsOf_12 rfl rfl ?_
    refine WP_aload_n dX10_hiccupsOf_13 rfl rfl ⟨Nat.le_of_ble_eq_true rfl, Nat.le_of_ble_eq_true rfl⟩ ?_
    refine WP_getfield (ci := 10) (j := 29) (n := 49) (t := 2) (x := 200) dX10_hiccupsOf_14 f_X10_67 k_183 rfl rfl ?_
    refine WP_iload_n dX10_hiccupsOf_17 rfl rfl ?_
    obtain ⟨g2, h⟩ := h
    refine WP_iaload (n := 640) dX10_hiccupsOf_18 k_200 g2 ?_
    refine WP_iload_n dX10_hiccupsOf_19 rfl rfl ?_
    refine WQ_icmp_ne (tgt := 27) dX10_hiccupsOf_20 (by decide) (fun c3 => ?_) (fun c3 => ?_)
    · replace h := h.1 c3
      refine WP_iconst dX10_hiccupsOf_27 (by decide) ?_
      obtain ⟨g4, h⟩ := h
      refine WP_iadd dX10_hiccupsOf_28 g4 ?_
      refine WQ_nm0 (fun v5 e5 => ?_)
      replace h := h v5 e5
      refine WP_istore_n (L' := [(2, 183), (0, x1), (0, v5), (0, x3)]) dX10_hiccupsOf_29 rfl (by decide) rfl ?_
      obtain ⟨g6, h⟩ := h
      refine WQ_iinc dX10_hiccupsOf_30 rfl (by decide) g6 (fun v7 e7 => ?_)
      refine WP_same (L' := [(2, 183), (0, x1), (0, v5), (0, v7)]) rfl ?_
      replace h := h v7 e7
      refine WP_goto (tgt := 4) dX10_hiccupsOf_33 (by decide) ?_
      exact h
    · replace h := h.2 c3
      refine WP_iconst dX10_hiccupsOf_23 (by decide) ?_
      refine WP_goto (tgt := 28) dX10_hiccupsOf_24 (by decide) ?_
      obtain ⟨g8, h⟩ := h
      refine WP_iadd dX10_hiccupsOf_28 g8 ?_
      refine WQ_nm0 (fun v9 e9 => ?_)
      replace h := h v9 e9
      refine WP_istore_n (L' := [(2, 183), (0, x1), (0, v9), (0, x3)]) dX10_hiccupsOf_29 rfl (by decide) rfl ?_
      obtain ⟨g10, h⟩ := h
      refine WQ_iinc dX10_hiccupsOf_30 rfl (by decide) g10 (fun v11 e11 => ?_)
      refine WP_same (L' := [(2, 183), (0, x1), (0, v9), (0, v11)]) rfl ?_
      replace h := h v11 e11
      refine WP_goto (tgt := 4) dX10_hiccupsOf_33 (by decide) ?_
      exact h

theorem s_X10_hill_0 {d : Nat} {sc : SC} {Q : Int → Mem → Prop} {μ : Mem} {a1 : Int}
    (h : ∀ μ1, μ1 = mup μ 183 0 0 → CAi mX10_within d sc [(1, a1), (1, 0), (1, μ1 183 5)] μ1 (fun r2 μ3 => (r2 ≠ 0 → ∀ μ5, μ5 = mup μ3 183 8 a1 → ∀ μ6, μ6 = mup μ5 183 5 0 → ∀ μ7, μ7 = mup μ6 183 7 0 → ∀ μ8, μ8 = mup μ7 183 11 0 → CAv mX10_plain d sc [(2, 187)] μ8 (fun μ10 => CAv mX10_next d sc [(2, 183)] μ10 (fun μ12 => CAi mX10_eats d sc [(2, 183), (0, 0)] μ12 (fun r13 μ14 => (r13 ≠ 0 → CAi mX10_takes d sc [(2, 183), (0, 1), (0, 8)] μ14 (fun r16 μ17 => ∀ μ19, μ19 = mup μ17 187 1 r16 → CAi mX10_takes d sc [(2, 183), (0, 1), (0, 8)] μ19 (fun r20 μ21 => ∀ μ23, μ23 = mup μ21 187 2 r20 → CAv mX10_closes d sc [(2, 183)] μ23 (fun μ25 => WQ mX10_hill d sc (ZI sc Q) 96 [(2, 183), (9, 0), (9, 0)] [] μ25)))) ∧ (r13 = 0 → CAv mX10_fails d sc [(2, 183), (0, 2)] μ14 (fun μ27 => CAi mX10_takes d sc [(2, 183), (0, 1), (0, 8)] μ27 (fun r28 μ29 => ∀ μ31, μ31 = mup μ29 187 1 r28 → CAi mX10_takes d sc [(2, 183), (0, 1), (0, 8)] μ31 (fun r32 μ33 => ∀ μ35, μ35 = mup μ33 187 2 r32 → CAv mX10_closes d sc [(2, 183)] μ35 (fun μ37 => WQ mX10_hill d sc (ZI sc Q) 96 [(2, 183), (9, 0), (9, 0)] [] μ37))))))))) ∧ (r2 = 0 → Q (-3) μ3))) :
    WQ mX10_hill d sc (ZI sc Q) 0 [(2, 183), (0, a1), (9, 0)] [] μ := by
  refine WP_aload_n dX10_hill_0 rfl rfl ⟨Nat.le_of_ble_eq_true rfl, Nat.le_of_ble_eq_true rfl⟩ ?_
  refine WP_iconst dX10_hill_1 (by decide) ?_
  refine WQ_put (ci := 10) (j := 0) (n := 49) dX10_hill_2 f_X10_1 k_183 rfl (fun μ1 eμ1 => ?_)
  replace h := h μ1 eμ1
  refine WP_iload_n dX10_hill_5 rfl rfl ?_
  refine WP_i2l dX10_hill_6 ?_
  refine WP_lconst dX10_hill_7 rfl ?_
  refine WP_aload_n dX10_hill_8 rfl rfl ⟨Nat.le_of_ble_eq_true rfl, Nat.le_of_ble_eq_true rfl⟩ ?_
  refine WP_getfield (ci := 10) (j := 5) (n := 49) (t := 0) (x := μ1 183 5) dX10_hill_9 f_X10_108 k_183 rfl rfl ?_
  refine WP_i2l dX10_hill_12 ?_
  refine WQ_invSi (as := [(1, a1), (1, 0), (1, μ1 183 5)]) dX10_hill_13 l_X10_170 mw_X10_within mt_X10_within mo_X10_within (Nat.le_of_ble_eq_true rfl) h rfl (fun r2 μ3 h => ?_)
  refine WQ_ifne (tgt := 22) dX10_hill_16 (by decide) (fun c4 => ?_) (fun c4 => ?_)
  · replace h := h.1 c4
    refine WP_aload_n dX10_hill_22 rfl rfl ⟨Nat.le_of_ble_eq_true rfl, Nat.le_of_ble_eq_true rfl⟩ ?_
    refine WP_iload_n dX10_hill_23 rfl rfl ?_
    refine WQ_put (ci := 10) (j := 8) (n := 49) dX10_hill_24 f_X10_111 k_183 rfl (fun μ5 eμ5 => ?_)
    replace h := h μ5 eμ5
    refine WP_aload_n dX10_hill_27 rfl rfl ⟨Nat.le_of_ble_eq_true rfl, Nat.le_of_ble_eq_true rfl⟩ ?_
    refine WP_iconst dX10_hill_28 (by decide) ?_
    refine WQ_put (ci := 10) (j := 5) (n := 49) dX10_hill_29 f_X10_108 k_183 rfl (fun μ6 eμ6 => ?_)
    replace h := h μ6 eμ6
    refine WP_aload_n dX10_hill_32 rfl rfl ⟨Nat.le_of_ble_eq_true rfl, Nat.le_of_ble_eq_true rfl⟩ ?_
    refine WP_iconst dX10_hill_33 (by decide) ?_
    refine WQ_put (ci := 10) (j := 7) (n := 49) dX10_hill_34 f_X10_129 k_183 rfl (fun μ7 eμ7 => ?_)
    replace h := h μ7 eμ7
    refine WP_aload_n dX10_hill_37 rfl rfl ⟨Nat.le_of_ble_eq_true rfl, Nat.le_of_ble_eq_true rfl⟩ ?_
    refine WP_iconst dX10_hill_38 (by decide) ?_
    refine WQ_put (ci := 10) (j := 11) (n := 49) dX10_hill_39 f_X10_154 k_183 rfl (fun μ8 eμ8 => ?_)
    replace h := h μ8 eμ8
    refine WP_aload_n dX10_hill_42 rfl rfl ⟨Nat.le_of_ble_eq_true rfl, Nat.le_of_ble_eq_true rfl⟩ ?_
    refine WP_getfield (ci := 10) (j := 4) (n := 49) (t := 2) (x := 187) dX10_hill_43 f_X10_24 k_183 rfl rfl ?_
    refine WQ_invSv (as := [(2, 187)]) dX10_hill_46 l_X10_104 mw_X10_plain mt_X10_plain mo_X10_plain (Nat.le_of_ble_eq_true rfl) h rfl (fun μ10 h => ?_)
    refine WP_aload_n dX10_hill_49 rfl rfl ⟨Nat.le_of_ble_eq_true rfl, Nat.le_of_ble_eq_true rfl⟩ ?_
    refine WQ_invVv (v := (2, 183)) (as := []) dX10_hill_50 l_X10_163 mw_X10_next mi_X10_next ms_X10_next mo_X10_next (rcv (ci := 10) (n := 49) (r := (RX10, TX10, 49)) k_183 rfl rfl) (Nat.le_of_ble_eq_true rfl) h rfl (fun μ12 h => ?_)
    refine WP_aload_n dX10_hill_53 rfl rfl ⟨Nat.le_of_ble_eq_true rfl, Nat.le_of_ble_eq_true rfl⟩ ?_
    refine WP_iconst dX10_hill_54 (by decide) ?_
    refine WQ_invVi (v := (2, 183)) (as := [(0, 0)]) dX10_hill_55 l_X10_189 mw_X10_eats mi_X10_eats ms_X10_eats mo_X10_eats (rcv (ci := 10) (n := 49) (r := (RX10, TX10, 49)) k_183 rfl rfl) (Nat.le_of_ble_eq_true rfl) h rfl (fun r13 μ14 h => ?_)
    refine WQ_ifne (tgt := 66) dX10_hill_58 (by decide) (fun c15 => ?_) (fun c15 => ?_)
    · replace h := h.1 c15
      refine WP_aload_n dX10_hill_66 rfl rfl ⟨Nat.le_of_ble_eq_true rfl, Nat.le_of_ble_eq_true rfl⟩ ?_
      refine WP_getfield (ci := 10) (j := 4) (n := 49) (t := 2) (x := 187) dX10_hill_67 f_X10_24 k_183 rfl rfl ?_
      refine WP_iconst dX10_hill_70 (by decide) ?_
      refine WP_aload_n dX10_hill_71 rfl rfl ⟨Nat.le_of_ble_eq_true rfl, Nat.le_of_ble_eq_true rfl⟩ ?_
      refine WP_iconst dX10_hill_72 (by decide) ?_
      refine WP_bipush dX10_hill_73 (by decide +kernel) (by decide) ?_
      refine WQ_invVi (v := (2, 183)) (as := [(0, 1), (0, 8)]) dX10_hill_75 l_X10_210 mw_X10_takes mi_X10_takes ms_X10_takes mo_X10_takes (rcv (ci := 10) (n := 49) (r := (RX10, TX10, 49)) k_183 rfl rfl) (Nat.le_of_ble_eq_true rfl) h rfl (fun r16 μ17 h => ?_)
      refine WQ_iast (n := 1373) dX10_hill_78 k_187 ⟨by decide, by decide⟩ (fun μ19 eμ19 => ?_)
      replace h := h μ19 eμ19
      refine WP_aload_n dX10_hill_79 rfl rfl ⟨Nat.le_of_ble_eq_true rfl, Nat.le_of_ble_eq_true rfl⟩ ?_
      refine WP_getfield (ci := 10) (j := 4) (n := 49) (t := 2) (x := 187) dX10_hill_80 f_X10_24 k_183 rfl rfl ?_
      refine WP_iconst dX10_hill_83 (by decide) ?_
      refine WP_aload_n dX10_hill_84 rfl rfl ⟨Nat.le_of_ble_eq_true rfl, Nat.le_of_ble_eq_true rfl⟩ ?_
      refine WP_iconst dX10_hill_85 (by decide) ?_
      refine WP_bipush dX10_hill_86 (by decide +kernel) (by decide) ?_
      refine WQ_invVi (v := (2, 183)) (as := [(0, 1), (0, 8)]) dX10_hill_88 l_X10_210 mw_X10_takes mi_X10_takes ms_X10_takes mo_X10_takes (rcv (ci := 10) (n := 49) (r := (RX10, TX10, 49)) k_183 rfl rfl) (Nat.le_of_ble_eq_true rfl) h rfl (fun r20 μ21 h => ?_)
      refine WQ_iast (n := 1373) dX10_hill_91 k_187 ⟨by decide, by decide⟩ (fun μ23 eμ23 => ?_)
      replace h := h μ23 eμ23
      refine WP_aload_n dX10_hill_92 rfl rfl ⟨Nat.le_of_ble_eq_true rfl, Nat.le_of_ble_eq_true rfl⟩ ?_
      refine WQ_invVv (v := (2, 183)) (as := []) dX10_hill_93 l_X10_226 mw_X10_closes mi_X10_closes ms_X10_closes mo_X10_closes (rcv (ci := 10) (n := 49) (r := (RX10, TX10, 49)) k_183 rfl rfl) (Nat.le_of_ble_eq_true rfl) h rfl (fun μ25 h => ?_)
      refine WP_lforget (L' := [(2, 183), (9, 0), (9, 0)]) rfl (fun i hi => ?_) h
      match i, hi with
      | 0, _ => exact Or.inl rfl
      | 1, _ => exact Or.inr rfl
      | 2, _ => exact Or.inl rfl
      | i + 3, hi => exact absurd hi (by simp only [List.length_cons, List.length_nil]; omega)
    · replace h := h.2 c15
      refine WP_aload_n dX10_hill_61 rfl rfl ⟨Nat.le_of_ble_eq_true rfl, Nat.le_of_ble_eq_true rfl⟩ ?_
      refine WP_iconst dX10_hill_62 (by decide) ?_
      refine WQ_invVv (v := (2, 183)) (as := [(0, 2)]) dX10_hill_63 l_X10_166 mw_X10_fails mi_X10_fails ms_X10_fails mo_X10_fails (rcv (ci := 10) (n := 49) (r := (RX10, TX10, 49)) k_183 rfl rfl) (Nat.le_of_ble_eq_true rfl) h rfl (fun μ27 h => ?_)
      refine WP_aload_n dX10_hill_66 rfl rfl ⟨Nat.le_of_ble_eq_true rfl, Nat.le_of_ble_eq_true rfl⟩ ?_
      refine WP_getfield (ci := 10) (j := 4) (n := 49) (t := 2) (x := 187) dX10_hill_67 f_X10_24 k_183 rfl rfl ?_
      refine WP_iconst dX10_hill_70 (by decide) ?_
      refine WP_aload_n dX10_hill_71 rfl rfl ⟨Nat.le_of_ble_eq_true rfl, Nat.le_of_ble_eq_true rfl⟩ ?_
      refine WP_iconst dX10_hill_72 (by decide) ?_
      refine WP_bipush dX10_hill_73 (by decide +kernel) (by decide) ?_
      refine WQ_invVi (v := (2, 183)) (as := [(0, 1), (0, 8)]) dX10_hill_75 l_X10_210 mw_X10_takes mi_X10_takes ms_X10_takes mo_X10_takes (rcv (ci := 10) (n := 49) (r := (RX10, TX10, 49)) k_183 rfl rfl) (Nat.le_of_ble_eq_true rfl) h rfl (fun r28 μ29 h => ?_)
      refine WQ_iast (n := 1373) dX10_hill_78 k_187 ⟨by decide, by decide⟩ (fun μ31 eμ31 => ?_)
      replace h := h μ31 eμ31
      refine WP_aload_n dX10_hill_79 rfl rfl ⟨Nat.le_of_ble_eq_true rfl, Nat.le_of_ble_eq_true rfl⟩ ?_
      refine WP_getfield (ci := 10) (j := 4) (n := 49) (t := 2) (x := 187) dX10_hill_80 f_X10_24 k_183 rfl rfl ?_
      refine WP_iconst dX10_hill_83 (by decide) ?_
      refine WP_aload_n dX10_hill_84 rfl rfl ⟨Nat.le_of_ble_eq_true rfl, Nat.le_of_ble_eq_true rfl⟩ ?_
      refine WP_iconst dX10_hill_85 (by decide) ?_
      refine WP_bipush dX10_hill_86 (by decide +kernel) (by decide) ?_
      refine WQ_invVi (v := (2, 183)) (as := [(0, 1), (0, 8)]) dX10_hill_88 l_X10_210 mw_X10_takes mi_X10_takes ms_X10_takes mo_X10_takes (rcv (ci := 10) (n := 49) (r := (RX10, TX10, 49)) k_183 rfl rfl) (Nat.le_of_ble_eq_true rfl) h rfl (fun r32 μ33 h => ?_)
      refine WQ_iast (n := 1373) dX10_hill_91 k_187 ⟨by decide, by decide⟩ (fun μ35 eμ35 => ?_)
      replace h := h μ35 eμ35
      refine WP_aload_n dX10_hill_92 rfl rfl ⟨Nat.le_of_ble_eq_true rfl, Nat.le_of_ble_eq_true rfl⟩ ?_
      refine WQ_invVv (v := (2, 183)) (as := []) dX10_hill_93 l_X10_226 mw_X10_closes mi_X10_closes ms_X10_closes mo_X10_closes (rcv (ci := 10) (n := 49) (r := (RX10, TX10, 49)) k_183 rfl rfl) (Nat.le_of_ble_eq_true rfl) h rfl (fun μ37 h => ?_)
      refine WP_lforget (L' := [(2, 183), (9, 0), (9, 0)]) rfl (fun i hi => ?_) h
      match i, hi with
      | 0, _ => exact Or.inl rfl
      | 1, _ => exact Or.inr rfl
      | 2, _ => exact Or.inl rfl
      | i + 3, hi => exact absurd hi (by simp only [List.length_cons, List.length_nil]; omega)
  · replace h := h.2 c4
    refine WP_bipush dX10_hill_19 (by decide +kernel) (by decide) ?_
    exact WQ_ireturn dX10_hill_21 rfl h

theorem s_X10_hill_96 {d : Nat} {sc : SC} {Q : Int → Mem → Prop} {μ : Mem}
    (h : (μ 183 11 ≠ 0 → ∀ μ2, μ2 = mup μ 183 13 (μ 183 11) → (μ2 183 11 ≠ 0 → ∀ μ4, μ4 = mup μ2 183 14 (μ2 183 12) → (μ4 183 11 = 0 → WQ mX10_hill d sc (ZI sc Q) 167 [(2, 183), (9, 0), (0, 0)] [] μ4) ∧ (μ4 183 11 ≠ 0 → (-2147483648 ≤ (-30) - (μ4 183 11) ∧ (-30) - (μ4 183 11) < 2147483648) ∧ Q ((-30) - (μ4 183 11)) μ4)) ∧ (μ2 183 11 = 0 → ∀ μ7, μ7 = mup μ2 183 14 (-1) → (μ7 183 11 = 0 → WQ mX10_hill d sc (ZI sc Q) 167 [(2, 183), (9, 0), (0, 0)] [] μ7) ∧ (μ7 183 11 ≠ 0 → (-2147483648 ≤ (-30) - (μ7 183 11) ∧ (-30) - (μ7 183 11) < 2147483648) ∧ Q ((-30) - (μ7 183 11)) μ7))) ∧ (μ 183 11 = 0 → (μ 183 9 = 26 → ∀ μ11, μ11 = mup μ 183 13 (μ 183 11) → (μ11 183 11 ≠ 0 → ∀ μ13, μ13 = mup μ11 183 14 (μ11 183 12) → (μ13 183 11 = 0 → WQ mX10_hill d sc (ZI sc Q) 167 [(2, 183), (9, 0), (0, 0)] [] μ13) ∧ (μ13 183 11 ≠ 0 → (-2147483648 ≤ (-30) - (μ13 183 11) ∧ (-30) - (μ13 183 11) < 2147483648) ∧ Q ((-30) - (μ13 183 11)) μ13)) ∧ (μ11 183 11 = 0 → ∀ μ16, μ16 = mup μ11 183 14 (-1) → (μ16 183 11 = 0 → WQ mX10_hill d sc (ZI sc Q) 167 [(2, 183), (9, 0), (0, 0)] [] μ16) ∧ (μ16 183 11 ≠ 0 → (-2147483648 ≤ (-30) - (μ16 183 11) ∧ (-30) - (μ16 183 11) < 2147483648) ∧ Q ((-30) - (μ16 183 11)) μ16))) ∧ (μ 183 9 ≠ 26 → CAv mX10_readLine d sc [(2, 183)] μ (fun μ20 => CAv mX10_closes d sc [(2, 183)] μ20 (fun μ22 => WQ mX10_hill d sc (ZI sc Q) 96 [(2, 183), (9, 0), (9, 0)] [] μ22))))) :
    WQ mX10_hill d sc (ZI sc Q) 96 [(2, 183), (9, 0), (9, 0)] [] μ := by
  refine WP_aload_n dX10_hill_96 rfl rfl ⟨Nat.le_of_ble_eq_true rfl, Nat.le_of_ble_eq_true rfl⟩ ?_
  refine WP_getfield (ci := 10) (j := 11) (n := 49) (t := 0) (x := μ 183 11) dX10_hill_97 f_X10_154 k_183 rfl rfl ?_
  refine WQ_ifne (tgt := 123) dX10_hill_100 (by decide) (fun c1 => ?_) (fun c1 => ?_)
  · replace h := h.1 c1
    refine WP_aload_n dX10_hill_123 rfl rfl ⟨Nat.le_of_ble_eq_true rfl, Nat.le_of_ble_eq_true rfl⟩ ?_
    refine WP_aload_n dX10_hill_124 rfl rfl ⟨Nat.le_of_ble_eq_true rfl, Nat.le_of_ble_eq_true rfl⟩ ?_
    refine WP_getfield (ci := 10) (j := 11) (n := 49) (t := 0) (x := μ 183 11) dX10_hill_125 f_X10_154 k_183 rfl rfl ?_
    refine WQ_put (ci := 10) (j := 13) (n := 49) dX10_hill_128 f_X10_232 k_183 rfl (fun μ2 eμ2 => ?_)
    replace h := h μ2 eμ2
    refine WP_aload_n dX10_hill_131 rfl rfl ⟨Nat.le_of_ble_eq_true rfl, Nat.le_of_ble_eq_true rfl⟩ ?_
    refine WP_aload_n dX10_hill_132 rfl rfl ⟨Nat.le_of_ble_eq_true rfl, Nat.le_of_ble_eq_true rfl⟩ ?_
    refine WP_getfield (ci := 10) (j := 11) (n := 49) (t := 0) (x := μ2 183 11) dX10_hill_133 f_X10_154 k_183 rfl rfl ?_
    refine WQ_ifne (tgt := 143) dX10_hill_136 (by decide) (fun c3 => ?_) (fun c3 => ?_)
    · replace h := h.1 c3
      refine WP_aload_n dX10_hill_143 rfl rfl ⟨Nat.le_of_ble_eq_true rfl, Nat.le_of_ble_eq_true rfl⟩ ?_
      refine WP_getfield (ci := 10) (j := 12) (n := 49) (t := 0) (x := μ2 183 12) dX10_hill_144 f_X10_157 k_183 rfl rfl ?_
      refine WQ_put (ci := 10) (j := 14) (n := 49) dX10_hill_147 f_X10_27 k_183 rfl (fun μ4 eμ4 => ?_)
      replace h := h μ4 eμ4
      refine WP_aload_n dX10_hill_150 rfl rfl ⟨Nat.le_of_ble_eq_true rfl, Nat.le_of_ble_eq_true rfl⟩ ?_
      refine WP_getfield (ci := 10) (j := 11) (n := 49) (t := 0) (x := μ4 183 11) dX10_hill_151 f_X10_154 k_183 rfl rfl ?_
      refine WQ_ifeq (tgt := 165) dX10_hill_154 (by decide) (fun c5 => ?_) (fun c5 => ?_)
      · replace h := h.1 c5
        refine WP_iconst dX10_hill_165 (by decide) ?_
        refine WP_istore_n (L' := [(2, 183), (9, 0), (0, 0)]) dX10_hill_166 rfl (by decide) rfl ?_
        exact h
      · replace h := h.2 c5
        refine WP_bipush dX10_hill_157 (by decide +kernel) (by decide) ?_
        refine WP_aload_n dX10_hill_159 rfl rfl ⟨Nat.le_of_ble_eq_true rfl, Nat.le_of_ble_eq_true rfl⟩ ?_
        refine WP_getfield (ci := 10) (j := 11) (n := 49) (t := 0) (x := μ4 183 11) dX10_hill_160 f_X10_154 k_183 rfl rfl ?_
        obtain ⟨g6, h⟩ := h
        refine WP_isub dX10_hill_163 g6 ?_
        exact WQ_ireturn dX10_hill_164 rfl h
    · replace h := h.2 c3
      refine WP_iconst dX10_hill_139 (by decide) ?_
      refine WP_goto (tgt := 147) dX10_hill_140 (by decide) ?_
      refine WQ_put (ci := 10) (j := 14) (n := 49) dX10_hill_147 f_X10_27 k_183 rfl (fun μ7 eμ7 => ?_)
      replace h := h μ7 eμ7
      refine WP_aload_n dX10_hill_150 rfl rfl ⟨Nat.le_of_ble_eq_true rfl, Nat.le_of_ble_eq_true rfl⟩ ?_
      refine WP_getfield (ci := 10) (j := 11) (n := 49) (t := 0) (x := μ7 183 11) dX10_hill_151 f_X10_154 k_183 rfl rfl ?_
      refine WQ_ifeq (tgt := 165) dX10_hill_154 (by decide) (fun c8 => ?_) (fun c8 => ?_)
      · replace h := h.1 c8
        refine WP_iconst dX10_hill_165 (by decide) ?_
        refine WP_istore_n (L' := [(2, 183), (9, 0), (0, 0)]) dX10_hill_166 rfl (by decide) rfl ?_
        exact h
      · replace h := h.2 c8
        refine WP_bipush dX10_hill_157 (by decide +kernel) (by decide) ?_
        refine WP_aload_n dX10_hill_159 rfl rfl ⟨Nat.le_of_ble_eq_true rfl, Nat.le_of_ble_eq_true rfl⟩ ?_
        refine WP_getfield (ci := 10) (j := 11) (n := 49) (t := 0) (x := μ7 183 11) dX10_hill_160 f_X10_154 k_183 rfl rfl ?_
        obtain ⟨g9, h⟩ := h
        refine WP_isub dX10_hill_163 g9 ?_
        exact WQ_ireturn dX10_hill_164 rfl h
  · replace h := h.2 c1
    refine WP_aload_n dX10_hill_103 rfl rfl ⟨Nat.le_of_ble_eq_true rfl, Nat.le_of_ble_eq_true rfl⟩ ?_
    refine WP_getfield (ci := 10) (j := 9) (n := 49) (t := 0) (x := μ 183 9) dX10_hill_104 f_X10_136 k_183 rfl rfl ?_
    refine WP_bipush dX10_hill_107 (by decide +kernel) (by decide) ?_
    refine WQ_icmp_eq (tgt := 123) dX10_hill_109 (by decide) (fun c10 => ?_) (fun c10 => ?_)
    · replace h := h.1 c10
      refine WP_aload_n dX10_hill_123 rfl rfl ⟨Nat.le_of_ble_eq_true rfl, Nat.le_of_ble_eq_true rfl⟩ ?_
      refine WP_aload_n dX10_hill_124 rfl rfl ⟨Nat.le_of_ble_eq_true rfl, Nat.le_of_ble_eq_true rfl⟩ ?_
      refine WP_getfield (ci := 10) (j := 11) (n := 49) (t := 0) (x := μ 183 11) dX10_hill_125 f_X10_154 k_183 rfl rfl ?_
      refine WQ_put (ci := 10) (j := 13) (n := 49) dX10_hill_128 f_X10_232 k_183 rfl (fun μ11 eμ11 => ?_)
      replace h := h μ11 eμ11
      refine WP_aload_n dX10_hill_131 rfl rfl ⟨Nat.le_of_ble_eq_true rfl, Nat.le_of_ble_eq_true rfl⟩ ?_
      refine WP_aload_n dX10_hill_132 rfl rfl ⟨Nat.le_of_ble_eq_true rfl, Nat.le_of_ble_eq_true rfl⟩ ?_
      refine WP_getfield (ci := 10) (j := 11) (n := 49) (t := 0) (x := μ11 183 11) dX10_hill_133 f_X10_154 k_183 rfl rfl ?_
      refine WQ_ifne (tgt := 143) dX10_hill_136 (by decide) (fun c12 => ?_) (fun c12 => ?_)
      · replace h := h.1 c12
        refine WP_aload_n dX10_hill_143 rfl rfl ⟨Nat.le_of_ble_eq_true rfl, Nat.le_of_ble_eq_true rfl⟩ ?_
        refine WP_getfield (ci := 10) (j := 12) (n := 49) (t := 0) (x := μ11 183 12) dX10_hill_144 f_X10_157 k_183 rfl rfl ?_
        refine WQ_put (ci := 10) (j := 14) (n := 49) dX10_hill_147 f_X10_27 k_183 rfl (fun μ13 eμ13 => ?_)
        replace h := h μ13 eμ13
        refine WP_aload_n dX10_hill_150 rfl rfl ⟨Nat.le_of_ble_eq_true rfl, Nat.le_of_ble_eq_true rfl⟩ ?_
        refine WP_getfield (ci := 10) (j := 11) (n := 49) (t := 0) (x := μ13 183 11) dX10_hill_151 f_X10_154 k_183 rfl rfl ?_
        refine WQ_ifeq (tgt := 165) dX10_hill_154 (by decide) (fun c14 => ?_) (fun c14 => ?_)
        · replace h := h.1 c14
          refine WP_iconst dX10_hill_165 (by decide) ?_
          refine WP_istore_n (L' := [(2, 183), (9, 0), (0, 0)]) dX10_hill_166 rfl (by decide) rfl ?_
          exact h
        · replace h := h.2 c14
          refine WP_bipush dX10_hill_157 (by decide +kernel) (by decide) ?_
          refine WP_aload_n dX10_hill_159 rfl rfl ⟨Nat.le_of_ble_eq_true rfl, Nat.le_of_ble_eq_true rfl⟩ ?_
          refine WP_getfield (ci := 10) (j := 11) (n := 49) (t := 0) (x := μ13 183 11) dX10_hill_160 f_X10_154 k_183 rfl rfl ?_
          obtain ⟨g15, h⟩ := h
          refine WP_isub dX10_hill_163 g15 ?_
          exact WQ_ireturn dX10_hill_164 rfl h
      · replace h := h.2 c12
        refine WP_iconst dX10_hill_139 (by decide) ?_
        refine WP_goto (tgt := 147) dX10_hill_140 (by decide) ?_
        refine WQ_put (ci := 10) (j := 14) (n := 49) dX10_hill_147 f_X10_27 k_183 rfl (fun μ16 eμ16 => ?_)
        replace h := h μ16 eμ16
        refine WP_aload_n dX10_hill_150 rfl rfl ⟨Nat.le_of_ble_eq_true rfl, Nat.le_of_ble_eq_true rfl⟩ ?_
        refine WP_getfield (ci := 10) (j := 11) (n := 49) (t := 0) (x := μ16 183 11) dX10_hill_151 f_X10_154 k_183 rfl rfl ?_
        refine WQ_ifeq (tgt := 165) dX10_hill_154 (by decide) (fun c17 => ?_) (fun c17 => ?_)
        · replace h := h.1 c17
          refine WP_iconst dX10_hill_165 (by decide) ?_
          refine WP_istore_n (L' := [(2, 183), (9, 0), (0, 0)]) dX10_hill_166 rfl (by decide) rfl ?_
          exact h
        · replace h := h.2 c17
          refine WP_bipush dX10_hill_157 (by decide +kernel) (by decide) ?_
          refine WP_aload_n dX10_hill_159 rfl rfl ⟨Nat.le_of_ble_eq_true rfl, Nat.le_of_ble_eq_true rfl⟩ ?_
          refine WP_getfield (ci := 10) (j := 11) (n := 49) (t := 0) (x := μ16 183 11) dX10_hill_160 f_X10_154 k_183 rfl rfl ?_
          obtain ⟨g18, h⟩ := h
          refine WP_isub dX10_hill_163 g18 ?_
          exact WQ_ireturn dX10_hill_164 rfl h
    · replace h := h.2 c10
      refine WP_aload_n dX10_hill_112 rfl rfl ⟨Nat.le_of_ble_eq_true rfl, Nat.le_of_ble_eq_true rfl⟩ ?_
      refine WQ_invVv (v := (2, 183)) (as := []) dX10_hill_113 l_X10_229 mw_X10_readLine mi_X10_readLine ms_X10_readLine mo_X10_readLine (rcv (ci := 10) (n := 49) (r := (RX10, TX10, 49)) k_183 rfl rfl) (Nat.le_of_ble_eq_true rfl) h rfl (fun μ20 h => ?_)
      refine WP_aload_n dX10_hill_116 rfl rfl ⟨Nat.le_of_ble_eq_true rfl, Nat.le_of_ble_eq_true rfl⟩ ?_
      refine WQ_invVv (v := (2, 183)) (as := []) dX10_hill_117 l_X10_226 mw_X10_closes mi_X10_closes ms_X10_closes mo_X10_closes (rcv (ci := 10) (n := 49) (r := (RX10, TX10, 49)) k_183 rfl rfl) (Nat.le_of_ble_eq_true rfl) h rfl (fun μ22 h => ?_)
      refine WP_goto (tgt := 96) dX10_hill_120 (by decide) ?_
      exact h

theorem s_X10_hill_167 {d : Nat} {sc : SC} {Q : Int → Mem → Prop} {μ : Mem} {x2 : Int}
    (h : (1373 ≤ x2 → Q (μ 184 0) μ) ∧ (x2 < 1373 → (0 ≤ x2 ∧ x2 < 1373) ∧ (0 ≤ x2 ∧ x2 < 4119) ∧ (∀ μ5, μ5 = mup μ 184 x2 (μ 187 x2) → (-2147483648 ≤ x2 + 1 ∧ x2 + 1 < 2147483648) ∧ ∀ v7 : Int, v7 = x2 + 1 → WQ mX10_hill d sc (ZI sc Q) 167 [(2, 183), (9, 0), (0, v7)] [] μ5))) :
    WQ mX10_hill d sc (ZI sc Q) 167 [(2, 183), (9, 0), (0, x2)] [] μ := by
  refine WP_iload_n dX10_hill_167 rfl rfl ?_
  refine WP_sipush dX10_hill_168 (by decide +kernel) (by decide) ?_
  refine WQ_icmp_ge (tgt := 192) dX10_hill_171 (by decide) (fun c1 => ?_) (fun c1 => ?_)
  · replace h := h.1 c1
    refine WP_aload_n dX10_hill_192 rfl rfl ⟨Nat.le_of_ble_eq_true rfl, Nat.le_of_ble_eq_true rfl⟩ ?_
    refine WP_getfield (ci := 10) (j := 1) (n := 49) (t := 2) (x := 184) dX10_hill_193 f_X10_13 k_183 rfl rfl ?_
    refine WP_iconst dX10_hill_196 (by decide) ?_
    refine WP_iaload (n := 4119) dX10_hill_197 k_184 ⟨by decide, by decide⟩ ?_
    exact WQ_ireturn dX10_hill_198 rfl h
  · replace h := h.2 c1
    refine WP_aload_n dX10_hill_174 rfl rfl ⟨Nat.le_of_ble_eq_true rfl, Nat.le_of_ble_eq_true rfl⟩ ?_
    refine WP_getfield (ci := 10) (j := 1) (n := 49) (t := 2) (x := 184) dX10_hill_175 f_X10_13 k_183 rfl rfl ?_
    refine WP_iload_n dX10_hill_178 rfl rfl ?_
    refine WP_aload_n dX10_hill_179 rfl rfl ⟨Nat.le_of_ble_eq_true rfl, Nat.le_of_ble_eq_true rfl⟩ ?_
    refine WP_getfield (ci := 10) (j := 4) (n := 49) (t := 2) (x := 187) dX10_hill_180 f_X10_24 k_183 rfl rfl ?_
    refine WP_iload_n dX10_hill_183 rfl rfl ?_
    obtain ⟨g3, h⟩ := h
    refine WP_iaload (n := 1373) dX10_hill_184 k_187 g3 ?_
    obtain ⟨g4, h⟩ := h
    refine WQ_iast (n := 4119) dX10_hill_185 k_184 g4 (fun μ5 eμ5 => ?_)
    replace h := h μ5 eμ5
    obtain ⟨g6, h⟩ := h
    refine WQ_iinc dX10_hill_186 rfl (by decide) g6 (fun v7 e7 => ?_)
    refine WP_same (L' := [(2, 183), (9, 0), (0, v7)]) rfl ?_
    replace h := h v7 e7
    refine WP_goto (tgt := 167) dX10_hill_189 (by decide) ?_
    exact h

theorem s_X10_image_0 {d : Nat} {sc : SC} {Q : Int → Mem → Prop} {μ : Mem} {a1 : Int}
    (h : ∀ μ1, μ1 = mup μ 183 0 0 → CAi mX10_within d sc [(1, a1), (1, 0), (1, 1)] μ1 (fun r2 μ3 => (r2 ≠ 0 → WQ mX10_image d sc (ZI sc Q) 20 [(2, 183), (0, a1), (0, 0)] [] μ3) ∧ (r2 = 0 → Q (-2) μ3))) :
    WQ mX10_image d sc (ZI sc Q) 0 [(2, 183), (0, a1), (9, 0)] [] μ := by
  refine WP_aload_n dX10_image_0 rfl rfl ⟨Nat.le_of_ble_eq_true rfl, Nat.le_of_ble_eq_true rfl⟩ ?_
  refine WP_iconst dX10_image_1 (by decide) ?_
  refine WQ_put (ci := 10) (j := 0) (n := 49) dX10_image_2 f_X10_1 k_183 rfl (fun μ1 eμ1 => ?_)
  replace h := h μ1 eμ1
  refine WP_iload_n dX10_image_5 rfl rfl ?_
  refine WP_i2l dX10_image_6 ?_
  refine WP_lconst dX10_image_7 rfl ?_
  refine WP_lconst dX10_image_8 rfl ?_
  refine WQ_invSi (as := [(1, a1), (1, 0), (1, 1)]) dX10_image_9 l_X10_170 mw_X10_within mt_X10_within mo_X10_within (Nat.le_of_ble_eq_true rfl) h rfl (fun r2 μ3 h => ?_)
  refine WQ_ifne (tgt := 18) dX10_image_12 (by decide) (fun c4 => ?_) (fun c4 => ?_)
  · replace h := h.1 c4
    refine WP_iconst dX10_image_18 (by decide) ?_
    refine WP_istore_n (L' := [(2, 183), (0, a1), (0, 0)]) dX10_image_19 rfl (by decide) rfl ?_
    exact h
  · replace h := h.2 c4
    refine WP_bipush dX10_image_15 (by decide +kernel) (by decide) ?_
    exact WQ_ireturn dX10_image_17 rfl h

theorem s_X10_image_20 {d : Nat} {sc : SC} {Q : Int → Mem → Prop} {μ : Mem} {x1 x2 : Int}
    (h : (1373 ≤ x2 → (0 ≤ x1 ∧ x1 < 2) ∧ (∀ μ3, μ3 = mup μ 185 x1 1 → Q 0 μ3)) ∧ (x2 < 1373 → (-2147483648 ≤ x1 + 1 ∧ x1 + 1 < 2147483648) ∧ (-2147483648 ≤ 1373 * (x1 + 1) ∧ 1373 * (x1 + 1) < 2147483648) ∧ (-2147483648 ≤ (1373 * (x1 + 1)) + x2 ∧ (1373 * (x1 + 1)) + x2 < 2147483648) ∧ (0 ≤ x2 ∧ x2 < 4119) ∧ (0 ≤ (1373 * (x1 + 1)) + x2 ∧ (1373 * (x1 + 1)) + x2 < 4119) ∧ (∀ μ9, μ9 = mup μ 184 ((1373 * (x1 + 1)) + x2) (μ 184 x2) → (-2147483648 ≤ x2 + 1 ∧ x2 + 1 < 2147483648) ∧ ∀ v11 : Int, v11 = x2 + 1 → WQ mX10_image d sc (ZI sc Q) 20 [(2, 183), (0, x1), (0, v11)] [] μ9))) :
    WQ mX10_image d sc (ZI sc Q) 20 [(2, 183), (0, x1), (0, x2)] [] μ := by
  refine WP_iload_n dX10_image_20 rfl rfl ?_
  refine WP_sipush dX10_image_21 (by decide +kernel) (by decide) ?_
  refine WQ_icmp_ge (tgt := 53) dX10_image_24 (by decide) (fun c1 => ?_) (fun c1 => ?_)
  · replace h := h.1 c1
    refine WP_aload_n dX10_image_53 rfl rfl ⟨Nat.le_of_ble_eq_true rfl, Nat.le_of_ble_eq_true rfl⟩ ?_
    refine WP_getfield (ci := 10) (j := 2) (n := 49) (t := 2) (x := 185) dX10_image_54 f_X10_17 k_183 rfl rfl ?_
    refine WP_iload_n dX10_image_57 rfl rfl ?_
    refine WP_iconst dX10_image_58 (by decide) ?_
    obtain ⟨g2, h⟩ := h
    refine WQ_zast (n := 2) dX10_image_59 k_185 g2 ⟨by decide, by decide⟩ (fun μ3 eμ3 => ?_)
    replace h := h μ3 eμ3
    refine WP_iconst dX10_image_60 (by decide) ?_
    exact WQ_ireturn dX10_image_61 rfl h
  · replace h := h.2 c1
    refine WP_aload_n dX10_image_27 rfl rfl ⟨Nat.le_of_ble_eq_true rfl, Nat.le_of_ble_eq_true rfl⟩ ?_
    refine WP_getfield (ci := 10) (j := 1) (n := 49) (t := 2) (x := 184) dX10_image_28 f_X10_13 k_183 rfl rfl ?_
    refine WP_sipush dX10_image_31 (by decide +kernel) (by decide) ?_
    refine WP_iload_n dX10_image_34 rfl rfl ?_
    refine WP_iconst dX10_image_35 (by decide) ?_
    obtain ⟨g4, h⟩ := h
    refine WP_iadd dX10_image_36 g4 ?_
    obtain ⟨g5, h⟩ := h
    refine WP_imul dX10_image_37 g5 ?_
    refine WP_iload_n dX10_image_38 rfl rfl ?_
    obtain ⟨g6, h⟩ := h
    refine WP_iadd dX10_image_39 g6 ?_
    refine WP_aload_n dX10_image_40 rfl rfl ⟨Nat.le_of_ble_eq_true rfl, Nat.le_of_ble_eq_true rfl⟩ ?_
    refine WP_getfield (ci := 10) (j := 1) (n := 49) (t := 2) (x := 184) dX10_image_41 f_X10_13 k_183 rfl rfl ?_
    refine WP_iload_n dX10_image_44 rfl rfl ?_
    obtain ⟨g7, h⟩ := h
    refine WP_iaload (n := 4119) dX10_image_45 k_184 g7 ?_
    obtain ⟨g8, h⟩ := h
    refine WQ_iast (n := 4119) dX10_image_46 k_184 g8 (fun μ9 eμ9 => ?_)
    replace h := h μ9 eμ9
    obtain ⟨g10, h⟩ := h
    refine WQ_iinc dX10_image_47 rfl (by decide) g10 (fun v11 e11 => ?_)
    refine WP_same (L' := [(2, 183), (0, x1), (0, v11)]) rfl ?_
    replace h := h v11 e11
    refine WP_goto (tgt := 20) dX10_image_50 (by decide) ?_
    exact h

theorem s_X10_is_0 {d : Nat} {sc : SC} {Q : Int → Mem → Prop} {μ : Mem} {a1 : Int}
    (h : (μ 183 11 ≠ 0 → Q 0 μ) ∧ (μ 183 11 = 0 → (μ 183 9 ≠ a1 → Q 0 μ) ∧ (μ 183 9 = a1 → Q 1 μ))) :
    WQ mX10_is d sc (ZI sc Q) 0 [(2, 183), (0, a1)] [] μ := by
  refine WP_aload_n dX10_is_0 rfl rfl ⟨Nat.le_of_ble_eq_true rfl, Nat.le_of_ble_eq_true rfl⟩ ?_
  refine WP_getfield (ci := 10) (j := 11) (n := 49) (t := 0) (x := μ 183 11) dX10_is_1 f_X10_154 k_183 rfl rfl ?_
  refine WQ_ifne (tgt := 19) dX10_is_4 (by decide) (fun c1 => ?_) (fun c1 => ?_)
  · replace h := h.1 c1
    refine WP_iconst dX10_is_19 (by decide) ?_
    exact WQ_zreturn dX10_is_20 rfl ⟨by decide, by decide⟩ h
  · replace h := h.2 c1
    refine WP_aload_n dX10_is_7 rfl rfl ⟨Nat.le_of_ble_eq_true rfl, Nat.le_of_ble_eq_true rfl⟩ ?_
    refine WP_getfield (ci := 10) (j := 9) (n := 49) (t := 0) (x := μ 183 9) dX10_is_8 f_X10_136 k_183 rfl rfl ?_
    refine WP_iload_n dX10_is_11 rfl rfl ?_
    refine WQ_icmp_ne (tgt := 19) dX10_is_12 (by decide) (fun c2 => ?_) (fun c2 => ?_)
    · replace h := h.1 c2
      refine WP_iconst dX10_is_19 (by decide) ?_
      exact WQ_zreturn dX10_is_20 rfl ⟨by decide, by decide⟩ h
    · replace h := h.2 c2
      refine WP_iconst dX10_is_15 (by decide) ?_
      refine WP_goto (tgt := 20) dX10_is_16 (by decide) ?_
      exact WQ_zreturn dX10_is_20 rfl ⟨by decide, by decide⟩ h

theorem s_X10_isAgain_0 {d : Nat} {sc : SC} {Q : Mem → Prop} {μ : Mem}
    (h : WQ mX10_isAgain d sc (ZV sc Q) 2 [(2, 183), (0, 0)] [] μ) :
    WQ mX10_isAgain d sc (ZV sc Q) 0 [(2, 183), (9, 0)] [] μ := by
  refine WP_iconst dX10_isAgain_0 (by decide) ?_
  refine WP_istore_n (L' := [(2, 183), (0, 0)]) dX10_isAgain_1 rfl (by decide) rfl ?_
  exact h

theorem s_X10_isAgain_2 {d : Nat} {sc : SC} {Q : Mem → Prop} {μ : Mem} {x1 : Int}
    (h : (40 ≤ x1 → Q μ) ∧ (x1 < 40 → (-2147483648 ≤ 31 + x1 ∧ 31 + x1 < 2147483648) ∧ (0 ≤ x1 ∧ x1 < 40) ∧ (0 ≤ 31 + x1 ∧ 31 + x1 < 4119) ∧ (∀ μ5, μ5 = mup μ 184 (31 + x1) (μ 205 x1) → (-2147483648 ≤ x1 + 1 ∧ x1 + 1 < 2147483648) ∧ ∀ v7 : Int, v7 = x1 + 1 → WQ mX10_isAgain d sc (ZV sc Q) 2 [(2, 183), (0, v7)] [] μ5))) :
    WQ mX10_isAgain d sc (ZV sc Q) 2 [(2, 183), (0, x1)] [] μ := by
  refine WP_iload_n dX10_isAgain_2 rfl rfl ?_
  refine WP_bipush dX10_isAgain_3 (by decide +kernel) (by decide) ?_
  refine WQ_icmp_ge (tgt := 29) dX10_isAgain_5 (by decide) (fun c1 => ?_) (fun c1 => ?_)
  · replace h := h.1 c1
    exact WQ_return dX10_isAgain_29 rfl h
  · replace h := h.2 c1
    refine WP_aload_n dX10_isAgain_8 rfl rfl ⟨Nat.le_of_ble_eq_true rfl, Nat.le_of_ble_eq_true rfl⟩ ?_
    refine WP_getfield (ci := 10) (j := 1) (n := 49) (t := 2) (x := 184) dX10_isAgain_9 f_X10_13 k_183 rfl rfl ?_
    refine WP_bipush dX10_isAgain_12 (by decide +kernel) (by decide) ?_
    refine WP_iload_n dX10_isAgain_14 rfl rfl ?_
    obtain ⟨g2, h⟩ := h
    refine WP_iadd dX10_isAgain_15 g2 ?_
    refine WP_aload_n dX10_isAgain_16 rfl rfl ⟨Nat.le_of_ble_eq_true rfl, Nat.le_of_ble_eq_true rfl⟩ ?_
    refine WP_getfield (ci := 10) (j := 37) (n := 49) (t := 2) (x := 205) dX10_isAgain_17 f_X10_82 k_183 rfl rfl ?_
    refine WP_iload_n dX10_isAgain_20 rfl rfl ?_
    obtain ⟨g3, h⟩ := h
    refine WP_iaload (n := 40) dX10_isAgain_21 k_205 g3 ?_
    obtain ⟨g4, h⟩ := h
    refine WQ_iast (n := 4119) dX10_isAgain_22 k_184 g4 (fun μ5 eμ5 => ?_)
    replace h := h μ5 eμ5
    obtain ⟨g6, h⟩ := h
    refine WQ_iinc dX10_isAgain_23 rfl (by decide) g6 (fun v7 e7 => ?_)
    refine WP_same (L' := [(2, 183), (0, v7)]) rfl ?_
    replace h := h v7 e7
    refine WP_goto (tgt := 2) dX10_isAgain_26 (by decide) ?_
    exact h

theorem s_X10_isAnswered_0 {d : Nat} {sc : SC} {Q : Int → Mem → Prop} {μ : Mem} {a1 a2 a3 a4 : Int}
    (h : (μ 184 6 ≠ 0 → (-2147483648 ≤ 6 * a1 ∧ 6 * a1 < 2147483648) ∧ (-2147483648 ≤ (6 * a1) + a2 ∧ (6 * a1) + a2 < 2147483648) ∧ (-2147483648 ≤ 15 * ((6 * a1) + a2) ∧ 15 * ((6 * a1) + a2) < 2147483648) ∧ CAi mX10_farOf d sc [(2, 183), (0, a1), (0, a2)] μ (fun r6 μ7 => (-2147483648 ≤ (15 * ((6 * a1) + a2)) + r6 ∧ (15 * ((6 * a1) + a2)) + r6 < 2147483648) ∧ (-2147483648 ≤ 100 * ((15 * ((6 * a1) + a2)) + r6) ∧ 100 * ((15 * ((6 * a1) + a2)) + r6) < 2147483648) ∧ (-2147483648 ≤ (100 * ((15 * ((6 * a1) + a2)) + r6)) + a4 ∧ (100 * ((15 * ((6 * a1) + a2)) + r6)) + a4 < 2147483648) ∧ (∀ v11 : Int, v11 = (100 * ((15 * ((6 * a1) + a2)) + r6)) + a4 → (0 ≤ v11 ∧ v11 < 54000) ∧ (μ7 190 v11 ≠ 0 → (0 ≤ v11 ∧ v11 < 54000) ∧ (μ7 190 v11 ≠ 2 → Q 0 μ7) ∧ (μ7 190 v11 = 2 → Q 1 μ7)) ∧ (μ7 190 v11 = 0 → ∀ μ17, μ17 = mup μ7 189 7 a3 → ∀ μ19, μ19 = mup μ17 189 8 a4 → CAi mX10_reckons d sc [(2, 183), (0, 2), (0, a1), (0, a2)] μ19 (fun r20 μ21 => (r20 ≠ 1 → (0 ≤ v11 ∧ v11 < 54000) ∧ (∀ μ24, μ24 = mup μ21 190 v11 1 → (0 ≤ v11 ∧ v11 < 54000) ∧ (μ24 190 v11 ≠ 2 → Q 0 μ24) ∧ (μ24 190 v11 = 2 → Q 1 μ24))) ∧ (r20 = 1 → (0 ≤ v11 ∧ v11 < 54000) ∧ (∀ μ28, μ28 = mup μ21 190 v11 2 → (0 ≤ v11 ∧ v11 < 54000) ∧ (μ28 190 v11 ≠ 2 → Q 0 μ28) ∧ (μ28 190 v11 = 2 → Q 1 μ28)))))))) ∧ (μ 184 6 = 0 → Q 0 μ)) :
    WQ mX10_isAnswered d sc (ZI sc Q) 0 [(2, 183), (0, a1), (0, a2), (0, a3), (0, a4), (9, 0)] [] μ := by
  refine WP_aload_n dX10_isAnswered_0 rfl rfl ⟨Nat.le_of_ble_eq_true rfl, Nat.le_of_ble_eq_true rfl⟩ ?_
  refine WP_getfield (ci := 10) (j := 1) (n := 49) (t := 2) (x := 184) dX10_isAnswered_1 f_X10_13 k_183 rfl rfl ?_
  refine WP_bipush dX10_isAnswered_4 (by decide +kernel) (by decide) ?_
  refine WP_iaload (n := 4119) dX10_isAnswered_6 k_184 ⟨by decide, by decide⟩ ?_
  refine WQ_ifne (tgt := 12) dX10_isAnswered_7 (by decide) (fun c2 => ?_) (fun c2 => ?_)
  · replace h := h.1 c2
    refine WP_bipush dX10_isAnswered_12 (by decide +kernel) (by decide) ?_
    refine WP_bipush dX10_isAnswered_14 (by decide +kernel) (by decide) ?_
    refine WP_bipush dX10_isAnswered_16 (by decide +kernel) (by decide) ?_
    refine WP_iload_n dX10_isAnswered_18 rfl rfl ?_
    obtain ⟨g3, h⟩ := h
    refine WP_imul dX10_isAnswered_19 g3 ?_
    refine WP_iload_n dX10_isAnswered_20 rfl rfl ?_
    obtain ⟨g4, h⟩ := h
    refine WP_iadd dX10_isAnswered_21 g4 ?_
    obtain ⟨g5, h⟩ := h
    refine WP_imul dX10_isAnswered_22 g5 ?_
    refine WP_aload_n dX10_isAnswered_23 rfl rfl ⟨Nat.le_of_ble_eq_true rfl, Nat.le_of_ble_eq_true rfl⟩ ?_
    refine WP_iload_n dX10_isAnswered_24 rfl rfl ?_
    refine WP_iload_n dX10_isAnswered_25 rfl rfl ?_
    refine WQ_invVi (v := (2, 183)) (as := [(0, a1), (0, a2)]) dX10_isAnswered_26 l_X10_246 mw_X10_farOf mi_X10_farOf ms_X10_farOf mo_X10_farOf (rcv (ci := 10) (n := 49) (r := (RX10, TX10, 49)) k_183 rfl rfl) (Nat.le_of_ble_eq_true rfl) h rfl (fun r6 μ7 h => ?_)
    obtain ⟨g8, h⟩ := h
    refine WP_iadd dX10_isAnswered_29 g8 ?_
    obtain ⟨g9, h⟩ := h
    refine WP_imul dX10_isAnswered_30 g9 ?_
    refine WP_iload dX10_isAnswered_31 rfl ?_
    obtain ⟨g10, h⟩ := h
    refine WP_iadd dX10_isAnswered_33 g10 ?_
    refine WQ_nm0 (fun v11 e11 => ?_)
    replace h := h v11 e11
    refine WP_istore (L' := [(2, 183), (0, a1), (0, a2), (0, a3), (0, a4), (0, v11)]) dX10_isAnswered_34 (by decide) rfl ?_
    refine WP_aload_n dX10_isAnswered_36 rfl rfl ⟨Nat.le_of_ble_eq_true rfl, Nat.le_of_ble_eq_true rfl⟩ ?_
    refine WP_getfield (ci := 10) (j := 18) (n := 49) (t := 2) (x := 190) dX10_isAnswered_37 f_X10_37 k_183 rfl rfl ?_
    refine WP_iload dX10_isAnswered_40 rfl ?_
    obtain ⟨g12, h⟩ := h
    refine WP_iaload (n := 54000) dX10_isAnswered_42 k_190 g12 ?_
    refine WQ_ifne (tgt := 86) dX10_isAnswered_43 (by decide) (fun c13 => ?_) (fun c13 => ?_)
    · replace h := h.1 c13
      refine WP_aload_n dX10_isAnswered_86 rfl rfl ⟨Nat.le_of_ble_eq_true rfl, Nat.le_of_ble_eq_true rfl⟩ ?_
      refine WP_getfield (ci := 10) (j := 18) (n := 49) (t := 2) (x := 190) dX10_isAnswered_87 f_X10_37 k_183 rfl rfl ?_
      refine WP_iload dX10_isAnswered_90 rfl ?_
      obtain ⟨g14, h⟩ := h
      refine WP_iaload (n := 54000) dX10_isAnswered_92 k_190 g14 ?_
      refine WP_iconst dX10_isAnswered_93 (by decide) ?_
      refine WQ_icmp_ne (tgt := 101) dX10_isAnswered_94 (by decide) (fun c15 => ?_) (fun c15 => ?_)
      · replace h := h.1 c15
        refine WP_iconst dX10_isAnswered_101 (by decide) ?_
        exact WQ_zreturn dX10_isAnswered_102 rfl ⟨by decide, by decide⟩ h
      · replace h := h.2 c15
        refine WP_iconst dX10_isAnswered_97 (by decide) ?_
        refine WP_goto (tgt := 102) dX10_isAnswered_98 (by decide) ?_
        exact WQ_zreturn dX10_isAnswered_102 rfl ⟨by decide, by decide⟩ h
    · replace h := h.2 c13
      refine WP_aload_n dX10_isAnswered_46 rfl rfl ⟨Nat.le_of_ble_eq_true rfl, Nat.le_of_ble_eq_true rfl⟩ ?_
      refine WP_getfield (ci := 10) (j := 17) (n := 49) (t := 2) (x := 189) dX10_isAnswered_47 f_X10_33 k_183 rfl rfl ?_
      refine WP_bipush dX10_isAnswered_50 (by decide +kernel) (by decide) ?_
      refine WP_iload_n dX10_isAnswered_52 rfl rfl ?_
      refine WQ_iast (n := 9) dX10_isAnswered_53 k_189 ⟨by decide, by decide⟩ (fun μ17 eμ17 => ?_)
      replace h := h μ17 eμ17
      refine WP_aload_n dX10_isAnswered_54 rfl rfl ⟨Nat.le_of_ble_eq_true rfl, Nat.le_of_ble_eq_true rfl⟩ ?_
      refine WP_getfield (ci := 10) (j := 17) (n := 49) (t := 2) (x := 189) dX10_isAnswered_55 f_X10_33 k_183 rfl rfl ?_
      refine WP_bipush dX10_isAnswered_58 (by decide +kernel) (by decide) ?_
      refine WP_iload dX10_isAnswered_60 rfl ?_
      refine WQ_iast (n := 9) dX10_isAnswered_62 k_189 ⟨by decide, by decide⟩ (fun μ19 eμ19 => ?_)
      replace h := h μ19 eμ19
      refine WP_aload_n dX10_isAnswered_63 rfl rfl ⟨Nat.le_of_ble_eq_true rfl, Nat.le_of_ble_eq_true rfl⟩ ?_
      refine WP_getfield (ci := 10) (j := 18) (n := 49) (t := 2) (x := 190) dX10_isAnswered_64 f_X10_37 k_183 rfl rfl ?_
      refine WP_iload dX10_isAnswered_67 rfl ?_
      refine WP_aload_n dX10_isAnswered_69 rfl rfl ⟨Nat.le_of_ble_eq_true rfl, Nat.le_of_ble_eq_true rfl⟩ ?_
      refine WP_iconst dX10_isAnswered_70 (by decide) ?_
      refine WP_iload_n dX10_isAnswered_71 rfl rfl ?_
      refine WP_iload_n dX10_isAnswered_72 rfl rfl ?_
      refine WQ_invVi (v := (2, 183)) (as := [(0, 2), (0, a1), (0, a2)]) dX10_isAnswered_73 l_X10_253 mw_X10_reckons mi_X10_reckons ms_X10_reckons mo_X10_reckons (rcv (ci := 10) (n := 49) (r := (RX10, TX10, 49)) k_183 rfl rfl) (Nat.le_of_ble_eq_true rfl) h rfl (fun r20 μ21 h => ?_)
      refine WP_iconst dX10_isAnswered_76 (by decide) ?_
      refine WQ_icmp_ne (tgt := 84) dX10_isAnswered_77 (by decide) (fun c22 => ?_) (fun c22 => ?_)
      · replace h := h.1 c22
        refine WP_iconst dX10_isAnswered_84 (by decide) ?_
        obtain ⟨g23, h⟩ := h
        refine WQ_iast (n := 54000) dX10_isAnswered_85 k_190 g23 (fun μ24 eμ24 => ?_)
        replace h := h μ24 eμ24
        refine WP_aload_n dX10_isAnswered_86 rfl rfl ⟨Nat.le_of_ble_eq_true rfl, Nat.le_of_ble_eq_true rfl⟩ ?_
        refine WP_getfield (ci := 10) (j := 18) (n := 49) (t := 2) (x := 190) dX10_isAnswered_87 f_X10_37 k_183 rfl rfl ?_
        refine WP_iload dX10_isAnswered_90 rfl ?_
        obtain ⟨g25, h⟩ := h
        refine WP_iaload (n := 54000) dX10_isAnswered_92 k_190 g25 ?_
        refine WP_iconst dX10_isAnswered_93 (by decide) ?_
        refine WQ_icmp_ne (tgt := 101) dX10_isAnswered_94 (by decide) (fun c26 => ?_) (fun c26 => ?_)
        · replace h := h.1 c26
          refine WP_iconst dX10_isAnswered_101 (by decide) ?_
          exact WQ_zreturn dX10_isAnswered_102 rfl ⟨by decide, by decide⟩ h
        · replace h := h.2 c26
          refine WP_iconst dX10_isAnswered_97 (by decide) ?_
          refine WP_goto (tgt := 102) dX10_isAnswered_98 (by decide) ?_
          exact WQ_zreturn dX10_isAnswered_102 rfl ⟨by decide, by decide⟩ h
      · replace h := h.2 c22
        refine WP_iconst dX10_isAnswered_80 (by decide) ?_
        refine WP_goto (tgt := 85) dX10_isAnswered_81 (by decide) ?_
        obtain ⟨g27, h⟩ := h
        refine WQ_iast (n := 54000) dX10_isAnswered_85 k_190 g27 (fun μ28 eμ28 => ?_)
        replace h := h μ28 eμ28
        refine WP_aload_n dX10_isAnswered_86 rfl rfl ⟨Nat.le_of_ble_eq_true rfl, Nat.le_of_ble_eq_true rfl⟩ ?_
        refine WP_getfield (ci := 10) (j := 18) (n := 49) (t := 2) (x := 190) dX10_isAnswered_87 f_X10_37 k_183 rfl rfl ?_
        refine WP_iload dX10_isAnswered_90 rfl ?_
        obtain ⟨g29, h⟩ := h
        refine WP_iaload (n := 54000) dX10_isAnswered_92 k_190 g29 ?_
        refine WP_iconst dX10_isAnswered_93 (by decide) ?_
        refine WQ_icmp_ne (tgt := 101) dX10_isAnswered_94 (by decide) (fun c30 => ?_) (fun c30 => ?_)
        · replace h := h.1 c30
          refine WP_iconst dX10_isAnswered_101 (by decide) ?_
          exact WQ_zreturn dX10_isAnswered_102 rfl ⟨by decide, by decide⟩ h
        · replace h := h.2 c30
          refine WP_iconst dX10_isAnswered_97 (by decide) ?_
          refine WP_goto (tgt := 102) dX10_isAnswered_98 (by decide) ?_
          exact WQ_zreturn dX10_isAnswered_102 rfl ⟨by decide, by decide⟩ h
  · replace h := h.2 c2
    refine WP_iconst dX10_isAnswered_10 (by decide) ?_
    exact WQ_zreturn dX10_isAnswered_11 rfl ⟨by decide, by decide⟩ h

theorem s_X10_isCell_0 {d : Nat} {sc : SC} {Q : Int → Mem → Prop} {μ : Mem} {a1 : Int}
    (h : CAi mX10_cellMany d sc [(2, 183)] μ (fun r1 μ2 => (-2147483648 ≤ r1 - 1 ∧ r1 - 1 < 2147483648) ∧ CAi mX10_within d sc [(1, a1), (1, 0), (1, r1 - 1)] μ2 (fun r4 μ5 => (0 ≤ r4 ∧ r4 ≤ 1) ∧ Q r4 μ5))) :
    WQ mX10_isCell d sc (ZI sc Q) 0 [(2, 183), (1, a1), (9, 0)] [] μ := by
  refine WP_lload_n dX10_isCell_0 rfl rfl ?_
  refine WP_lconst dX10_isCell_1 rfl ?_
  refine WP_aload_n dX10_isCell_2 rfl rfl ⟨Nat.le_of_ble_eq_true rfl, Nat.le_of_ble_eq_true rfl⟩ ?_
  refine WQ_invVi (v := (2, 183)) (as := []) dX10_isCell_3 l_X10_313 mw_X10_cellMany mi_X10_cellMany ms_X10_cellMany mo_X10_cellMany (rcv (ci := 10) (n := 49) (r := (RX10, TX10, 49)) k_183 rfl rfl) (Nat.le_of_ble_eq_true rfl) h rfl (fun r1 μ2 h => ?_)
  refine WP_iconst dX10_isCell_6 (by decide) ?_
  obtain ⟨g3, h⟩ := h
  refine WP_isub dX10_isCell_7 g3 ?_
  refine WP_i2l dX10_isCell_8 ?_
  refine WQ_invSi (as := [(1, a1), (1, 0), (1, r1 - 1)]) dX10_isCell_9 l_X10_170 mw_X10_within mt_X10_within mo_X10_within (Nat.le_of_ble_eq_true rfl) h rfl (fun r4 μ5 h => ?_)
  exact WQ_zreturn dX10_isCell_12 rfl h.1 h.2

theorem s_X10_isDigit_0 {d : Nat} {sc : SC} {Q : Int → Mem → Prop} {μ : Mem} {a0 : Int}
    (h : (a0 < 48 → Q 0 μ) ∧ (48 ≤ a0 → (57 < a0 → Q 0 μ) ∧ (a0 ≤ 57 → Q 1 μ))) :
    WQ mX10_isDigit d sc (ZI sc Q) 0 [(0, a0)] [] μ := by
  refine WP_iload_n dX10_isDigit_0 rfl rfl ?_
  refine WP_bipush dX10_isDigit_1 (by decide +kernel) (by decide) ?_
  refine WQ_icmp_lt (tgt := 16) dX10_isDigit_3 (by decide) (fun c1 => ?_) (fun c1 => ?_)
  · replace h := h.1 c1
    refine WP_iconst dX10_isDigit_16 (by decide) ?_
    exact WQ_zreturn dX10_isDigit_17 rfl ⟨by decide, by decide⟩ h
  · replace h := h.2 c1
    refine WP_iload_n dX10_isDigit_6 rfl rfl ?_
    refine WP_bipush dX10_isDigit_7 (by decide +kernel) (by decide) ?_
    refine WQ_icmp_gt (tgt := 16) dX10_isDigit_9 (by decide) (fun c2 => ?_) (fun c2 => ?_)
    · replace h := h.1 c2
      refine WP_iconst dX10_isDigit_16 (by decide) ?_
      exact WQ_zreturn dX10_isDigit_17 rfl ⟨by decide, by decide⟩ h
    · replace h := h.2 c2
      refine WP_iconst dX10_isDigit_12 (by decide) ?_
      refine WP_goto (tgt := 17) dX10_isDigit_13 (by decide) ?_
      exact WQ_zreturn dX10_isDigit_17 rfl ⟨by decide, by decide⟩ h

theorem s_X10_isHeard_0 {d : Nat} {sc : SC} {Q : Int → Mem → Prop} {μ : Mem} {a1 a2 : Int}
    (h : WQ mX10_isHeard d sc (ZI sc Q) 2 [(2, 183), (0, a1), (0, a2), (0, 0), (9, 0)] [] μ) :
    WQ mX10_isHeard d sc (ZI sc Q) 0 [(2, 183), (0, a1), (0, a2), (9, 0), (9, 0)] [] μ := by
  refine WP_iconst dX10_isHeard_0 (by decide) ?_
  refine WP_istore_n (L' := [(2, 183), (0, a1), (0, a2), (0, 0), (9, 0)]) dX10_isHeard_1 rfl (by decide) rfl ?_
  exact h

theorem s_X10_isHeard_2 {d : Nat} {sc : SC} {Q : Int → Mem → Prop} {μ : Mem} {x1 x2 x3 : Int}
    (h : (0 ≤ x1 ∧ x1 < 4) ∧ (μ 210 x1 ≤ x3 → Q 1 μ) ∧ (x3 < μ 210 x1 → (-2147483648 ≤ 40 * x1 ∧ 40 * x1 < 2147483648) ∧ (-2147483648 ≤ (40 * x1) + x3 ∧ (40 * x1) + x3 < 2147483648) ∧ (0 ≤ (40 * x1) + x3 ∧ (40 * x1) + x3 < 160) ∧ (∀ v6 : Int, v6 = w32 (μ 211 ((40 * x1) + x3)) → 0 ≤ v6 ∧ CAi mX10_gapOf d sc [(2, 183), (0, x2), (0, v6 / 100)] μ (fun r8 μ9 => 0 ≤ v6 ∧ (r8 = v6 % 100 → (-2147483648 ≤ x3 + 1 ∧ x3 + 1 < 2147483648) ∧ ∀ v13 : Int, v13 = x3 + 1 → WQ mX10_isHeard d sc (ZI sc Q) 2 [(2, 183), (0, x1), (0, x2), (0, v13), (9, 0)] [] μ9) ∧ (r8 ≠ v6 % 100 → Q 0 μ9))))) :
    WQ mX10_isHeard d sc (ZI sc Q) 2 [(2, 183), (0, x1), (0, x2), (0, x3), (9, 0)] [] μ := by
  refine WP_iload_n dX10_isHeard_2 rfl rfl ?_
  refine WP_aload_n dX10_isHeard_3 rfl rfl ⟨Nat.le_of_ble_eq_true rfl, Nat.le_of_ble_eq_true rfl⟩ ?_
  refine WP_getfield (ci := 10) (j := 47) (n := 49) (t := 2) (x := 210) dX10_isHeard_4 f_X10_98 k_183 rfl rfl ?_
  refine WP_iload_n dX10_isHeard_7 rfl rfl ?_
  obtain ⟨g1, h⟩ := h
  refine WP_iaload (n := 4) dX10_isHeard_8 k_210 g1 ?_
  refine WQ_icmp_ge (tgt := 52) dX10_isHeard_9 (by decide) (fun c2 => ?_) (fun c2 => ?_)
  · replace h := h.1 c2
    refine WP_iconst dX10_isHeard_52 (by decide) ?_
    exact WQ_zreturn dX10_isHeard_53 rfl ⟨by decide, by decide⟩ h
  · replace h := h.2 c2
    refine WP_aload_n dX10_isHeard_12 rfl rfl ⟨Nat.le_of_ble_eq_true rfl, Nat.le_of_ble_eq_true rfl⟩ ?_
    refine WP_getfield (ci := 10) (j := 48) (n := 49) (t := 2) (x := 211) dX10_isHeard_13 f_X10_101 k_183 rfl rfl ?_
    refine WP_bipush dX10_isHeard_16 (by decide +kernel) (by decide) ?_
    refine WP_iload_n dX10_isHeard_18 rfl rfl ?_
    obtain ⟨g3, h⟩ := h
    refine WP_imul dX10_isHeard_19 g3 ?_
    refine WP_iload_n dX10_isHeard_20 rfl rfl ?_
    obtain ⟨g4, h⟩ := h
    refine WP_iadd dX10_isHeard_21 g4 ?_
    obtain ⟨g5, h⟩ := h
    refine WP_laload (n := 160) dX10_isHeard_22 k_211 g5 ?_
    refine WP_l2i dX10_isHeard_23 ?_
    refine WQ_nm0 (fun v6 e6 => ?_)
    replace h := h v6 e6
    refine WP_istore (L' := [(2, 183), (0, x1), (0, x2), (0, x3), (0, v6)]) dX10_isHeard_24 (by decide) rfl ?_
    refine WP_aload_n dX10_isHeard_26 rfl rfl ⟨Nat.le_of_ble_eq_true rfl, Nat.le_of_ble_eq_true rfl⟩ ?_
    refine WP_iload_n dX10_isHeard_27 rfl rfl ?_
    refine WP_iload dX10_isHeard_28 rfl ?_
    refine WP_bipush dX10_isHeard_30 (by decide +kernel) (by decide) ?_
    obtain ⟨g7, h⟩ := h
    refine WP_idiv dX10_isHeard_32 ⟨g7, by decide⟩ ?_
    refine WQ_invVi (v := (2, 183)) (as := [(0, x2), (0, v6 / 100)]) dX10_isHeard_33 l_X10_263 mw_X10_gapOf mi_X10_gapOf ms_X10_gapOf mo_X10_gapOf (rcv (ci := 10) (n := 49) (r := (RX10, TX10, 49)) k_183 rfl rfl) (Nat.le_of_ble_eq_true rfl) h rfl (fun r8 μ9 h => ?_)
    refine WP_iload dX10_isHeard_36 rfl ?_
    refine WP_bipush dX10_isHeard_38 (by decide +kernel) (by decide) ?_
    obtain ⟨g10, h⟩ := h
    refine WP_irem dX10_isHeard_40 ⟨g10, by decide⟩ ?_
    refine WQ_icmp_eq (tgt := 46) dX10_isHeard_41 (by decide) (fun c11 => ?_) (fun c11 => ?_)
    · replace h := h.1 c11
      obtain ⟨g12, h⟩ := h
      refine WQ_iinc dX10_isHeard_46 rfl (by decide) g12 (fun v13 e13 => ?_)
      refine WP_same (L' := [(2, 183), (0, x1), (0, x2), (0, v13), (0, v6)]) rfl ?_
      replace h := h v13 e13
      refine WP_goto (tgt := 2) dX10_isHeard_49 (by decide) ?_
      refine WP_lforget (L' := [(2, 183), (0, x1), (0, x2), (0, v13), (9, 0)]) rfl (fun i hi => ?_) h
      match i, hi with
      | 0, _ => exact Or.inl rfl
      | 1, _ => exact Or.inl rfl
      | 2, _ => exact Or.inl rfl
      | 3, _ => exact Or.inl rfl
      | 4, _ => exact Or.inr rfl
      | i + 5, hi => exact absurd hi (by simp only [List.length_cons, List.length_nil]; omega)
    · replace h := h.2 c11
      refine WP_iconst dX10_isHeard_44 (by decide) ?_
      exact WQ_zreturn dX10_isHeard_45 rfl ⟨by decide, by decide⟩ h

theorem s_X10_isIn_0 {d : Nat} {sc : SC} {Q : Int → Mem → Prop} {μ : Mem} {a0 a2 : Int}
    (h : (lAnd (lShr a0 a2) 1 ≠ 1 → Q 0 μ) ∧ (lAnd (lShr a0 a2) 1 = 1 → Q 1 μ)) :
    WQ mX10_isIn d sc (ZI sc Q) 0 [(1, a0), (9, 0), (0, a2)] [] μ := by
  refine WP_lload_n dX10_isIn_0 rfl rfl ?_
  refine WP_iload_n dX10_isIn_1 rfl rfl ?_
  refine WP_lshr dX10_isIn_2 ?_
  refine WP_lconst dX10_isIn_3 rfl ?_
  refine WP_land dX10_isIn_4 ?_
  refine WP_lconst dX10_isIn_5 rfl ?_
  refine WQ_lifne (tgt := 14) dX10_isIn_6 dX10_isIn_7 (by decide) (fun c1 => ?_) (fun c1 => ?_)
  · replace h := h.1 c1
    refine WP_iconst dX10_isIn_14 (by decide) ?_
    exact WQ_zreturn dX10_isIn_15 rfl ⟨by decide, by decide⟩ h
  · replace h := h.2 c1
    refine WP_iconst dX10_isIn_10 (by decide) ?_
    refine WP_goto (tgt := 15) dX10_isIn_11 (by decide) ?_
    exact WQ_zreturn dX10_isIn_15 rfl ⟨by decide, by decide⟩ h

theorem s_X10_isNaming_0 {d : Nat} {sc : SC} {Q : Int → Mem → Prop} {μ : Mem} {a1 : Int}
    (h : (-2147483648 ≤ (μ 184 31) - 1 ∧ (μ 184 31) - 1 < 2147483648) ∧ CAi mX10_within d sc [(1, a1), (1, 0), (1, (μ 184 31) - 1)] μ (fun r3 μ4 => (0 ≤ r3 ∧ r3 ≤ 1) ∧ Q r3 μ4)) :
    WQ mX10_isNaming d sc (ZI sc Q) 0 [(2, 183), (1, a1), (9, 0)] [] μ := by
  refine WP_lload_n dX10_isNaming_0 rfl rfl ?_
  refine WP_lconst dX10_isNaming_1 rfl ?_
  refine WP_aload_n dX10_isNaming_2 rfl rfl ⟨Nat.le_of_ble_eq_true rfl, Nat.le_of_ble_eq_true rfl⟩ ?_
  refine WP_getfield (ci := 10) (j := 1) (n := 49) (t := 2) (x := 184) dX10_isNaming_3 f_X10_13 k_183 rfl rfl ?_
  refine WP_bipush dX10_isNaming_6 (by decide +kernel) (by decide) ?_
  refine WP_iaload (n := 4119) dX10_isNaming_8 k_184 ⟨by decide, by decide⟩ ?_
  refine WP_iconst dX10_isNaming_9 (by decide) ?_
  obtain ⟨g2, h⟩ := h
  refine WP_isub dX10_isNaming_10 g2 ?_
  refine WP_i2l dX10_isNaming_11 ?_
  refine WQ_invSi (as := [(1, a1), (1, 0), (1, (μ 184 31) - 1)]) dX10_isNaming_12 l_X10_170 mw_X10_within mt_X10_within mo_X10_within (Nat.le_of_ble_eq_true rfl) h rfl (fun r3 μ4 h => ?_)
  exact WQ_zreturn dX10_isNaming_15 rfl h.1 h.2

theorem s_X10_isPerson_0 {d : Nat} {sc : SC} {Q : Int → Mem → Prop} {μ : Mem} {a1 : Int}
    (h : (-2147483648 ≤ (μ 184 3) - 1 ∧ (μ 184 3) - 1 < 2147483648) ∧ CAi mX10_within d sc [(1, a1), (1, 0), (1, (μ 184 3) - 1)] μ (fun r3 μ4 => (0 ≤ r3 ∧ r3 ≤ 1) ∧ Q r3 μ4)) :
    WQ mX10_isPerson d sc (ZI sc Q) 0 [(2, 183), (1, a1), (9, 0)] [] μ := by
  refine WP_lload_n dX10_isPerson_0 rfl rfl ?_
  refine WP_lconst dX10_isPerson_1 rfl ?_
  refine WP_aload_n dX10_isPerson_2 rfl rfl ⟨Nat.le_of_ble_eq_true rfl, Nat.le_of_ble_eq_true rfl⟩ ?_
  refine WP_getfield (ci := 10) (j := 1) (n := 49) (t := 2) (x := 184) dX10_isPerson_3 f_X10_13 k_183 rfl rfl ?_
  refine WP_iconst dX10_isPerson_6 (by decide) ?_
  refine WP_iaload (n := 4119) dX10_isPerson_7 k_184 ⟨by decide, by decide⟩ ?_
  refine WP_iconst dX10_isPerson_8 (by decide) ?_
  obtain ⟨g2, h⟩ := h
  refine WP_isub dX10_isPerson_9 g2 ?_
  refine WP_i2l dX10_isPerson_10 ?_
  refine WQ_invSi (as := [(1, a1), (1, 0), (1, (μ 184 3) - 1)]) dX10_isPerson_11 l_X10_170 mw_X10_within mt_X10_within mo_X10_within (Nat.le_of_ble_eq_true rfl) h rfl (fun r3 μ4 h => ?_)
  exact WQ_zreturn dX10_isPerson_14 rfl h.1 h.2

theorem s_X10_isSilent_0 {d : Nat} {sc : SC} {Q : Int → Mem → Prop} {μ : Mem} {a1 a2 a3 : Int}
    (h : (-2147483648 ≤ (iShl 1 (μ 184 31)) - 1 ∧ (iShl 1 (μ 184 31)) - 1 < 2147483648) ∧ CAv mX10_laysTold d sc [(2, 183), (0, (iShl 1 (μ 184 31)) - 1)] μ (fun μ4 => (a2 = (-1) → (a3 = (-1) → CAv mX10_goesDay d sc [(2, 183)] μ4 (fun μ8 => WQ mX10_isSilent d sc (ZI sc Q) 58 [(2, 183), (0, a1), (9, 0), (9, 0), (0, 0)] [] μ8)) ∧ (a3 ≠ (-1) → 0 ≤ a3 ∧ 0 ≤ a3 ∧ CAv mX10_tellsToo d sc [(2, 183), (0, a3 % 100), (0, a1), (0, a3 / 100)] μ4 (fun μ12 => CAv mX10_goesDay d sc [(2, 183)] μ12 (fun μ14 => WQ mX10_isSilent d sc (ZI sc Q) 58 [(2, 183), (0, a1), (9, 0), (9, 0), (0, 0)] [] μ14)))) ∧ (a2 ≠ (-1) → 0 ≤ a2 ∧ 0 ≤ a2 ∧ CAv mX10_tellsToo d sc [(2, 183), (0, a2 % 100), (0, a1), (0, a2 / 100)] μ4 (fun μ18 => (a3 = (-1) → CAv mX10_goesDay d sc [(2, 183)] μ18 (fun μ21 => WQ mX10_isSilent d sc (ZI sc Q) 58 [(2, 183), (0, a1), (9, 0), (9, 0), (0, 0)] [] μ21)) ∧ (a3 ≠ (-1) → 0 ≤ a3 ∧ 0 ≤ a3 ∧ CAv mX10_tellsToo d sc [(2, 183), (0, a3 % 100), (0, a1), (0, a3 / 100)] μ18 (fun μ25 => CAv mX10_goesDay d sc [(2, 183)] μ25 (fun μ27 => WQ mX10_isSilent d sc (ZI sc Q) 58 [(2, 183), (0, a1), (9, 0), (9, 0), (0, 0)] [] μ27))))))) :
    WQ mX10_isSilent d sc (ZI sc Q) 0 [(2, 183), (0, a1), (0, a2), (0, a3), (9, 0)] [] μ := by
  refine WP_aload_n dX10_isSilent_0 rfl rfl ⟨Nat.le_of_ble_eq_true rfl, Nat.le_of_ble_eq_true rfl⟩ ?_
  refine WP_iconst dX10_isSilent_1 (by decide) ?_
  refine WP_aload_n dX10_isSilent_2 rfl rfl ⟨Nat.le_of_ble_eq_true rfl, Nat.le_of_ble_eq_true rfl⟩ ?_
  refine WP_getfield (ci := 10) (j := 1) (n := 49) (t := 2) (x := 184) dX10_isSilent_3 f_X10_13 k_183 rfl rfl ?_
  refine WP_bipush dX10_isSilent_6 (by decide +kernel) (by decide) ?_
  refine WP_iaload (n := 4119) dX10_isSilent_8 k_184 ⟨by decide, by decide⟩ ?_
  refine WP_ishl dX10_isSilent_9 ?_
  refine WP_iconst dX10_isSilent_10 (by decide) ?_
  obtain ⟨g2, h⟩ := h
  refine WP_isub dX10_isSilent_11 g2 ?_
  refine WQ_invVv (v := (2, 183)) (as := [(0, (iShl 1 (μ 184 31)) - 1)]) dX10_isSilent_12 l_X10_300 mw_X10_laysTold mi_X10_laysTold ms_X10_laysTold mo_X10_laysTold (rcv (ci := 10) (n := 49) (r := (RX10, TX10, 49)) k_183 rfl rfl) (Nat.le_of_ble_eq_true rfl) h rfl (fun μ4 h => ?_)
  refine WP_iload_n dX10_isSilent_15 rfl rfl ?_
  refine WP_iconst dX10_isSilent_16 (by decide) ?_
  refine WQ_icmp_eq (tgt := 33) dX10_isSilent_17 (by decide) (fun c5 => ?_) (fun c5 => ?_)
  · replace h := h.1 c5
    refine WP_iload_n dX10_isSilent_33 rfl rfl ?_
    refine WP_iconst dX10_isSilent_34 (by decide) ?_
    refine WQ_icmp_eq (tgt := 51) dX10_isSilent_35 (by decide) (fun c6 => ?_) (fun c6 => ?_)
    · replace h := h.1 c6
      refine WP_aload_n dX10_isSilent_51 rfl rfl ⟨Nat.le_of_ble_eq_true rfl, Nat.le_of_ble_eq_true rfl⟩ ?_
      refine WQ_invVv (v := (2, 183)) (as := []) dX10_isSilent_52 l_X10_303 mw_X10_goesDay mi_X10_goesDay ms_X10_goesDay mo_X10_goesDay (rcv (ci := 10) (n := 49) (r := (RX10, TX10, 49)) k_183 rfl rfl) (Nat.le_of_ble_eq_true rfl) h rfl (fun μ8 h => ?_)
      refine WP_iconst dX10_isSilent_55 (by decide) ?_
      refine WP_istore (L' := [(2, 183), (0, a1), (0, a2), (0, a3), (0, 0)]) dX10_isSilent_56 (by decide) rfl ?_
      refine WP_lforget (L' := [(2, 183), (0, a1), (9, 0), (9, 0), (0, 0)]) rfl (fun i hi => ?_) h
      match i, hi with
      | 0, _ => exact Or.inl rfl
      | 1, _ => exact Or.inl rfl
      | 2, _ => exact Or.inr rfl
      | 3, _ => exact Or.inr rfl
      | 4, _ => exact Or.inl rfl
      | i + 5, hi => exact absurd hi (by simp only [List.length_cons, List.length_nil]; omega)
    · replace h := h.2 c6
      refine WP_aload_n dX10_isSilent_38 rfl rfl ⟨Nat.le_of_ble_eq_true rfl, Nat.le_of_ble_eq_true rfl⟩ ?_
      refine WP_iload_n dX10_isSilent_39 rfl rfl ?_
      refine WP_bipush dX10_isSilent_40 (by decide +kernel) (by decide) ?_
      obtain ⟨g9, h⟩ := h
      refine WP_irem dX10_isSilent_42 ⟨g9, by decide⟩ ?_
      refine WP_iload_n dX10_isSilent_43 rfl rfl ?_
      refine WP_iload_n dX10_isSilent_44 rfl rfl ?_
      refine WP_bipush dX10_isSilent_45 (by decide +kernel) (by decide) ?_
      obtain ⟨g10, h⟩ := h
      refine WP_idiv dX10_isSilent_47 ⟨g10, by decide⟩ ?_
      refine WQ_invVv (v := (2, 183)) (as := [(0, a3 % 100), (0, a1), (0, a3 / 100)]) dX10_isSilent_48 l_X10_280 mw_X10_tellsToo mi_X10_tellsToo ms_X10_tellsToo mo_X10_tellsToo (rcv (ci := 10) (n := 49) (r := (RX10, TX10, 49)) k_183 rfl rfl) (Nat.le_of_ble_eq_true rfl) h rfl (fun μ12 h => ?_)
      refine WP_aload_n dX10_isSilent_51 rfl rfl ⟨Nat.le_of_ble_eq_true rfl, Nat.le_of_ble_eq_true rfl⟩ ?_
      refine WQ_invVv (v := (2, 183)) (as := []) dX10_isSilent_52 l_X10_303 mw_X10_goesDay mi_X10_goesDay ms_X10_goesDay mo_X10_goesDay (rcv (ci := 10) (n := 49) (r := (RX10, TX10, 49)) k_183 rfl rfl) (Nat.le_of_ble_eq_true rfl) h rfl (fun μ14 h => ?_)
      refine WP_iconst dX10_isSilent_55 (by decide) ?_
      refine WP_istore (L' := [(2, 183), (0, a1), (0, a2), (0, a3), (0, 0)]) dX10_isSilent_56 (by decide) rfl ?_
      refine WP_lforget (L' := [(2, 183), (0, a1), (9, 0), (9, 0), (0, 0)]) rfl (fun i hi => ?_) h
      match i, hi with
      | 0, _ => exact Or.inl rfl
      | 1, _ => exact Or.inl rfl
      | 2, _ => exact Or.inr rfl
      | 3, _ => exact Or.inr rfl
      | 4, _ => exact Or.inl rfl
      | i + 5, hi => exact absurd hi (by simp only [List.length_cons, List.length_nil]; omega)
  · replace h := h.2 c5
    refine WP_aload_n dX10_isSilent_20 rfl rfl ⟨Nat.le_of_ble_eq_true rfl, Nat.le_of_ble_eq_true rfl⟩ ?_
    refine WP_iload_n dX10_isSilent_21 rfl rfl ?_
    refine WP_bipush dX10_isSilent_22 (by decide +kernel) (by decide) ?_
    obtain ⟨g15, h⟩ := h
    refine WP_irem dX10_isSilent_24 ⟨g15, by decide⟩ ?_
    refine WP_iload_n dX10_isSilent_25 rfl rfl ?_
    refine WP_iload_n dX10_isSilent_26 rfl rfl ?_
    refine WP_bipush dX10_isSilent_27 (by decide +kernel) (by decide) ?_
    obtain ⟨g16, h⟩ := h
    refine WP_idiv dX10_isSilent_29 ⟨g16, by decide⟩ ?_
    refine WQ_invVv (v := (2, 183)) (as := [(0, a2 % 100), (0, a1), (0, a2 / 100)]) dX10_isSilent_30 l_X10_280 mw_X10_tellsToo mi_X10_tellsToo ms_X10_tellsToo mo_X10_tellsToo (rcv (ci := 10) (n := 49) (r := (RX10, TX10, 49)) k_183 rfl rfl) (Nat.le_of_ble_eq_true rfl) h rfl (fun μ18 h => ?_)
    refine WP_iload_n dX10_isSilent_33 rfl rfl ?_
    refine WP_iconst dX10_isSilent_34 (by decide) ?_
    refine WQ_icmp_eq (tgt := 51) dX10_isSilent_35 (by decide) (fun c19 => ?_) (fun c19 => ?_)
    · replace h := h.1 c19
      refine WP_aload_n dX10_isSilent_51 rfl rfl ⟨Nat.le_of_ble_eq_true rfl, Nat.le_of_ble_eq_true rfl⟩ ?_
      refine WQ_invVv (v := (2, 183)) (as := []) dX10_isSilent_52 l_X10_303 mw_X10_goesDay mi_X10_goesDay ms_X10_goesDay mo_X10_goesDay (rcv (ci := 10) (n := 49) (r := (RX10, TX10, 49)) k_183 rfl rfl) (Nat.le_of_ble_eq_true rfl) h rfl (fun μ21 h => ?_)
      refine WP_iconst dX10_isSilent_55 (by decide) ?_
      refine WP_istore (L' := [(2, 183), (0, a1), (0, a2), (0, a3), (0, 0)]) dX10_isSilent_56 (by decide) rfl ?_
      refine WP_lforget (L' := [(2, 183), (0, a1), (9, 0), (9, 0), (0, 0)]) rfl (fun i hi => ?_) h
      match i, hi with
      | 0, _ => exact Or.inl rfl
      | 1, _ => exact Or.inl rfl
      | 2, _ => exact Or.inr rfl
      | 3, _ => exact Or.inr rfl
      | 4, _ => exact Or.inl rfl
      | i + 5, hi => exact absurd hi (by simp only [List.length_cons, List.length_nil]; omega)
    · replace h := h.2 c19
      refine WP_aload_n dX10_isSilent_38 rfl rfl ⟨Nat.le_of_ble_eq_true rfl, Nat.le_of_ble_eq_true rfl⟩ ?_
      refine WP_iload_n dX10_isSilent_39 rfl rfl ?_
      refine WP_bipush dX10_isSilent_40 (by decide +kernel) (by decide) ?_
      obtain ⟨g22, h⟩ := h
      refine WP_irem dX10_isSilent_42 ⟨g22, by decide⟩ ?_
      refine WP_iload_n dX10_isSilent_43 rfl rfl ?_
      refine WP_iload_n dX10_isSilent_44 rfl rfl ?_
      refine WP_bipush dX10_isSilent_45 (by decide +kernel) (by decide) ?_
      obtain ⟨g23, h⟩ := h
      refine WP_idiv dX10_isSilent_47 ⟨g23, by decide⟩ ?_
      refine WQ_invVv (v := (2, 183)) (as := [(0, a3 % 100), (0, a1), (0, a3 / 100)]) dX10_isSilent_48 l_X10_280 mw_X10_tellsToo mi_X10_tellsToo ms_X10_tellsToo mo_X10_tellsToo (rcv (ci := 10) (n := 49) (r := (RX10, TX10, 49)) k_183 rfl rfl) (Nat.le_of_ble_eq_true rfl) h rfl (fun μ25 h => ?_)
      refine WP_aload_n dX10_isSilent_51 rfl rfl ⟨Nat.le_of_ble_eq_true rfl, Nat.le_of_ble_eq_true rfl⟩ ?_
      refine WQ_invVv (v := (2, 183)) (as := []) dX10_isSilent_52 l_X10_303 mw_X10_goesDay mi_X10_goesDay ms_X10_goesDay mo_X10_goesDay (rcv (ci := 10) (n := 49) (r := (RX10, TX10, 49)) k_183 rfl rfl) (Nat.le_of_ble_eq_true rfl) h rfl (fun μ27 h => ?_)
      refine WP_iconst dX10_isSilent_55 (by decide) ?_
      refine WP_istore (L' := [(2, 183), (0, a1), (0, a2), (0, a3), (0, 0)]) dX10_isSilent_56 (by decide) rfl ?_
      refine WP_lforget (L' := [(2, 183), (0, a1), (9, 0), (9, 0), (0, 0)]) rfl (fun i hi => ?_) h
      match i, hi with
      | 0, _ => exact Or.inl rfl
      | 1, _ => exact Or.inl rfl
      | 2, _ => exact Or.inr rfl
      | 3, _ => exact Or.inr rfl
      | 4, _ => exact Or.inl rfl
      | i + 5, hi => exact absurd hi (by simp only [List.length_cons, List.length_nil]; omega)

theorem s_X10_isSilent_58 {d : Nat} {sc : SC} {Q : Int → Mem → Prop} {μ : Mem} {x1 x4 : Int}
    (h : (μ 184 31 ≤ x4 → Q 1 μ) ∧ (x4 < μ 184 31 → (0 ≤ x4 ∧ x4 < 10) ∧ (μ 191 x4 ≠ x1 → (-2147483648 ≤ x4 + 1 ∧ x4 + 1 < 2147483648) ∧ ∀ v6 : Int, v6 = x4 + 1 → WQ mX10_isSilent d sc (ZI sc Q) 58 [(2, 183), (0, x1), (9, 0), (9, 0), (0, v6)] [] μ) ∧ (μ 191 x4 = x1 → (0 ≤ x4 ∧ x4 < 10) ∧ (μ 204 x4 = 0 → (-2147483648 ≤ x4 + 1 ∧ x4 + 1 < 2147483648) ∧ ∀ v10 : Int, v10 = x4 + 1 → WQ mX10_isSilent d sc (ZI sc Q) 58 [(2, 183), (0, x1), (9, 0), (9, 0), (0, v10)] [] μ) ∧ (μ 204 x4 ≠ 0 → Q 0 μ)))) :
    WQ mX10_isSilent d sc (ZI sc Q) 58 [(2, 183), (0, x1), (9, 0), (9, 0), (0, x4)] [] μ := by
  refine WP_iload dX10_isSilent_58 rfl ?_
  refine WP_aload_n dX10_isSilent_60 rfl rfl ⟨Nat.le_of_ble_eq_true rfl, Nat.le_of_ble_eq_true rfl⟩ ?_
  refine WP_getfield (ci := 10) (j := 1) (n := 49) (t := 2) (x := 184) dX10_isSilent_61 f_X10_13 k_183 rfl rfl ?_
  refine WP_bipush dX10_isSilent_64 (by decide +kernel) (by decide) ?_
  refine WP_iaload (n := 4119) dX10_isSilent_66 k_184 ⟨by decide, by decide⟩ ?_
  refine WQ_icmp_ge (tgt := 99) dX10_isSilent_67 (by decide) (fun c2 => ?_) (fun c2 => ?_)
  · replace h := h.1 c2
    refine WP_iconst dX10_isSilent_99 (by decide) ?_
    exact WQ_zreturn dX10_isSilent_100 rfl ⟨by decide, by decide⟩ h
  · replace h := h.2 c2
    refine WP_aload_n dX10_isSilent_70 rfl rfl ⟨Nat.le_of_ble_eq_true rfl, Nat.le_of_ble_eq_true rfl⟩ ?_
    refine WP_getfield (ci := 10) (j := 20) (n := 49) (t := 2) (x := 191) dX10_isSilent_71 f_X10_40 k_183 rfl rfl ?_
    refine WP_iload dX10_isSilent_74 rfl ?_
    obtain ⟨g3, h⟩ := h
    refine WP_iaload (n := 10) dX10_isSilent_76 k_191 g3 ?_
    refine WP_iload_n dX10_isSilent_77 rfl rfl ?_
    refine WQ_icmp_ne (tgt := 93) dX10_isSilent_78 (by decide) (fun c4 => ?_) (fun c4 => ?_)
    · replace h := h.1 c4
      obtain ⟨g5, h⟩ := h
      refine WQ_iinc dX10_isSilent_93 rfl (by decide) g5 (fun v6 e6 => ?_)
      refine WP_same (L' := [(2, 183), (0, x1), (9, 0), (9, 0), (0, v6)]) rfl ?_
      replace h := h v6 e6
      refine WP_goto (tgt := 58) dX10_isSilent_96 (by decide) ?_
      exact h
    · replace h := h.2 c4
      refine WP_aload_n dX10_isSilent_81 rfl rfl ⟨Nat.le_of_ble_eq_true rfl, Nat.le_of_ble_eq_true rfl⟩ ?_
      refine WP_getfield (ci := 10) (j := 33) (n := 49) (t := 2) (x := 204) dX10_isSilent_82 f_X10_79 k_183 rfl rfl ?_
      refine WP_iload dX10_isSilent_85 rfl ?_
      obtain ⟨g7, h⟩ := h
      refine WP_zaload (n := 10) dX10_isSilent_87 k_204 g7 ?_
      refine WQ_ifeq (tgt := 93) dX10_isSilent_88 (by decide) (fun c8 => ?_) (fun c8 => ?_)
      · replace h := h.1 c8
        obtain ⟨g9, h⟩ := h
        refine WQ_iinc dX10_isSilent_93 rfl (by decide) g9 (fun v10 e10 => ?_)
        refine WP_same (L' := [(2, 183), (0, x1), (9, 0), (9, 0), (0, v10)]) rfl ?_
        replace h := h v10 e10
        refine WP_goto (tgt := 58) dX10_isSilent_96 (by decide) ?_
        exact h
      · replace h := h.2 c8
        refine WP_iconst dX10_isSilent_91 (by decide) ?_
        exact WQ_zreturn dX10_isSilent_92 rfl ⟨by decide, by decide⟩ h

theorem s_X10_isSmall_0 {d : Nat} {sc : SC} {Q : Int → Mem → Prop} {μ : Mem} {a0 : Int}
    (h : (a0 < 97 → Q 0 μ) ∧ (97 ≤ a0 → (122 < a0 → Q 0 μ) ∧ (a0 ≤ 122 → Q 1 μ))) :
    WQ mX10_isSmall d sc (ZI sc Q) 0 [(0, a0)] [] μ := by
  refine WP_iload_n dX10_isSmall_0 rfl rfl ?_
  refine WP_bipush dX10_isSmall_1 (by decide +kernel) (by decide) ?_
  refine WQ_icmp_lt (tgt := 16) dX10_isSmall_3 (by decide) (fun c1 => ?_) (fun c1 => ?_)
  · replace h := h.1 c1
    refine WP_iconst dX10_isSmall_16 (by decide) ?_
    exact WQ_zreturn dX10_isSmall_17 rfl ⟨by decide, by decide⟩ h
  · replace h := h.2 c1
    refine WP_iload_n dX10_isSmall_6 rfl rfl ?_
    refine WP_bipush dX10_isSmall_7 (by decide +kernel) (by decide) ?_
    refine WQ_icmp_gt (tgt := 16) dX10_isSmall_9 (by decide) (fun c2 => ?_) (fun c2 => ?_)
    · replace h := h.1 c2
      refine WP_iconst dX10_isSmall_16 (by decide) ?_
      exact WQ_zreturn dX10_isSmall_17 rfl ⟨by decide, by decide⟩ h
    · replace h := h.2 c2
      refine WP_iconst dX10_isSmall_12 (by decide) ?_
      refine WP_goto (tgt := 17) dX10_isSmall_13 (by decide) ?_
      exact WQ_zreturn dX10_isSmall_17 rfl ⟨by decide, by decide⟩ h

theorem s_X10_isTimed_0 {d : Nat} {sc : SC} {Q : Int → Mem → Prop} {μ : Mem} {a1 a2 : Int}
    (h : CAi mX10_hiccupsOf d sc [(2, 183), (0, a2)] μ (fun r1 μ2 => (0 ≤ a1 ∧ a1 < 4) ∧ (r1 = μ2 210 a1 → WQ mX10_isTimed d sc (ZI sc Q) 18 [(2, 183), (0, a1), (0, a2), (0, 0)] [] μ2) ∧ (r1 ≠ μ2 210 a1 → Q 0 μ2))) :
    WQ mX10_isTimed d sc (ZI sc Q) 0 [(2, 183), (0, a1), (0, a2), (9, 0)] [] μ := by
  refine WP_aload_n dX10_isTimed_0 rfl rfl ⟨Nat.le_of_ble_eq_true rfl, Nat.le_of_ble_eq_true rfl⟩ ?_
  refine WP_iload_n dX10_isTimed_1 rfl rfl ?_
  refine WQ_invVi (v := (2, 183)) (as := [(0, a2)]) dX10_isTimed_2 l_X10_396 mw_X10_hiccupsOf mi_X10_hiccupsOf ms_X10_hiccupsOf mo_X10_hiccupsOf (rcv (ci := 10) (n := 49) (r := (RX10, TX10, 49)) k_183 rfl rfl) (Nat.le_of_ble_eq_true rfl) h rfl (fun r1 μ2 h => ?_)
  refine WP_aload_n dX10_isTimed_5 rfl rfl ⟨Nat.le_of_ble_eq_true rfl, Nat.le_of_ble_eq_true rfl⟩ ?_
  refine WP_getfield (ci := 10) (j := 47) (n := 49) (t := 2) (x := 210) dX10_isTimed_6 f_X10_98 k_183 rfl rfl ?_
  refine WP_iload_n dX10_isTimed_9 rfl rfl ?_
  obtain ⟨g3, h⟩ := h
  refine WP_iaload (n := 4) dX10_isTimed_10 k_210 g3 ?_
  refine WQ_icmp_eq (tgt := 16) dX10_isTimed_11 (by decide) (fun c4 => ?_) (fun c4 => ?_)
  · replace h := h.1 c4
    refine WP_iconst dX10_isTimed_16 (by decide) ?_
    refine WP_istore_n (L' := [(2, 183), (0, a1), (0, a2), (0, 0)]) dX10_isTimed_17 rfl (by decide) rfl ?_
    exact h
  · replace h := h.2 c4
    refine WP_iconst dX10_isTimed_14 (by decide) ?_
    exact WQ_zreturn dX10_isTimed_15 rfl ⟨by decide, by decide⟩ h

theorem s_X10_isTimed_18 {d : Nat} {sc : SC} {Q : Int → Mem → Prop} {μ : Mem} {x1 x2 x3 : Int}
    (h : (0 ≤ x1 ∧ x1 < 4) ∧ (μ 210 x1 ≤ x3 → Q 1 μ) ∧ (x3 < μ 210 x1 → CAi mX10_minuteAt d sc [(2, 183), (0, x2), (0, x3)] μ (fun r3 μ4 => (-2147483648 ≤ 40 * x1 ∧ 40 * x1 < 2147483648) ∧ (-2147483648 ≤ (40 * x1) + x3 ∧ (40 * x1) + x3 < 2147483648) ∧ (0 ≤ (40 * x1) + x3 ∧ (40 * x1) + x3 < 160) ∧ (r3 = μ4 211 ((40 * x1) + x3) → (-2147483648 ≤ x3 + 1 ∧ x3 + 1 < 2147483648) ∧ ∀ v10 : Int, v10 = x3 + 1 → WQ mX10_isTimed d sc (ZI sc Q) 18 [(2, 183), (0, x1), (0, x2), (0, v10)] [] μ4) ∧ (r3 ≠ μ4 211 ((40 * x1) + x3) → Q 0 μ4)))) :
    WQ mX10_isTimed d sc (ZI sc Q) 18 [(2, 183), (0, x1), (0, x2), (0, x3)] [] μ := by
  refine WP_iload_n dX10_isTimed_18 rfl rfl ?_
  refine WP_aload_n dX10_isTimed_19 rfl rfl ⟨Nat.le_of_ble_eq_true rfl, Nat.le_of_ble_eq_true rfl⟩ ?_
  refine WP_getfield (ci := 10) (j := 47) (n := 49) (t := 2) (x := 210) dX10_isTimed_20 f_X10_98 k_183 rfl rfl ?_
  refine WP_iload_n dX10_isTimed_23 rfl rfl ?_
  obtain ⟨g1, h⟩ := h
  refine WP_iaload (n := 4) dX10_isTimed_24 k_210 g1 ?_
  refine WQ_icmp_ge (tgt := 58) dX10_isTimed_25 (by decide) (fun c2 => ?_) (fun c2 => ?_)
  · replace h := h.1 c2
    refine WP_iconst dX10_isTimed_58 (by decide) ?_
    exact WQ_zreturn dX10_isTimed_59 rfl ⟨by decide, by decide⟩ h
  · replace h := h.2 c2
    refine WP_aload_n dX10_isTimed_28 rfl rfl ⟨Nat.le_of_ble_eq_true rfl, Nat.le_of_ble_eq_true rfl⟩ ?_
    refine WP_iload_n dX10_isTimed_29 rfl rfl ?_
    refine WP_iload_n dX10_isTimed_30 rfl rfl ?_
    refine WQ_invVi (v := (2, 183)) (as := [(0, x2), (0, x3)]) dX10_isTimed_31 l_X10_399 mw_X10_minuteAt mi_X10_minuteAt ms_X10_minuteAt mo_X10_minuteAt (rcv (ci := 10) (n := 49) (r := (RX10, TX10, 49)) k_183 rfl rfl) (Nat.le_of_ble_eq_true rfl) h rfl (fun r3 μ4 h => ?_)
    refine WP_i2l dX10_isTimed_34 ?_
    refine WP_aload_n dX10_isTimed_35 rfl rfl ⟨Nat.le_of_ble_eq_true rfl, Nat.le_of_ble_eq_true rfl⟩ ?_
    refine WP_getfield (ci := 10) (j := 48) (n := 49) (t := 2) (x := 211) dX10_isTimed_36 f_X10_101 k_183 rfl rfl ?_
    refine WP_bipush dX10_isTimed_39 (by decide +kernel) (by decide) ?_
    refine WP_iload_n dX10_isTimed_41 rfl rfl ?_
    obtain ⟨g5, h⟩ := h
    refine WP_imul dX10_isTimed_42 g5 ?_
    refine WP_iload_n dX10_isTimed_43 rfl rfl ?_
    obtain ⟨g6, h⟩ := h
    refine WP_iadd dX10_isTimed_44 g6 ?_
    obtain ⟨g7, h⟩ := h
    refine WP_laload (n := 160) dX10_isTimed_45 k_211 g7 ?_
    refine WQ_lifeq (tgt := 52) dX10_isTimed_46 dX10_isTimed_47 (by decide) (fun c8 => ?_) (fun c8 => ?_)
    · replace h := h.1 c8
      obtain ⟨g9, h⟩ := h
      refine WQ_iinc dX10_isTimed_52 rfl (by decide) g9 (fun v10 e10 => ?_)
      refine WP_same (L' := [(2, 183), (0, x1), (0, x2), (0, v10)]) rfl ?_
      replace h := h v10 e10
      refine WP_goto (tgt := 18) dX10_isTimed_55 (by decide) ?_
      exact h
    · replace h := h.2 c8
      refine WP_iconst dX10_isTimed_50 (by decide) ?_
      exact WQ_zreturn dX10_isTimed_51 rfl ⟨by decide, by decide⟩ h

theorem s_X10_judge_0 {d : Nat} {sc : SC} {Q : Int → Mem → Prop} {μ : Mem} {a1 a2 : Int}
    (h : ∀ μ1, μ1 = mup μ 183 0 0 → CAi mX10_within d sc [(1, a2), (1, 0), (1, 3)] μ1 (fun r2 μ3 => (r2 ≠ 0 → CAi mX10_noTray d sc [(2, 183), (0, a1)] μ3 (fun r5 μ6 => (r5 = 0 → CAv mX10_stores d sc [(2, 183)] μ6 (fun μ9 => CAi mX10_tells d sc [(2, 183), (0, a1)] μ9 (fun r10 μ11 => CAv mX10_laysDay d sc [(2, 183)] μ11 (fun μ13 => CAv mX10_isAgain d sc [(2, 183)] μ13 (fun μ15 => (a2 ≠ 0 → (a2 ≠ 1 → (a2 ≠ 2 → CAi mX10_nobodies d sc [(2, 183)] μ15 (fun r19 μ20 => Q r19 μ20)) ∧ (a2 = 2 → Q (μ15 183 36) μ15)) ∧ (a2 = 1 → Q (μ15 183 38) μ15)) ∧ (a2 = 0 → (μ15 183 38 ≠ 0 → Q r10 μ15) ∧ (μ15 183 38 = 0 → Q (-1) μ15))))))) ∧ (r5 ≠ 0 → Q r5 μ6))) ∧ (r2 = 0 → Q (-2) μ3))) :
    WQ mX10_judge d sc (ZI sc Q) 0 [(2, 183), (0, a1), (0, a2), (9, 0), (9, 0)] [] μ := by
  refine WP_aload_n dX10_judge_0 rfl rfl ⟨Nat.le_of_ble_eq_true rfl, Nat.le_of_ble_eq_true rfl⟩ ?_
  refine WP_iconst dX10_judge_1 (by decide) ?_
  refine WQ_put (ci := 10) (j := 0) (n := 49) dX10_judge_2 f_X10_1 k_183 rfl (fun μ1 eμ1 => ?_)
  replace h := h μ1 eμ1
  refine WP_iload_n dX10_judge_5 rfl rfl ?_
  refine WP_i2l dX10_judge_6 ?_
  refine WP_lconst dX10_judge_7 rfl ?_
  refine WP_ldc2 dX10_judge_8 c_X10_370 (by decide) ?_
  refine WQ_invSi (as := [(1, a2), (1, 0), (1, 3)]) dX10_judge_11 l_X10_170 mw_X10_within mt_X10_within mo_X10_within (Nat.le_of_ble_eq_true rfl) h rfl (fun r2 μ3 h => ?_)
  refine WQ_ifne (tgt := 20) dX10_judge_14 (by decide) (fun c4 => ?_) (fun c4 => ?_)
  · replace h := h.1 c4
    refine WP_aload_n dX10_judge_20 rfl rfl ⟨Nat.le_of_ble_eq_true rfl, Nat.le_of_ble_eq_true rfl⟩ ?_
    refine WP_iload_n dX10_judge_21 rfl rfl ?_
    refine WQ_invVi (v := (2, 183)) (as := [(0, a1)]) dX10_judge_22 l_X10_372 mw_X10_noTray mi_X10_noTray ms_X10_noTray mo_X10_noTray (rcv (ci := 10) (n := 49) (r := (RX10, TX10, 49)) k_183 rfl rfl) (Nat.le_of_ble_eq_true rfl) h rfl (fun r5 μ6 h => ?_)
    refine WP_istore_n (L' := [(2, 183), (0, a1), (0, a2), (0, r5), (9, 0)]) dX10_judge_25 rfl (by decide) rfl ?_
    refine WP_iload_n dX10_judge_26 rfl rfl ?_
    refine WQ_ifeq (tgt := 32) dX10_judge_27 (by decide) (fun c7 => ?_) (fun c7 => ?_)
    · replace h := h.1 c7
      refine WP_aload_n dX10_judge_32 rfl rfl ⟨Nat.le_of_ble_eq_true rfl, Nat.le_of_ble_eq_true rfl⟩ ?_
      refine WQ_invVv (v := (2, 183)) (as := []) dX10_judge_33 l_X10_320 mw_X10_stores mi_X10_stores ms_X10_stores mo_X10_stores (rcv (ci := 10) (n := 49) (r := (RX10, TX10, 49)) k_183 rfl rfl) (Nat.le_of_ble_eq_true rfl) h rfl (fun μ9 h => ?_)
      refine WP_aload_n dX10_judge_36 rfl rfl ⟨Nat.le_of_ble_eq_true rfl, Nat.le_of_ble_eq_true rfl⟩ ?_
      refine WP_iload_n dX10_judge_37 rfl rfl ?_
      refine WQ_invVi (v := (2, 183)) (as := [(0, a1)]) dX10_judge_38 l_X10_375 mw_X10_tells mi_X10_tells ms_X10_tells mo_X10_tells (rcv (ci := 10) (n := 49) (r := (RX10, TX10, 49)) k_183 rfl rfl) (Nat.le_of_ble_eq_true rfl) h rfl (fun r10 μ11 h => ?_)
      refine WP_istore (L' := [(2, 183), (0, a1), (0, a2), (0, r5), (0, r10)]) dX10_judge_41 (by decide) rfl ?_
      refine WP_aload_n dX10_judge_43 rfl rfl ⟨Nat.le_of_ble_eq_true rfl, Nat.le_of_ble_eq_true rfl⟩ ?_
      refine WQ_invVv (v := (2, 183)) (as := []) dX10_judge_44 l_X10_308 mw_X10_laysDay mi_X10_laysDay ms_X10_laysDay mo_X10_laysDay (rcv (ci := 10) (n := 49) (r := (RX10, TX10, 49)) k_183 rfl rfl) (Nat.le_of_ble_eq_true rfl) h rfl (fun μ13 h => ?_)
      refine WP_aload_n dX10_judge_47 rfl rfl ⟨Nat.le_of_ble_eq_true rfl, Nat.le_of_ble_eq_true rfl⟩ ?_
      refine WQ_invVv (v := (2, 183)) (as := []) dX10_judge_48 l_X10_378 mw_X10_isAgain mi_X10_isAgain ms_X10_isAgain mo_X10_isAgain (rcv (ci := 10) (n := 49) (r := (RX10, TX10, 49)) k_183 rfl rfl) (Nat.le_of_ble_eq_true rfl) h rfl (fun μ15 h => ?_)
      refine WP_iload_n dX10_judge_51 rfl rfl ?_
      refine WQ_ifne (tgt := 71) dX10_judge_52 (by decide) (fun c16 => ?_) (fun c16 => ?_)
      · replace h := h.1 c16
        refine WP_iload_n dX10_judge_71 rfl rfl ?_
        refine WP_iconst dX10_judge_72 (by decide) ?_
        refine WQ_icmp_ne (tgt := 83) dX10_judge_73 (by decide) (fun c17 => ?_) (fun c17 => ?_)
        · replace h := h.1 c17
          refine WP_iload_n dX10_judge_83 rfl rfl ?_
          refine WP_iconst dX10_judge_84 (by decide) ?_
          refine WQ_icmp_ne (tgt := 95) dX10_judge_85 (by decide) (fun c18 => ?_) (fun c18 => ?_)
          · replace h := h.1 c18
            refine WP_aload_n dX10_judge_95 rfl rfl ⟨Nat.le_of_ble_eq_true rfl, Nat.le_of_ble_eq_true rfl⟩ ?_
            refine WQ_invVi (v := (2, 183)) (as := []) dX10_judge_96 l_X10_381 mw_X10_nobodies mi_X10_nobodies ms_X10_nobodies mo_X10_nobodies (rcv (ci := 10) (n := 49) (r := (RX10, TX10, 49)) k_183 rfl rfl) (Nat.le_of_ble_eq_true rfl) h rfl (fun r19 μ20 h => ?_)
            exact WQ_ireturn dX10_judge_99 rfl h
          · replace h := h.2 c18
            refine WP_aload_n dX10_judge_88 rfl rfl ⟨Nat.le_of_ble_eq_true rfl, Nat.le_of_ble_eq_true rfl⟩ ?_
            refine WP_getfield (ci := 10) (j := 36) (n := 49) (t := 0) (x := μ15 183 36) dX10_judge_89 f_X10_287 k_183 rfl rfl ?_
            refine WP_goto (tgt := 99) dX10_judge_92 (by decide) ?_
            exact WQ_ireturn dX10_judge_99 rfl h
        · replace h := h.2 c17
          refine WP_aload_n dX10_judge_76 rfl rfl ⟨Nat.le_of_ble_eq_true rfl, Nat.le_of_ble_eq_true rfl⟩ ?_
          refine WP_getfield (ci := 10) (j := 38) (n := 49) (t := 0) (x := μ15 183 38) dX10_judge_77 f_X10_360 k_183 rfl rfl ?_
          refine WP_goto (tgt := 99) dX10_judge_80 (by decide) ?_
          exact WQ_ireturn dX10_judge_99 rfl h
      · replace h := h.2 c16
        refine WP_aload_n dX10_judge_55 rfl rfl ⟨Nat.le_of_ble_eq_true rfl, Nat.le_of_ble_eq_true rfl⟩ ?_
        refine WP_getfield (ci := 10) (j := 38) (n := 49) (t := 0) (x := μ15 183 38) dX10_judge_56 f_X10_360 k_183 rfl rfl ?_
        refine WQ_ifne (tgt := 66) dX10_judge_59 (by decide) (fun c21 => ?_) (fun c21 => ?_)
        · replace h := h.1 c21
          refine WP_iload dX10_judge_66 rfl ?_
          refine WP_goto (tgt := 99) dX10_judge_68 (by decide) ?_
          exact WQ_ireturn dX10_judge_99 rfl h
        · replace h := h.2 c21
          refine WP_iconst dX10_judge_62 (by decide) ?_
          refine WP_goto (tgt := 99) dX10_judge_63 (by decide) ?_
          exact WQ_ireturn dX10_judge_99 rfl h
    · replace h := h.2 c7
      refine WP_iload_n dX10_judge_30 rfl rfl ?_
      exact WQ_ireturn dX10_judge_31 rfl h
  · replace h := h.2 c4
    refine WP_bipush dX10_judge_17 (by decide +kernel) (by decide) ?_
    exact WQ_ireturn dX10_judge_19 rfl h

theorem s_X10_kept_0 {d : Nat} {sc : SC} {Q : Int → Mem → Prop} {μ : Mem} {a0 a1 a2 : Int}
    (h : (a1 ≤ a0 → (a0 ≤ a2 → Q a0 μ) ∧ (a2 < a0 → Q a2 μ)) ∧ (a0 < a1 → Q a1 μ)) :
    WQ mX10_kept d sc (ZI sc Q) 0 [(0, a0), (0, a1), (0, a2)] [] μ := by
  refine WP_iload_n dX10_kept_0 rfl rfl ?_
  refine WP_iload_n dX10_kept_1 rfl rfl ?_
  refine WQ_icmp_ge (tgt := 9) dX10_kept_2 (by decide) (fun c1 => ?_) (fun c1 => ?_)
  · replace h := h.1 c1
    refine WP_iload_n dX10_kept_9 rfl rfl ?_
    refine WP_iload_n dX10_kept_10 rfl rfl ?_
    refine WQ_icmp_le (tgt := 18) dX10_kept_11 (by decide) (fun c2 => ?_) (fun c2 => ?_)
    · replace h := h.1 c2
      refine WP_iload_n dX10_kept_18 rfl rfl ?_
      exact WQ_ireturn dX10_kept_19 rfl h
    · replace h := h.2 c2
      refine WP_iload_n dX10_kept_14 rfl rfl ?_
      refine WP_goto (tgt := 19) dX10_kept_15 (by decide) ?_
      exact WQ_ireturn dX10_kept_19 rfl h
  · replace h := h.2 c1
    refine WP_iload_n dX10_kept_5 rfl rfl ?_
    refine WP_goto (tgt := 19) dX10_kept_6 (by decide) ?_
    exact WQ_ireturn dX10_kept_19 rfl h

theorem s_X10_keyAt_0 {d : Nat} {sc : SC} {Q : Int → Mem → Prop} {μ : Mem}
    (h : WQ mX10_keyAt d sc (ZI sc Q) 4 [(2, 183), (0, 0), (0, 1), (9, 0)] [] μ) :
    WQ mX10_keyAt d sc (ZI sc Q) 0 [(2, 183), (9, 0), (9, 0), (9, 0)] [] μ := by
  refine WP_iconst dX10_keyAt_0 (by decide) ?_
  refine WP_istore_n (L' := [(2, 183), (0, 0), (9, 0), (9, 0)]) dX10_keyAt_1 rfl (by decide) rfl ?_
  refine WP_iconst dX10_keyAt_2 (by decide) ?_
  refine WP_istore_n (L' := [(2, 183), (0, 0), (0, 1), (9, 0)]) dX10_keyAt_3 rfl (by decide) rfl ?_
  exact h

theorem s_X10_keyAt_4 {d : Nat} {sc : SC} {Q : Int → Mem → Prop} {μ : Mem} {x1 x2 : Int}
    (h : CAi mJ0_length_8abf5 d sc [(3, 2)] μ (fun r1 μ2 => (r1 ≤ x2 → Q 24 μ2) ∧ (x2 < r1 → WQ mX10_keyAt d sc (ZI sc Q) 15 [(2, 183), (0, x1), (0, x2), (0, 0)] [] μ2))) :
    WQ mX10_keyAt d sc (ZI sc Q) 4 [(2, 183), (0, x1), (0, x2), (9, 0)] [] μ := by
  refine WP_iload_n dX10_keyAt_4 rfl rfl ?_
  refine WP_ldcS (i := 2) dX10_keyAt_5 (by decide) rfl rfl ?_
  refine WQ_invVi (v := (3, 2)) (as := []) dX10_keyAt_7 l_X10_116 mw_J0_length_8abf5 mi_J0_length_8abf5 ms_J0_length_8abf5 mo_J0_length_8abf5 (rcv_tx rfl) (Nat.le_of_ble_eq_true rfl) h rfl (fun r1 μ2 h => ?_)
  refine WQ_icmp_ge (tgt := 123) dX10_keyAt_10 (by decide) (fun c3 => ?_) (fun c3 => ?_)
  · replace h := h.1 c3
    refine WP_bipush dX10_keyAt_123 (by decide +kernel) (by decide) ?_
    exact WQ_ireturn dX10_keyAt_125 rfl h
  · replace h := h.2 c3
    refine WP_iconst dX10_keyAt_13 (by decide) ?_
    refine WP_istore_n (L' := [(2, 183), (0, x1), (0, x2), (0, 0)]) dX10_keyAt_14 rfl (by decide) rfl ?_
    exact h

theorem s_X10_keyAt_15 {d : Nat} {sc : SC} {Q : Int → Mem → Prop} {μ : Mem} {x1 x2 x3 : Int}
    (h : (-2147483648 ≤ x2 + x3 ∧ x2 + x3 < 2147483648) ∧ CAi mJ0_charAt_5068e d sc [(3, 2), (0, x2 + x3)] μ (fun r2 μ3 => (r2 = 32 → (-2147483648 ≤ x2 + x3 ∧ x2 + x3 < 2147483648) ∧ CAi mJ0_charAt_5068e d sc [(3, 2), (0, x2 + x3)] μ3 (fun r6 μ7 => (r6 ≠ 32 → WQ mX10_keyAt d sc (ZI sc Q) 97 [(2, 183), (0, x1), (0, x2), (9, 0)] [] μ7) ∧ (r6 = 32 → (-2147483648 ≤ (μ7 183 6) + x3 ∧ (μ7 183 6) + x3 < 2147483648) ∧ ((μ7 183 6) + x3 ≠ μ7 183 7 → WQ mX10_keyAt d sc (ZI sc Q) 97 [(2, 183), (0, x1), (0, x2), (9, 0)] [] μ7) ∧ ((μ7 183 6) + x3 = μ7 183 7 → Q x1 μ7)))) ∧ (r2 ≠ 32 → (-2147483648 ≤ (μ3 183 6) + x3 ∧ (μ3 183 6) + x3 < 2147483648) ∧ (μ3 183 7 ≤ (μ3 183 6) + x3 → (-2147483648 ≤ x2 + x3 ∧ x2 + x3 < 2147483648) ∧ CAi mJ0_charAt_5068e d sc [(3, 2), (0, x2 + x3)] μ3 (fun r14 μ15 => (r14 ≠ 32 → WQ mX10_keyAt d sc (ZI sc Q) 97 [(2, 183), (0, x1), (0, x2), (9, 0)] [] μ15) ∧ (r14 = 32 → (-2147483648 ≤ (μ15 183 6) + x3 ∧ (μ15 183 6) + x3 < 2147483648) ∧ ((μ15 183 6) + x3 ≠ μ15 183 7 → WQ mX10_keyAt d sc (ZI sc Q) 97 [(2, 183), (0, x1), (0, x2), (9, 0)] [] μ15) ∧ ((μ15 183 6) + x3 = μ15 183 7 → Q x1 μ15)))) ∧ ((μ3 183 6) + x3 < μ3 183 7 → (-2147483648 ≤ (μ3 183 6) + x3 ∧ (μ3 183 6) + x3 < 2147483648) ∧ (0 ≤ (μ3 183 6) + x3 ∧ (μ3 183 6) + x3 < 900) ∧ (-2147483648 ≤ x2 + x3 ∧ x2 + x3 < 2147483648) ∧ CAi mJ0_charAt_5068e d sc [(3, 2), (0, x2 + x3)] μ3 (fun r22 μ23 => (μ3 186 ((μ3 183 6) + x3) ≠ r22 → (-2147483648 ≤ x2 + x3 ∧ x2 + x3 < 2147483648) ∧ CAi mJ0_charAt_5068e d sc [(3, 2), (0, x2 + x3)] μ23 (fun r26 μ27 => (r26 ≠ 32 → WQ mX10_keyAt d sc (ZI sc Q) 97 [(2, 183), (0, x1), (0, x2), (9, 0)] [] μ27) ∧ (r26 = 32 → (-2147483648 ≤ (μ27 183 6) + x3 ∧ (μ27 183 6) + x3 < 2147483648) ∧ ((μ27 183 6) + x3 ≠ μ27 183 7 → WQ mX10_keyAt d sc (ZI sc Q) 97 [(2, 183), (0, x1), (0, x2), (9, 0)] [] μ27) ∧ ((μ27 183 6) + x3 = μ27 183 7 → Q x1 μ27)))) ∧ (μ3 186 ((μ3 183 6) + x3) = r22 → (-2147483648 ≤ x3 + 1 ∧ x3 + 1 < 2147483648) ∧ ∀ v32 : Int, v32 = x3 + 1 → WQ mX10_keyAt d sc (ZI sc Q) 15 [(2, 183), (0, x1), (0, x2), (0, v32)] [] μ23)))))) :
    WQ mX10_keyAt d sc (ZI sc Q) 15 [(2, 183), (0, x1), (0, x2), (0, x3)] [] μ := by
  refine WP_ldcS (i := 2) dX10_keyAt_15 (by decide) rfl rfl ?_
  refine WP_iload_n dX10_keyAt_17 rfl rfl ?_
  refine WP_iload_n dX10_keyAt_18 rfl rfl ?_
  obtain ⟨g1, h⟩ := h
  refine WP_iadd dX10_keyAt_19 g1 ?_
  refine WQ_invVi (v := (3, 2)) (as := [(0, x2 + x3)]) dX10_keyAt_20 l_X10_122 mw_J0_charAt_5068e mi_J0_charAt_5068e ms_J0_charAt_5068e mo_J0_charAt_5068e (rcv_tx rfl) (Nat.le_of_ble_eq_true rfl) h rfl (fun r2 μ3 h => ?_)
  refine WP_bipush dX10_keyAt_23 (by decide +kernel) (by decide) ?_
  refine WQ_icmp_eq (tgt := 69) dX10_keyAt_25 (by decide) (fun c4 => ?_) (fun c4 => ?_)
  · replace h := h.1 c4
    refine WP_ldcS (i := 2) dX10_keyAt_69 (by decide) rfl rfl ?_
    refine WP_iload_n dX10_keyAt_71 rfl rfl ?_
    refine WP_iload_n dX10_keyAt_72 rfl rfl ?_
    obtain ⟨g5, h⟩ := h
    refine WP_iadd dX10_keyAt_73 g5 ?_
    refine WQ_invVi (v := (3, 2)) (as := [(0, x2 + x3)]) dX10_keyAt_74 l_X10_122 mw_J0_charAt_5068e mi_J0_charAt_5068e ms_J0_charAt_5068e mo_J0_charAt_5068e (rcv_tx rfl) (Nat.le_of_ble_eq_true rfl) h rfl (fun r6 μ7 h => ?_)
    refine WP_bipush dX10_keyAt_77 (by decide +kernel) (by decide) ?_
    refine WQ_icmp_ne (tgt := 97) dX10_keyAt_79 (by decide) (fun c8 => ?_) (fun c8 => ?_)
    · replace h := h.1 c8
      refine WP_lforget (L' := [(2, 183), (0, x1), (0, x2), (9, 0)]) rfl (fun i hi => ?_) h
      match i, hi with
      | 0, _ => exact Or.inl rfl
      | 1, _ => exact Or.inl rfl
      | 2, _ => exact Or.inl rfl
      | 3, _ => exact Or.inr rfl
      | i + 4, hi => exact absurd hi (by simp only [List.length_cons, List.length_nil]; omega)
    · replace h := h.2 c8
      refine WP_aload_n dX10_keyAt_82 rfl rfl ⟨Nat.le_of_ble_eq_true rfl, Nat.le_of_ble_eq_true rfl⟩ ?_
      refine WP_getfield (ci := 10) (j := 6) (n := 49) (t := 0) (x := μ7 183 6) dX10_keyAt_83 f_X10_126 k_183 rfl rfl ?_
      refine WP_iload_n dX10_keyAt_86 rfl rfl ?_
      obtain ⟨g9, h⟩ := h
      refine WP_iadd dX10_keyAt_87 g9 ?_
      refine WP_aload_n dX10_keyAt_88 rfl rfl ⟨Nat.le_of_ble_eq_true rfl, Nat.le_of_ble_eq_true rfl⟩ ?_
      refine WP_getfield (ci := 10) (j := 7) (n := 49) (t := 0) (x := μ7 183 7) dX10_keyAt_89 f_X10_129 k_183 rfl rfl ?_
      refine WQ_icmp_ne (tgt := 97) dX10_keyAt_92 (by decide) (fun c10 => ?_) (fun c10 => ?_)
      · replace h := h.1 c10
        refine WP_lforget (L' := [(2, 183), (0, x1), (0, x2), (9, 0)]) rfl (fun i hi => ?_) h
        match i, hi with
        | 0, _ => exact Or.inl rfl
        | 1, _ => exact Or.inl rfl
        | 2, _ => exact Or.inl rfl
        | 3, _ => exact Or.inr rfl
        | i + 4, hi => exact absurd hi (by simp only [List.length_cons, List.length_nil]; omega)
      · replace h := h.2 c10
        refine WP_iload_n dX10_keyAt_95 rfl rfl ?_
        exact WQ_ireturn dX10_keyAt_96 rfl h
  · replace h := h.2 c4
    refine WP_aload_n dX10_keyAt_28 rfl rfl ⟨Nat.le_of_ble_eq_true rfl, Nat.le_of_ble_eq_true rfl⟩ ?_
    refine WP_getfield (ci := 10) (j := 6) (n := 49) (t := 0) (x := μ3 183 6) dX10_keyAt_29 f_X10_126 k_183 rfl rfl ?_
    refine WP_iload_n dX10_keyAt_32 rfl rfl ?_
    obtain ⟨g11, h⟩ := h
    refine WP_iadd dX10_keyAt_33 g11 ?_
    refine WP_aload_n dX10_keyAt_34 rfl rfl ⟨Nat.le_of_ble_eq_true rfl, Nat.le_of_ble_eq_true rfl⟩ ?_
    refine WP_getfield (ci := 10) (j := 7) (n := 49) (t := 0) (x := μ3 183 7) dX10_keyAt_35 f_X10_129 k_183 rfl rfl ?_
    refine WQ_icmp_ge (tgt := 69) dX10_keyAt_38 (by decide) (fun c12 => ?_) (fun c12 => ?_)
    · replace h := h.1 c12
      refine WP_ldcS (i := 2) dX10_keyAt_69 (by decide) rfl rfl ?_
      refine WP_iload_n dX10_keyAt_71 rfl rfl ?_
      refine WP_iload_n dX10_keyAt_72 rfl rfl ?_
      obtain ⟨g13, h⟩ := h
      refine WP_iadd dX10_keyAt_73 g13 ?_
      refine WQ_invVi (v := (3, 2)) (as := [(0, x2 + x3)]) dX10_keyAt_74 l_X10_122 mw_J0_charAt_5068e mi_J0_charAt_5068e ms_J0_charAt_5068e mo_J0_charAt_5068e (rcv_tx rfl) (Nat.le_of_ble_eq_true rfl) h rfl (fun r14 μ15 h => ?_)
      refine WP_bipush dX10_keyAt_77 (by decide +kernel) (by decide) ?_
      refine WQ_icmp_ne (tgt := 97) dX10_keyAt_79 (by decide) (fun c16 => ?_) (fun c16 => ?_)
      · replace h := h.1 c16
        refine WP_lforget (L' := [(2, 183), (0, x1), (0, x2), (9, 0)]) rfl (fun i hi => ?_) h
        match i, hi with
        | 0, _ => exact Or.inl rfl
        | 1, _ => exact Or.inl rfl
        | 2, _ => exact Or.inl rfl
        | 3, _ => exact Or.inr rfl
        | i + 4, hi => exact absurd hi (by simp only [List.length_cons, List.length_nil]; omega)
      · replace h := h.2 c16
        refine WP_aload_n dX10_keyAt_82 rfl rfl ⟨Nat.le_of_ble_eq_true rfl, Nat.le_of_ble_eq_true rfl⟩ ?_
        refine WP_getfield (ci := 10) (j := 6) (n := 49) (t := 0) (x := μ15 183 6) dX10_keyAt_83 f_X10_126 k_183 rfl rfl ?_
        refine WP_iload_n dX10_keyAt_86 rfl rfl ?_
        obtain ⟨g17, h⟩ := h
        refine WP_iadd dX10_keyAt_87 g17 ?_
        refine WP_aload_n dX10_keyAt_88 rfl rfl ⟨Nat.le_of_ble_eq_true rfl, Nat.le_of_ble_eq_true rfl⟩ ?_
        refine WP_getfield (ci := 10) (j := 7) (n := 49) (t := 0) (x := μ15 183 7) dX10_keyAt_89 f_X10_129 k_183 rfl rfl ?_
        refine WQ_icmp_ne (tgt := 97) dX10_keyAt_92 (by decide) (fun c18 => ?_) (fun c18 => ?_)
        · replace h := h.1 c18
          refine WP_lforget (L' := [(2, 183), (0, x1), (0, x2), (9, 0)]) rfl (fun i hi => ?_) h
          match i, hi with
          | 0, _ => exact Or.inl rfl
          | 1, _ => exact Or.inl rfl
          | 2, _ => exact Or.inl rfl
          | 3, _ => exact Or.inr rfl
          | i + 4, hi => exact absurd hi (by simp only [List.length_cons, List.length_nil]; omega)
        · replace h := h.2 c18
          refine WP_iload_n dX10_keyAt_95 rfl rfl ?_
          exact WQ_ireturn dX10_keyAt_96 rfl h
    · replace h := h.2 c12
      refine WP_aload_n dX10_keyAt_41 rfl rfl ⟨Nat.le_of_ble_eq_true rfl, Nat.le_of_ble_eq_true rfl⟩ ?_
      refine WP_getfield (ci := 10) (j := 3) (n := 49) (t := 2) (x := 186) dX10_keyAt_42 f_X10_21 k_183 rfl rfl ?_
      refine WP_aload_n dX10_keyAt_45 rfl rfl ⟨Nat.le_of_ble_eq_true rfl, Nat.le_of_ble_eq_true rfl⟩ ?_
      refine WP_getfield (ci := 10) (j := 6) (n := 49) (t := 0) (x := μ3 183 6) dX10_keyAt_46 f_X10_126 k_183 rfl rfl ?_
      refine WP_iload_n dX10_keyAt_49 rfl rfl ?_
      obtain ⟨g19, h⟩ := h
      refine WP_iadd dX10_keyAt_50 g19 ?_
      obtain ⟨g20, h⟩ := h
      refine WP_iaload (n := 900) dX10_keyAt_51 k_186 g20 ?_
      refine WP_ldcS (i := 2) dX10_keyAt_52 (by decide) rfl rfl ?_
      refine WP_iload_n dX10_keyAt_54 rfl rfl ?_
      refine WP_iload_n dX10_keyAt_55 rfl rfl ?_
      obtain ⟨g21, h⟩ := h
      refine WP_iadd dX10_keyAt_56 g21 ?_
      refine WQ_invVi (v := (3, 2)) (as := [(0, x2 + x3)]) dX10_keyAt_57 l_X10_122 mw_J0_charAt_5068e mi_J0_charAt_5068e ms_J0_charAt_5068e mo_J0_charAt_5068e (rcv_tx rfl) (Nat.le_of_ble_eq_true rfl) h rfl (fun r22 μ23 h => ?_)
      refine WQ_icmp_ne (tgt := 69) dX10_keyAt_60 (by decide) (fun c24 => ?_) (fun c24 => ?_)
      · replace h := h.1 c24
        refine WP_ldcS (i := 2) dX10_keyAt_69 (by decide) rfl rfl ?_
        refine WP_iload_n dX10_keyAt_71 rfl rfl ?_
        refine WP_iload_n dX10_keyAt_72 rfl rfl ?_
        obtain ⟨g25, h⟩ := h
        refine WP_iadd dX10_keyAt_73 g25 ?_
        refine WQ_invVi (v := (3, 2)) (as := [(0, x2 + x3)]) dX10_keyAt_74 l_X10_122 mw_J0_charAt_5068e mi_J0_charAt_5068e ms_J0_charAt_5068e mo_J0_charAt_5068e (rcv_tx rfl) (Nat.le_of_ble_eq_true rfl) h rfl (fun r26 μ27 h => ?_)
        refine WP_bipush dX10_keyAt_77 (by decide +kernel) (by decide) ?_
        refine WQ_icmp_ne (tgt := 97) dX10_keyAt_79 (by decide) (fun c28 => ?_) (fun c28 => ?_)
        · replace h := h.1 c28
          refine WP_lforget (L' := [(2, 183), (0, x1), (0, x2), (9, 0)]) rfl (fun i hi => ?_) h
          match i, hi with
          | 0, _ => exact Or.inl rfl
          | 1, _ => exact Or.inl rfl
          | 2, _ => exact Or.inl rfl
          | 3, _ => exact Or.inr rfl
          | i + 4, hi => exact absurd hi (by simp only [List.length_cons, List.length_nil]; omega)
        · replace h := h.2 c28
          refine WP_aload_n dX10_keyAt_82 rfl rfl ⟨Nat.le_of_ble_eq_true rfl, Nat.le_of_ble_eq_true rfl⟩ ?_
          refine WP_getfield (ci := 10) (j := 6) (n := 49) (t := 0) (x := μ27 183 6) dX10_keyAt_83 f_X10_126 k_183 rfl rfl ?_
          refine WP_iload_n dX10_keyAt_86 rfl rfl ?_
          obtain ⟨g29, h⟩ := h
          refine WP_iadd dX10_keyAt_87 g29 ?_
          refine WP_aload_n dX10_keyAt_88 rfl rfl ⟨Nat.le_of_ble_eq_true rfl, Nat.le_of_ble_eq_true rfl⟩ ?_
          refine WP_getfield (ci := 10) (j := 7) (n := 49) (t := 0) (x := μ27 183 7) dX10_keyAt_89 f_X10_129 k_183 rfl rfl ?_
          refine WQ_icmp_ne (tgt := 97) dX10_keyAt_92 (by decide) (fun c30 => ?_) (fun c30 => ?_)
          · replace h := h.1 c30
            refine WP_lforget (L' := [(2, 183), (0, x1), (0, x2), (9, 0)]) rfl (fun i hi => ?_) h
            match i, hi with
            | 0, _ => exact Or.inl rfl
            | 1, _ => exact Or.inl rfl
            | 2, _ => exact Or.inl rfl
            | 3, _ => exact Or.inr rfl
            | i + 4, hi => exact absurd hi (by simp only [List.length_cons, List.length_nil]; omega)
          · replace h := h.2 c30
            refine WP_iload_n dX10_keyAt_95 rfl rfl ?_
            exact WQ_ireturn dX10_keyAt_96 rfl h
      · replace h := h.2 c24
        obtain ⟨g31, h⟩ := h
        refine WQ_iinc dX10_keyAt_63 rfl (by decide) g31 (fun v32 e32 => ?_)
        refine WP_same (L' := [(2, 183), (0, x1), (0, x2), (0, v32)]) rfl ?_
        replace h := h v32 e32
        refine WP_goto (tgt := 15) dX10_keyAt_66 (by decide) ?_
        exact h

theorem s_X10_keyAt_97 {d : Nat} {sc : SC} {Q : Int → Mem → Prop} {μ : Mem} {x1 x2 : Int}
    (h : CAi mJ0_charAt_5068e d sc [(3, 2), (0, x2)] μ (fun r1 μ2 => (r1 = 32 → (-2147483648 ≤ x2 + 1 ∧ x2 + 1 < 2147483648) ∧ ∀ v5 : Int, v5 = x2 + 1 → (-2147483648 ≤ x1 + 1 ∧ x1 + 1 < 2147483648) ∧ ∀ v7 : Int, v7 = x1 + 1 → WQ mX10_keyAt d sc (ZI sc Q) 4 [(2, 183), (0, v7), (0, v5), (9, 0)] [] μ2) ∧ (r1 ≠ 32 → (-2147483648 ≤ x2 + 1 ∧ x2 + 1 < 2147483648) ∧ ∀ v9 : Int, v9 = x2 + 1 → WQ mX10_keyAt d sc (ZI sc Q) 97 [(2, 183), (0, x1), (0, v9), (9, 0)] [] μ2))) :
    WQ mX10_keyAt d sc (ZI sc Q) 97 [(2, 183), (0, x1), (0, x2), (9, 0)] [] μ := by
  refine WP_ldcS (i := 2) dX10_keyAt_97 (by decide) rfl rfl ?_
  refine WP_iload_n dX10_keyAt_99 rfl rfl ?_
  refine WQ_invVi (v := (3, 2)) (as := [(0, x2)]) dX10_keyAt_100 l_X10_122 mw_J0_charAt_5068e mi_J0_charAt_5068e ms_J0_charAt_5068e mo_J0_charAt_5068e (rcv_tx rfl) (Nat.le_of_ble_eq_true rfl) h rfl (fun r1 μ2 h => ?_)
  refine WP_bipush dX10_keyAt_103 (by decide +kernel) (by decide) ?_
  refine WQ_icmp_eq (tgt := 114) dX10_keyAt_105 (by decide) (fun c3 => ?_) (fun c3 => ?_)
  · replace h := h.1 c3
    obtain ⟨g4, h⟩ := h
    refine WQ_iinc dX10_keyAt_114 rfl (by decide) g4 (fun v5 e5 => ?_)
    refine WP_same (L' := [(2, 183), (0, x1), (0, v5), (9, 0)]) rfl ?_
    replace h := h v5 e5
    obtain ⟨g6, h⟩ := h
    refine WQ_iinc dX10_keyAt_117 rfl (by decide) g6 (fun v7 e7 => ?_)
    refine WP_same (L' := [(2, 183), (0, v7), (0, v5), (9, 0)]) rfl ?_
    replace h := h v7 e7
    refine WP_goto (tgt := 4) dX10_keyAt_120 (by decide) ?_
    exact h
  · replace h := h.2 c3
    obtain ⟨g8, h⟩ := h
    refine WQ_iinc dX10_keyAt_108 rfl (by decide) g8 (fun v9 e9 => ?_)
    refine WP_same (L' := [(2, 183), (0, x1), (0, v9), (9, 0)]) rfl ?_
    replace h := h v9 e9
    refine WP_goto (tgt := 97) dX10_keyAt_111 (by decide) ?_
    exact h

theorem s_X10_laysChances_0 {d : Nat} {sc : SC} {Q : Mem → Prop} {μ : Mem}
    (h : CAv mX10_laysGaps d sc [(2, 183)] μ (fun μ2 => WQ mX10_laysChances d sc (ZV sc Q) 6 [(2, 183), (0, 0), (9, 0), (9, 0), (9, 0), (9, 0)] [] μ2)) :
    WQ mX10_laysChances d sc (ZV sc Q) 0 [(2, 183), (9, 0), (9, 0), (9, 0), (9, 0), (9, 0)] [] μ := by
  refine WP_aload_n dX10_laysChances_0 rfl rfl ⟨Nat.le_of_ble_eq_true rfl, Nat.le_of_ble_eq_true rfl⟩ ?_
  refine WQ_invVv (v := (2, 183)) (as := []) dX10_laysChances_1 l_X10_297 mw_X10_laysGaps mi_X10_laysGaps ms_X10_laysGaps mo_X10_laysGaps (rcv (ci := 10) (n := 49) (r := (RX10, TX10, 49)) k_183 rfl rfl) (Nat.le_of_ble_eq_true rfl) h rfl (fun μ2 h => ?_)
  refine WP_iconst dX10_laysChances_4 (by decide) ?_
  refine WP_istore_n (L' := [(2, 183), (0, 0), (9, 0), (9, 0), (9, 0), (9, 0)]) dX10_laysChances_5 rfl (by decide) rfl ?_
  exact h

theorem s_X10_laysChances_6 {d : Nat} {sc : SC} {Q : Mem → Prop} {μ : Mem} {x1 : Int}
    (h : (6 ≤ x1 → WQ mX10_laysChances d sc (ZV sc Q) 34 [(2, 183), (0, 0), (9, 0), (9, 0), (9, 0), (9, 0)] [] μ) ∧ (x1 < 6 → (0 ≤ x1 ∧ x1 < 6) ∧ (∀ μ3, μ3 = mup μ 207 x1 0 → (0 ≤ x1 ∧ x1 < 6) ∧ (∀ μ5, μ5 = mup μ3 208 x1 0 → (-2147483648 ≤ x1 + 1 ∧ x1 + 1 < 2147483648) ∧ ∀ v7 : Int, v7 = x1 + 1 → WQ mX10_laysChances d sc (ZV sc Q) 6 [(2, 183), (0, v7), (9, 0), (9, 0), (9, 0), (9, 0)] [] μ5)))) :
    WQ mX10_laysChances d sc (ZV sc Q) 6 [(2, 183), (0, x1), (9, 0), (9, 0), (9, 0), (9, 0)] [] μ := by
  refine WP_iload_n dX10_laysChances_6 rfl rfl ?_
  refine WP_bipush dX10_laysChances_7 (by decide +kernel) (by decide) ?_
  refine WQ_icmp_ge (tgt := 32) dX10_laysChances_9 (by decide) (fun c1 => ?_) (fun c1 => ?_)
  · replace h := h.1 c1
    refine WP_iconst dX10_laysChances_32 (by decide) ?_
    refine WP_istore_n (L' := [(2, 183), (0, 0), (9, 0), (9, 0), (9, 0), (9, 0)]) dX10_laysChances_33 rfl (by decide) rfl ?_
    exact h
  · replace h := h.2 c1
    refine WP_aload_n dX10_laysChances_12 rfl rfl ⟨Nat.le_of_ble_eq_true rfl, Nat.le_of_ble_eq_true rfl⟩ ?_
    refine WP_getfield (ci := 10) (j := 44) (n := 49) (t := 2) (x := 207) dX10_laysChances_13 f_X10_88 k_183 rfl rfl ?_
    refine WP_iload_n dX10_laysChances_16 rfl rfl ?_
    refine WP_lconst dX10_laysChances_17 rfl ?_
    obtain ⟨g2, h⟩ := h
    refine WQ_last (n := 6) dX10_laysChances_18 k_207 g2 (fun μ3 eμ3 => ?_)
    replace h := h μ3 eμ3
    refine WP_aload_n dX10_laysChances_19 rfl rfl ⟨Nat.le_of_ble_eq_true rfl, Nat.le_of_ble_eq_true rfl⟩ ?_
    refine WP_getfield (ci := 10) (j := 45) (n := 49) (t := 2) (x := 208) dX10_laysChances_20 f_X10_92 k_183 rfl rfl ?_
    refine WP_iload_n dX10_laysChances_23 rfl rfl ?_
    refine WP_lconst dX10_laysChances_24 rfl ?_
    obtain ⟨g4, h⟩ := h
    refine WQ_last (n := 6) dX10_laysChances_25 k_208 g4 (fun μ5 eμ5 => ?_)
    replace h := h μ5 eμ5
    obtain ⟨g6, h⟩ := h
    refine WQ_iinc dX10_laysChances_26 rfl (by decide) g6 (fun v7 e7 => ?_)
    refine WP_same (L' := [(2, 183), (0, v7), (9, 0), (9, 0), (9, 0), (9, 0)]) rfl ?_
    replace h := h v7 e7
    refine WP_goto (tgt := 6) dX10_laysChances_29 (by decide) ?_
    exact h

theorem s_X10_laysChances_34 {d : Nat} {sc : SC} {Q : Mem → Prop} {μ : Mem} {x1 : Int}
    (h : (iShl 1 (μ 184 31) ≤ x1 → Q μ) ∧ (x1 < iShl 1 (μ 184 31) → WQ mX10_laysChances d sc (ZV sc Q) 52 [(2, 183), (0, x1), (1, 1), (9, 0), (0, 0), (9, 0)] [] μ)) :
    WQ mX10_laysChances d sc (ZV sc Q) 34 [(2, 183), (0, x1), (9, 0), (9, 0), (9, 0), (9, 0)] [] μ := by
  refine WP_iload_n dX10_laysChances_34 rfl rfl ?_
  refine WP_iconst dX10_laysChances_35 (by decide) ?_
  refine WP_aload_n dX10_laysChances_36 rfl rfl ⟨Nat.le_of_ble_eq_true rfl, Nat.le_of_ble_eq_true rfl⟩ ?_
  refine WP_getfield (ci := 10) (j := 1) (n := 49) (t := 2) (x := 184) dX10_laysChances_37 f_X10_13 k_183 rfl rfl ?_
  refine WP_bipush dX10_laysChances_40 (by decide +kernel) (by decide) ?_
  refine WP_iaload (n := 4119) dX10_laysChances_42 k_184 ⟨by decide, by decide⟩ ?_
  refine WP_ishl dX10_laysChances_43 ?_
  refine WQ_icmp_ge (tgt := 206) dX10_laysChances_44 (by decide) (fun c2 => ?_) (fun c2 => ?_)
  · replace h := h.1 c2
    exact WQ_return dX10_laysChances_206 rfl h
  · replace h := h.2 c2
    refine WP_lconst dX10_laysChances_47 rfl ?_
    refine WP_lstore_n (L' := [(2, 183), (0, x1), (1, 1), (9, 0), (9, 0), (9, 0)]) dX10_laysChances_48 rfl (by decide) rfl ?_
    refine WP_iconst dX10_laysChances_49 (by decide) ?_
    refine WP_istore (L' := [(2, 183), (0, x1), (1, 1), (9, 0), (0, 0), (9, 0)]) dX10_laysChances_50 (by decide) rfl ?_
    exact h

theorem s_X10_laysChances_52 {d : Nat} {sc : SC} {Q : Mem → Prop} {μ : Mem} {x1 x2 x4 : Int}
    (h : (μ 184 31 ≤ x4 → (x2 ≠ 0 → CAv mX10_laysTold d sc [(2, 183), (0, x1)] μ (fun μ5 => CAv mX10_goesDay d sc [(2, 183)] μ5 (fun μ7 => WQ mX10_laysChances d sc (ZV sc Q) 140 [(2, 183), (0, x1), (1, x2), (9, 0), (0, 0), (9, 0)] [] μ7))) ∧ (x2 = 0 → (-2147483648 ≤ x1 + 1 ∧ x1 + 1 < 2147483648) ∧ ∀ v9 : Int, v9 = x1 + 1 → WQ mX10_laysChances d sc (ZV sc Q) 34 [(2, 183), (0, v9), (9, 0), (9, 0), (9, 0), (9, 0)] [] μ)) ∧ (x4 < μ 184 31 → CAi mX10_isIn d sc [(1, x1), (0, x4)] μ (fun r10 μ11 => (r10 = 0 → (-2147483648 ≤ 4 * x4 ∧ 4 * x4 < 2147483648) ∧ (-2147483648 ≤ 32 + (4 * x4) ∧ 32 + (4 * x4) < 2147483648) ∧ (-2147483648 ≤ (32 + (4 * x4)) + 3 ∧ (32 + (4 * x4)) + 3 < 2147483648) ∧ (0 ≤ (32 + (4 * x4)) + 3 ∧ (32 + (4 * x4)) + 3 < 4119) ∧ (-2147483648 ≤ 10 - (μ11 184 ((32 + (4 * x4)) + 3)) ∧ 10 - (μ11 184 ((32 + (4 * x4)) + 3)) < 2147483648) ∧ (-9223372036854775808 ≤ x2 * (10 - (μ11 184 ((32 + (4 * x4)) + 3))) ∧ x2 * (10 - (μ11 184 ((32 + (4 * x4)) + 3))) < 9223372036854775808) ∧ (∀ v19 : Int, v19 = x2 * (10 - (μ11 184 ((32 + (4 * x4)) + 3))) → (-2147483648 ≤ x4 + 1 ∧ x4 + 1 < 2147483648) ∧ ∀ v21 : Int, v21 = x4 + 1 → WQ mX10_laysChances d sc (ZV sc Q) 52 [(2, 183), (0, x1), (1, v19), (9, 0), (0, v21), (9, 0)] [] μ11)) ∧ (r10 ≠ 0 → (-2147483648 ≤ 4 * x4 ∧ 4 * x4 < 2147483648) ∧ (-2147483648 ≤ 32 + (4 * x4) ∧ 32 + (4 * x4) < 2147483648) ∧ (-2147483648 ≤ (32 + (4 * x4)) + 3 ∧ (32 + (4 * x4)) + 3 < 2147483648) ∧ (0 ≤ (32 + (4 * x4)) + 3 ∧ (32 + (4 * x4)) + 3 < 4119) ∧ (-9223372036854775808 ≤ x2 * (μ11 184 ((32 + (4 * x4)) + 3)) ∧ x2 * (μ11 184 ((32 + (4 * x4)) + 3)) < 9223372036854775808) ∧ (∀ v27 : Int, v27 = x2 * (μ11 184 ((32 + (4 * x4)) + 3)) → (-2147483648 ≤ x4 + 1 ∧ x4 + 1 < 2147483648) ∧ ∀ v29 : Int, v29 = x4 + 1 → WQ mX10_laysChances d sc (ZV sc Q) 52 [(2, 183), (0, x1), (1, v27), (9, 0), (0, v29), (9, 0)] [] μ11))))) :
    WQ mX10_laysChances d sc (ZV sc Q) 52 [(2, 183), (0, x1), (1, x2), (9, 0), (0, x4), (9, 0)] [] μ := by
  refine WP_iload dX10_laysChances_52 rfl ?_
  refine WP_aload_n dX10_laysChances_54 rfl rfl ⟨Nat.le_of_ble_eq_true rfl, Nat.le_of_ble_eq_true rfl⟩ ?_
  refine WP_getfield (ci := 10) (j := 1) (n := 49) (t := 2) (x := 184) dX10_laysChances_55 f_X10_13 k_183 rfl rfl ?_
  refine WP_bipush dX10_laysChances_58 (by decide +kernel) (by decide) ?_
  refine WP_iaload (n := 4119) dX10_laysChances_60 k_184 ⟨by decide, by decide⟩ ?_
  refine WQ_icmp_ge (tgt := 119) dX10_laysChances_61 (by decide) (fun c2 => ?_) (fun c2 => ?_)
  · replace h := h.1 c2
    refine WP_lload_n dX10_laysChances_119 rfl rfl ?_
    refine WP_lconst dX10_laysChances_120 rfl ?_
    refine WQ_lifne (tgt := 128) dX10_laysChances_121 dX10_laysChances_122 (by decide) (fun c3 => ?_) (fun c3 => ?_)
    · replace h := h.1 c3
      refine WP_aload_n dX10_laysChances_128 rfl rfl ⟨Nat.le_of_ble_eq_true rfl, Nat.le_of_ble_eq_true rfl⟩ ?_
      refine WP_iload_n dX10_laysChances_129 rfl rfl ?_
      refine WQ_invVv (v := (2, 183)) (as := [(0, x1)]) dX10_laysChances_130 l_X10_300 mw_X10_laysTold mi_X10_laysTold ms_X10_laysTold mo_X10_laysTold (rcv (ci := 10) (n := 49) (r := (RX10, TX10, 49)) k_183 rfl rfl) (Nat.le_of_ble_eq_true rfl) h rfl (fun μ5 h => ?_)
      refine WP_aload_n dX10_laysChances_133 rfl rfl ⟨Nat.le_of_ble_eq_true rfl, Nat.le_of_ble_eq_true rfl⟩ ?_
      refine WQ_invVv (v := (2, 183)) (as := []) dX10_laysChances_134 l_X10_303 mw_X10_goesDay mi_X10_goesDay ms_X10_goesDay mo_X10_goesDay (rcv (ci := 10) (n := 49) (r := (RX10, TX10, 49)) k_183 rfl rfl) (Nat.le_of_ble_eq_true rfl) h rfl (fun μ7 h => ?_)
      refine WP_iconst dX10_laysChances_137 (by decide) ?_
      refine WP_istore (L' := [(2, 183), (0, x1), (1, x2), (9, 0), (0, 0), (9, 0)]) dX10_laysChances_138 (by decide) rfl ?_
      exact h
    · replace h := h.2 c3
      refine WP_goto (tgt := 200) dX10_laysChances_125 (by decide) ?_
      obtain ⟨g8, h⟩ := h
      refine WQ_iinc dX10_laysChances_200 rfl (by decide) g8 (fun v9 e9 => ?_)
      refine WP_same (L' := [(2, 183), (0, v9), (1, x2), (9, 0), (0, x4), (9, 0)]) rfl ?_
      replace h := h v9 e9
      refine WP_goto (tgt := 34) dX10_laysChances_203 (by decide) ?_
      refine WP_lforget (L' := [(2, 183), (0, v9), (9, 0), (9, 0), (9, 0), (9, 0)]) rfl (fun i hi => ?_) h
      match i, hi with
      | 0, _ => exact Or.inl rfl
      | 1, _ => exact Or.inl rfl
      | 2, _ => exact Or.inr rfl
      | 3, _ => exact Or.inl rfl
      | 4, _ => exact Or.inr rfl
      | 5, _ => exact Or.inl rfl
      | i + 6, hi => exact absurd hi (by simp only [List.length_cons, List.length_nil]; omega)
  · replace h := h.2 c2
    refine WP_lload_n dX10_laysChances_64 rfl rfl ?_
    refine WP_iload_n dX10_laysChances_65 rfl rfl ?_
    refine WP_i2l dX10_laysChances_66 ?_
    refine WP_iload dX10_laysChances_67 rfl ?_
    refine WQ_invSi (as := [(1, x1), (0, x4)]) dX10_laysChances_69 l_X10_276 mw_X10_isIn mt_X10_isIn mo_X10_isIn (Nat.le_of_ble_eq_true rfl) h rfl (fun r10 μ11 h => ?_)
    refine WQ_ifeq (tgt := 93) dX10_laysChances_72 (by decide) (fun c12 => ?_) (fun c12 => ?_)
    · replace h := h.1 c12
      refine WP_bipush dX10_laysChances_93 (by decide +kernel) (by decide) ?_
      refine WP_aload_n dX10_laysChances_95 rfl rfl ⟨Nat.le_of_ble_eq_true rfl, Nat.le_of_ble_eq_true rfl⟩ ?_
      refine WP_getfield (ci := 10) (j := 1) (n := 49) (t := 2) (x := 184) dX10_laysChances_96 f_X10_13 k_183 rfl rfl ?_
      refine WP_bipush dX10_laysChances_99 (by decide +kernel) (by decide) ?_
      refine WP_iconst dX10_laysChances_101 (by decide) ?_
      refine WP_iload dX10_laysChances_102 rfl ?_
      obtain ⟨g13, h⟩ := h
      refine WP_imul dX10_laysChances_104 g13 ?_
      obtain ⟨g14, h⟩ := h
      refine WP_iadd dX10_laysChances_105 g14 ?_
      refine WP_iconst dX10_laysChances_106 (by decide) ?_
      obtain ⟨g15, h⟩ := h
      refine WP_iadd dX10_laysChances_107 g15 ?_
      obtain ⟨g16, h⟩ := h
      refine WP_iaload (n := 4119) dX10_laysChances_108 k_184 g16 ?_
      obtain ⟨g17, h⟩ := h
      refine WP_isub dX10_laysChances_109 g17 ?_
      refine WP_i2l dX10_laysChances_110 ?_
      obtain ⟨g18, h⟩ := h
      refine WP_lmul dX10_laysChances_111 g18 ?_
      refine WQ_nm1 (fun v19 e19 => ?_)
      replace h := h v19 e19
      refine WP_lstore_n (L' := [(2, 183), (0, x1), (1, v19), (9, 0), (0, x4), (9, 0)]) dX10_laysChances_112 rfl (by decide) rfl ?_
      obtain ⟨g20, h⟩ := h
      refine WQ_iinc dX10_laysChances_113 rfl (by decide) g20 (fun v21 e21 => ?_)
      refine WP_same (L' := [(2, 183), (0, x1), (1, v19), (9, 0), (0, v21), (9, 0)]) rfl ?_
      replace h := h v21 e21
      refine WP_goto (tgt := 52) dX10_laysChances_116 (by decide) ?_
      exact h
    · replace h := h.2 c12
      refine WP_aload_n dX10_laysChances_75 rfl rfl ⟨Nat.le_of_ble_eq_true rfl, Nat.le_of_ble_eq_true rfl⟩ ?_
      refine WP_getfield (ci := 10) (j := 1) (n := 49) (t := 2) (x := 184) dX10_laysChances_76 f_X10_13 k_183 rfl rfl ?_
      refine WP_bipush dX10_laysChances_79 (by decide +kernel) (by decide) ?_
      refine WP_iconst dX10_laysChances_81 (by decide) ?_
      refine WP_iload dX10_laysChances_82 rfl ?_
      obtain ⟨g22, h⟩ := h
      refine WP_imul dX10_laysChances_84 g22 ?_
      obtain ⟨g23, h⟩ := h
      refine WP_iadd dX10_laysChances_85 g23 ?_
      refine WP_iconst dX10_laysChances_86 (by decide) ?_
      obtain ⟨g24, h⟩ := h
      refine WP_iadd dX10_laysChances_87 g24 ?_
      obtain ⟨g25, h⟩ := h
      refine WP_iaload (n := 4119) dX10_laysChances_88 k_184 g25 ?_
      refine WP_i2l dX10_laysChances_89 ?_
      refine WP_goto (tgt := 111) dX10_laysChances_90 (by decide) ?_
      obtain ⟨g26, h⟩ := h
      refine WP_lmul dX10_laysChances_111 g26 ?_
      refine WQ_nm1 (fun v27 e27 => ?_)
      replace h := h v27 e27
      refine WP_lstore_n (L' := [(2, 183), (0, x1), (1, v27), (9, 0), (0, x4), (9, 0)]) dX10_laysChances_112 rfl (by decide) rfl ?_
      obtain ⟨g28, h⟩ := h
      refine WQ_iinc dX10_laysChances_113 rfl (by decide) g28 (fun v29 e29 => ?_)
      refine WP_same (L' := [(2, 183), (0, x1), (1, v27), (9, 0), (0, v29), (9, 0)]) rfl ?_
      replace h := h v29 e29
      refine WP_goto (tgt := 52) dX10_laysChances_116 (by decide) ?_
      exact h

theorem s_X10_laysChances_140 {d : Nat} {sc : SC} {Q : Mem → Prop} {μ : Mem} {x1 x2 x4 : Int}
    (h : (μ 184 3 ≤ x4 → (-2147483648 ≤ x1 + 1 ∧ x1 + 1 < 2147483648) ∧ ∀ v4 : Int, v4 = x1 + 1 → WQ mX10_laysChances d sc (ZV sc Q) 34 [(2, 183), (0, v4), (9, 0), (9, 0), (9, 0), (9, 0)] [] μ) ∧ (x4 < μ 184 3 → CAi mX10_hiccupsOf d sc [(2, 183), (0, x4)] μ (fun r5 μ6 => (0 ≤ x4 ∧ x4 < 6) ∧ (r5 ≠ 0 → (-9223372036854775808 ≤ (μ6 207 x4) + 0 ∧ (μ6 207 x4) + 0 < 9223372036854775808) ∧ (0 ≤ x4 ∧ x4 < 6) ∧ (∀ μ11, μ11 = mup μ6 207 x4 ((μ6 207 x4) + 0) → (0 ≤ x4 ∧ x4 < 6) ∧ (-9223372036854775808 ≤ x2 * r5 ∧ x2 * r5 < 9223372036854775808) ∧ (-9223372036854775808 ≤ (μ11 208 x4) + (x2 * r5) ∧ (μ11 208 x4) + (x2 * r5) < 9223372036854775808) ∧ (0 ≤ x4 ∧ x4 < 6) ∧ (∀ μ16, μ16 = mup μ11 208 x4 ((μ11 208 x4) + (x2 * r5)) → (-2147483648 ≤ x4 + 1 ∧ x4 + 1 < 2147483648) ∧ ∀ v18 : Int, v18 = x4 + 1 → WQ mX10_laysChances d sc (ZV sc Q) 140 [(2, 183), (0, x1), (1, x2), (9, 0), (0, v18), (9, 0)] [] μ16))) ∧ (r5 = 0 → (-9223372036854775808 ≤ (μ6 207 x4) + x2 ∧ (μ6 207 x4) + x2 < 9223372036854775808) ∧ (0 ≤ x4 ∧ x4 < 6) ∧ (∀ μ21, μ21 = mup μ6 207 x4 ((μ6 207 x4) + x2) → (0 ≤ x4 ∧ x4 < 6) ∧ (-9223372036854775808 ≤ x2 * r5 ∧ x2 * r5 < 9223372036854775808) ∧ (-9223372036854775808 ≤ (μ21 208 x4) + (x2 * r5) ∧ (μ21 208 x4) + (x2 * r5) < 9223372036854775808) ∧ (0 ≤ x4 ∧ x4 < 6) ∧ (∀ μ26, μ26 = mup μ21 208 x4 ((μ21 208 x4) + (x2 * r5)) → (-2147483648 ≤ x4 + 1 ∧ x4 + 1 < 2147483648) ∧ ∀ v28 : Int, v28 = x4 + 1 → WQ mX10_laysChances d sc (ZV sc Q) 140 [(2, 183), (0, x1), (1, x2), (9, 0), (0, v28), (9, 0)] [] μ26)))))) :
    WQ mX10_laysChances d sc (ZV sc Q) 140 [(2, 183), (0, x1), (1, x2), (9, 0), (0, x4), (9, 0)] [] μ := by
  refine WP_iload dX10_laysChances_140 rfl ?_
  refine WP_aload_n dX10_laysChances_142 rfl rfl ⟨Nat.le_of_ble_eq_true rfl, Nat.le_of_ble_eq_true rfl⟩ ?_
  refine WP_getfield (ci := 10) (j := 1) (n := 49) (t := 2) (x := 184) dX10_laysChances_143 f_X10_13 k_183 rfl rfl ?_
  refine WP_iconst dX10_laysChances_146 (by decide) ?_
  refine WP_iaload (n := 4119) dX10_laysChances_147 k_184 ⟨by decide, by decide⟩ ?_
  refine WQ_icmp_ge (tgt := 200) dX10_laysChances_148 (by decide) (fun c2 => ?_) (fun c2 => ?_)
  · replace h := h.1 c2
    obtain ⟨g3, h⟩ := h
    refine WQ_iinc dX10_laysChances_200 rfl (by decide) g3 (fun v4 e4 => ?_)
    refine WP_same (L' := [(2, 183), (0, v4), (1, x2), (9, 0), (0, x4), (9, 0)]) rfl ?_
    replace h := h v4 e4
    refine WP_goto (tgt := 34) dX10_laysChances_203 (by decide) ?_
    refine WP_lforget (L' := [(2, 183), (0, v4), (9, 0), (9, 0), (9, 0), (9, 0)]) rfl (fun i hi => ?_) h
    match i, hi with
    | 0, _ => exact Or.inl rfl
    | 1, _ => exact Or.inl rfl
    | 2, _ => exact Or.inr rfl
    | 3, _ => exact Or.inl rfl
    | 4, _ => exact Or.inr rfl
    | 5, _ => exact Or.inl rfl
    | i + 6, hi => exact absurd hi (by simp only [List.length_cons, List.length_nil]; omega)
  · replace h := h.2 c2
    refine WP_aload_n dX10_laysChances_151 rfl rfl ⟨Nat.le_of_ble_eq_true rfl, Nat.le_of_ble_eq_true rfl⟩ ?_
    refine WP_iload dX10_laysChances_152 rfl ?_
    refine WQ_invVi (v := (2, 183)) (as := [(0, x4)]) dX10_laysChances_154 l_X10_396 mw_X10_hiccupsOf mi_X10_hiccupsOf ms_X10_hiccupsOf mo_X10_hiccupsOf (rcv (ci := 10) (n := 49) (r := (RX10, TX10, 49)) k_183 rfl rfl) (Nat.le_of_ble_eq_true rfl) h rfl (fun r5 μ6 h => ?_)
    refine WP_istore (L' := [(2, 183), (0, x1), (1, x2), (9, 0), (0, x4), (0, r5)]) dX10_laysChances_157 (by decide) rfl ?_
    refine WP_aload_n dX10_laysChances_159 rfl rfl ⟨Nat.le_of_ble_eq_true rfl, Nat.le_of_ble_eq_true rfl⟩ ?_
    refine WP_getfield (ci := 10) (j := 44) (n := 49) (t := 2) (x := 207) dX10_laysChances_160 f_X10_88 k_183 rfl rfl ?_
    refine WP_iload dX10_laysChances_163 rfl ?_
    refine WP_dup2 dX10_laysChances_165 (by simp) (by simp) ?_
    obtain ⟨g7, h⟩ := h
    refine WP_laload (n := 6) dX10_laysChances_166 k_207 g7 ?_
    refine WP_iload dX10_laysChances_167 rfl ?_
    refine WQ_ifne (tgt := 176) dX10_laysChances_169 (by decide) (fun c8 => ?_) (fun c8 => ?_)
    · replace h := h.1 c8
      refine WP_lconst dX10_laysChances_176 rfl ?_
      obtain ⟨g9, h⟩ := h
      refine WP_ladd dX10_laysChances_177 g9 ?_
      obtain ⟨g10, h⟩ := h
      refine WQ_last (n := 6) dX10_laysChances_178 k_207 g10 (fun μ11 eμ11 => ?_)
      replace h := h μ11 eμ11
      refine WP_aload_n dX10_laysChances_179 rfl rfl ⟨Nat.le_of_ble_eq_true rfl, Nat.le_of_ble_eq_true rfl⟩ ?_
      refine WP_getfield (ci := 10) (j := 45) (n := 49) (t := 2) (x := 208) dX10_laysChances_180 f_X10_92 k_183 rfl rfl ?_
      refine WP_iload dX10_laysChances_183 rfl ?_
      refine WP_dup2 dX10_laysChances_185 (by simp) (by simp) ?_
      obtain ⟨g12, h⟩ := h
      refine WP_laload (n := 6) dX10_laysChances_186 k_208 g12 ?_
      refine WP_lload_n dX10_laysChances_187 rfl rfl ?_
      refine WP_iload dX10_laysChances_188 rfl ?_
      refine WP_i2l dX10_laysChances_190 ?_
      obtain ⟨g13, h⟩ := h
      refine WP_lmul dX10_laysChances_191 g13 ?_
      obtain ⟨g14, h⟩ := h
      refine WP_ladd dX10_laysChances_192 g14 ?_
      obtain ⟨g15, h⟩ := h
      refine WQ_last (n := 6) dX10_laysChances_193 k_208 g15 (fun μ16 eμ16 => ?_)
      replace h := h μ16 eμ16
      obtain ⟨g17, h⟩ := h
      refine WQ_iinc dX10_laysChances_194 rfl (by decide) g17 (fun v18 e18 => ?_)
      refine WP_same (L' := [(2, 183), (0, x1), (1, x2), (9, 0), (0, v18), (0, r5)]) rfl ?_
      replace h := h v18 e18
      refine WP_goto (tgt := 140) dX10_laysChances_197 (by decide) ?_
      refine WP_lforget (L' := [(2, 183), (0, x1), (1, x2), (9, 0), (0, v18), (9, 0)]) rfl (fun i hi => ?_) h
      match i, hi with
      | 0, _ => exact Or.inl rfl
      | 1, _ => exact Or.inl rfl
      | 2, _ => exact Or.inl rfl
      | 3, _ => exact Or.inl rfl
      | 4, _ => exact Or.inl rfl
      | 5, _ => exact Or.inr rfl
      | i + 6, hi => exact absurd hi (by simp only [List.length_cons, List.length_nil]; omega)
    · replace h := h.2 c8
      refine WP_lload_n dX10_laysChances_172 rfl rfl ?_
      refine WP_goto (tgt := 177) dX10_laysChances_173 (by decide) ?_
      obtain ⟨g19, h⟩ := h
      refine WP_ladd dX10_laysChances_177 g19 ?_
      obtain ⟨g20, h⟩ := h
      refine WQ_last (n := 6) dX10_laysChances_178 k_207 g20 (fun μ21 eμ21 => ?_)
      replace h := h μ21 eμ21
      refine WP_aload_n dX10_laysChances_179 rfl rfl ⟨Nat.le_of_ble_eq_true rfl, Nat.le_of_ble_eq_true rfl⟩ ?_
      refine WP_getfield (ci := 10) (j := 45) (n := 49) (t := 2) (x := 208) dX10_laysChances_180 f_X10_92 k_183 rfl rfl ?_
      refine WP_iload dX10_laysChances_183 rfl ?_
      refine WP_dup2 dX10_laysChances_185 (by simp) (by simp) ?_
      obtain ⟨g22, h⟩ := h
      refine WP_laload (n := 6) dX10_laysChances_186 k_208 g22 ?_
      refine WP_lload_n dX10_laysChances_187 rfl rfl ?_
      refine WP_iload dX10_laysChances_188 rfl ?_
      refine WP_i2l dX10_laysChances_190 ?_
      obtain ⟨g23, h⟩ := h
      refine WP_lmul dX10_laysChances_191 g23 ?_
      obtain ⟨g24, h⟩ := h
      refine WP_ladd dX10_laysChances_192 g24 ?_
      obtain ⟨g25, h⟩ := h
      refine WQ_last (n := 6) dX10_laysChances_193 k_208 g25 (fun μ26 eμ26 => ?_)
      replace h := h μ26 eμ26
      obtain ⟨g27, h⟩ := h
      refine WQ_iinc dX10_laysChances_194 rfl (by decide) g27 (fun v28 e28 => ?_)
      refine WP_same (L' := [(2, 183), (0, x1), (1, x2), (9, 0), (0, v28), (0, r5)]) rfl ?_
      replace h := h v28 e28
      refine WP_goto (tgt := 140) dX10_laysChances_197 (by decide) ?_
      refine WP_lforget (L' := [(2, 183), (0, x1), (1, x2), (9, 0), (0, v28), (9, 0)]) rfl (fun i hi => ?_) h
      match i, hi with
      | 0, _ => exact Or.inl rfl
      | 1, _ => exact Or.inl rfl
      | 2, _ => exact Or.inl rfl
      | 3, _ => exact Or.inl rfl
      | 4, _ => exact Or.inl rfl
      | 5, _ => exact Or.inr rfl
      | i + 6, hi => exact absurd hi (by simp only [List.length_cons, List.length_nil]; omega)

theorem s_X10_laysDay_0 {d : Nat} {sc : SC} {Q : Mem → Prop} {μ : Mem}
    (h : CAv mX10_laysGaps d sc [(2, 183)] μ (fun μ2 => (-2147483648 ≤ (iShl 1 (μ2 184 31)) - 1 ∧ (iShl 1 (μ2 184 31)) - 1 < 2147483648) ∧ CAv mX10_laysTold d sc [(2, 183), (0, (iShl 1 (μ2 184 31)) - 1)] μ2 (fun μ6 => CAv mX10_goesDay d sc [(2, 183)] μ6 (fun μ8 => Q μ8)))) :
    WQ mX10_laysDay d sc (ZV sc Q) 0 [(2, 183)] [] μ := by
  refine WP_aload_n dX10_laysDay_0 rfl rfl ⟨Nat.le_of_ble_eq_true rfl, Nat.le_of_ble_eq_true rfl⟩ ?_
  refine WQ_invVv (v := (2, 183)) (as := []) dX10_laysDay_1 l_X10_297 mw_X10_laysGaps mi_X10_laysGaps ms_X10_laysGaps mo_X10_laysGaps (rcv (ci := 10) (n := 49) (r := (RX10, TX10, 49)) k_183 rfl rfl) (Nat.le_of_ble_eq_true rfl) h rfl (fun μ2 h => ?_)
  refine WP_aload_n dX10_laysDay_4 rfl rfl ⟨Nat.le_of_ble_eq_true rfl, Nat.le_of_ble_eq_true rfl⟩ ?_
  refine WP_iconst dX10_laysDay_5 (by decide) ?_
  refine WP_aload_n dX10_laysDay_6 rfl rfl ⟨Nat.le_of_ble_eq_true rfl, Nat.le_of_ble_eq_true rfl⟩ ?_
  refine WP_getfield (ci := 10) (j := 1) (n := 49) (t := 2) (x := 184) dX10_laysDay_7 f_X10_13 k_183 rfl rfl ?_
  refine WP_bipush dX10_laysDay_10 (by decide +kernel) (by decide) ?_
  refine WP_iaload (n := 4119) dX10_laysDay_12 k_184 ⟨by decide, by decide⟩ ?_
  refine WP_ishl dX10_laysDay_13 ?_
  refine WP_iconst dX10_laysDay_14 (by decide) ?_
  obtain ⟨g4, h⟩ := h
  refine WP_isub dX10_laysDay_15 g4 ?_
  refine WQ_invVv (v := (2, 183)) (as := [(0, (iShl 1 (μ2 184 31)) - 1)]) dX10_laysDay_16 l_X10_300 mw_X10_laysTold mi_X10_laysTold ms_X10_laysTold mo_X10_laysTold (rcv (ci := 10) (n := 49) (r := (RX10, TX10, 49)) k_183 rfl rfl) (Nat.le_of_ble_eq_true rfl) h rfl (fun μ6 h => ?_)
  refine WP_aload_n dX10_laysDay_19 rfl rfl ⟨Nat.le_of_ble_eq_true rfl, Nat.le_of_ble_eq_true rfl⟩ ?_
  refine WQ_invVv (v := (2, 183)) (as := []) dX10_laysDay_20 l_X10_303 mw_X10_goesDay mi_X10_goesDay ms_X10_goesDay mo_X10_goesDay (rcv (ci := 10) (n := 49) (r := (RX10, TX10, 49)) k_183 rfl rfl) (Nat.le_of_ble_eq_true rfl) h rfl (fun μ8 h => ?_)
  exact WQ_return dX10_laysDay_23 rfl h

theorem s_X10_laysGaps_0 {d : Nat} {sc : SC} {Q : Mem → Prop} {μ : Mem}
    (h : WQ mX10_laysGaps d sc (ZV sc Q) 2 [(2, 183), (0, 0)] [] μ) :
    WQ mX10_laysGaps d sc (ZV sc Q) 0 [(2, 183), (9, 0)] [] μ := by
  refine WP_iconst dX10_laysGaps_0 (by decide) ?_
  refine WP_istore_n (L' := [(2, 183), (0, 0)]) dX10_laysGaps_1 rfl (by decide) rfl ?_
  exact h

theorem s_X10_laysGaps_2 {d : Nat} {sc : SC} {Q : Mem → Prop} {μ : Mem} {x1 : Int}
    (h : (54000 ≤ x1 → WQ mX10_laysGaps d sc (ZV sc Q) 30 [(2, 183), (0, 0)] [] μ) ∧ (x1 < 54000 → (μ 183 19 ≠ 0 → WQ mX10_laysGaps d sc (ZV sc Q) 30 [(2, 183), (0, 0)] [] μ) ∧ (μ 183 19 = 0 → (0 ≤ x1 ∧ x1 < 54000) ∧ (∀ μ4, μ4 = mup μ 190 x1 0 → (-2147483648 ≤ x1 + 1 ∧ x1 + 1 < 2147483648) ∧ ∀ v6 : Int, v6 = x1 + 1 → WQ mX10_laysGaps d sc (ZV sc Q) 2 [(2, 183), (0, v6)] [] μ4)))) :
    WQ mX10_laysGaps d sc (ZV sc Q) 2 [(2, 183), (0, x1)] [] μ := by
  refine WP_iload_n dX10_laysGaps_2 rfl rfl ?_
  refine WP_ldc dX10_laysGaps_3 c_X10_36 (by decide) ?_
  refine WQ_icmp_ge (tgt := 28) dX10_laysGaps_5 (by decide) (fun c1 => ?_) (fun c1 => ?_)
  · replace h := h.1 c1
    refine WP_iconst dX10_laysGaps_28 (by decide) ?_
    refine WP_istore_n (L' := [(2, 183), (0, 0)]) dX10_laysGaps_29 rfl (by decide) rfl ?_
    exact h
  · replace h := h.2 c1
    refine WP_aload_n dX10_laysGaps_8 rfl rfl ⟨Nat.le_of_ble_eq_true rfl, Nat.le_of_ble_eq_true rfl⟩ ?_
    refine WP_getfield (ci := 10) (j := 19) (n := 49) (t := 0) (x := μ 183 19) dX10_laysGaps_9 f_X10_269 k_183 rfl rfl ?_
    refine WQ_ifne (tgt := 28) dX10_laysGaps_12 (by decide) (fun c2 => ?_) (fun c2 => ?_)
    · replace h := h.1 c2
      refine WP_iconst dX10_laysGaps_28 (by decide) ?_
      refine WP_istore_n (L' := [(2, 183), (0, 0)]) dX10_laysGaps_29 rfl (by decide) rfl ?_
      exact h
    · replace h := h.2 c2
      refine WP_aload_n dX10_laysGaps_15 rfl rfl ⟨Nat.le_of_ble_eq_true rfl, Nat.le_of_ble_eq_true rfl⟩ ?_
      refine WP_getfield (ci := 10) (j := 18) (n := 49) (t := 2) (x := 190) dX10_laysGaps_16 f_X10_37 k_183 rfl rfl ?_
      refine WP_iload_n dX10_laysGaps_19 rfl rfl ?_
      refine WP_iconst dX10_laysGaps_20 (by decide) ?_
      obtain ⟨g3, h⟩ := h
      refine WQ_iast (n := 54000) dX10_laysGaps_21 k_190 g3 (fun μ4 eμ4 => ?_)
      replace h := h μ4 eμ4
      obtain ⟨g5, h⟩ := h
      refine WQ_iinc dX10_laysGaps_22 rfl (by decide) g5 (fun v6 e6 => ?_)
      refine WP_same (L' := [(2, 183), (0, v6)]) rfl ?_
      replace h := h v6 e6
      refine WP_goto (tgt := 2) dX10_laysGaps_25 (by decide) ?_
      exact h

theorem s_X10_laysGaps_30 {d : Nat} {sc : SC} {Q : Mem → Prop} {μ : Mem} {x1 : Int}
    (h : (36 ≤ x1 → Q μ) ∧ (x1 < 36 → 0 ≤ x1 ∧ 0 ≤ x1 ∧ CAi mX10_areTwo d sc [(2, 183), (1, x1 / 6), (1, x1 % 6)] μ (fun r4 μ5 => (r4 = 0 → (0 ≤ x1 ∧ x1 < 36) ∧ (∀ μ8, μ8 = mup μ5 194 x1 0 → (-2147483648 ≤ x1 + 1 ∧ x1 + 1 < 2147483648) ∧ ∀ v10 : Int, v10 = x1 + 1 → WQ mX10_laysGaps d sc (ZV sc Q) 30 [(2, 183), (0, v10)] [] μ8)) ∧ (r4 ≠ 0 → 0 ≤ x1 ∧ 0 ≤ x1 ∧ CAi mX10_gapOf d sc [(2, 183), (0, x1 / 6), (0, x1 % 6)] μ5 (fun r13 μ14 => (0 ≤ x1 ∧ x1 < 36) ∧ (∀ μ16, μ16 = mup μ14 194 x1 r13 → (-2147483648 ≤ x1 + 1 ∧ x1 + 1 < 2147483648) ∧ ∀ v18 : Int, v18 = x1 + 1 → WQ mX10_laysGaps d sc (ZV sc Q) 30 [(2, 183), (0, v18)] [] μ16)))))) :
    WQ mX10_laysGaps d sc (ZV sc Q) 30 [(2, 183), (0, x1)] [] μ := by
  refine WP_iload_n dX10_laysGaps_30 rfl rfl ?_
  refine WP_bipush dX10_laysGaps_31 (by decide +kernel) (by decide) ?_
  refine WQ_icmp_ge (tgt := 81) dX10_laysGaps_33 (by decide) (fun c1 => ?_) (fun c1 => ?_)
  · replace h := h.1 c1
    exact WQ_return dX10_laysGaps_81 rfl h
  · replace h := h.2 c1
    refine WP_aload_n dX10_laysGaps_36 rfl rfl ⟨Nat.le_of_ble_eq_true rfl, Nat.le_of_ble_eq_true rfl⟩ ?_
    refine WP_getfield (ci := 10) (j := 23) (n := 49) (t := 2) (x := 194) dX10_laysGaps_37 f_X10_49 k_183 rfl rfl ?_
    refine WP_iload_n dX10_laysGaps_40 rfl rfl ?_
    refine WP_aload_n dX10_laysGaps_41 rfl rfl ⟨Nat.le_of_ble_eq_true rfl, Nat.le_of_ble_eq_true rfl⟩ ?_
    refine WP_iload_n dX10_laysGaps_42 rfl rfl ?_
    refine WP_bipush dX10_laysGaps_43 (by decide +kernel) (by decide) ?_
    obtain ⟨g2, h⟩ := h
    refine WP_idiv dX10_laysGaps_45 ⟨g2, by decide⟩ ?_
    refine WP_i2l dX10_laysGaps_46 ?_
    refine WP_iload_n dX10_laysGaps_47 rfl rfl ?_
    refine WP_bipush dX10_laysGaps_48 (by decide +kernel) (by decide) ?_
    obtain ⟨g3, h⟩ := h
    refine WP_irem dX10_laysGaps_50 ⟨g3, by decide⟩ ?_
    refine WP_i2l dX10_laysGaps_51 ?_
    refine WQ_invVi (v := (2, 183)) (as := [(1, x1 / 6), (1, x1 % 6)]) dX10_laysGaps_52 l_X10_259 mw_X10_areTwo mi_X10_areTwo ms_X10_areTwo mo_X10_areTwo (rcv (ci := 10) (n := 49) (r := (RX10, TX10, 49)) k_183 rfl rfl) (Nat.le_of_ble_eq_true rfl) h rfl (fun r4 μ5 h => ?_)
    refine WQ_ifeq (tgt := 73) dX10_laysGaps_55 (by decide) (fun c6 => ?_) (fun c6 => ?_)
    · replace h := h.1 c6
      refine WP_iconst dX10_laysGaps_73 (by decide) ?_
      obtain ⟨g7, h⟩ := h
      refine WQ_iast (n := 36) dX10_laysGaps_74 k_194 g7 (fun μ8 eμ8 => ?_)
      replace h := h μ8 eμ8
      obtain ⟨g9, h⟩ := h
      refine WQ_iinc dX10_laysGaps_75 rfl (by decide) g9 (fun v10 e10 => ?_)
      refine WP_same (L' := [(2, 183), (0, v10)]) rfl ?_
      replace h := h v10 e10
      refine WP_goto (tgt := 30) dX10_laysGaps_78 (by decide) ?_
      exact h
    · replace h := h.2 c6
      refine WP_aload_n dX10_laysGaps_58 rfl rfl ⟨Nat.le_of_ble_eq_true rfl, Nat.le_of_ble_eq_true rfl⟩ ?_
      refine WP_iload_n dX10_laysGaps_59 rfl rfl ?_
      refine WP_bipush dX10_laysGaps_60 (by decide +kernel) (by decide) ?_
      obtain ⟨g11, h⟩ := h
      refine WP_idiv dX10_laysGaps_62 ⟨g11, by decide⟩ ?_
      refine WP_iload_n dX10_laysGaps_63 rfl rfl ?_
      refine WP_bipush dX10_laysGaps_64 (by decide +kernel) (by decide) ?_
      obtain ⟨g12, h⟩ := h
      refine WP_irem dX10_laysGaps_66 ⟨g12, by decide⟩ ?_
      refine WQ_invVi (v := (2, 183)) (as := [(0, x1 / 6), (0, x1 % 6)]) dX10_laysGaps_67 l_X10_263 mw_X10_gapOf mi_X10_gapOf ms_X10_gapOf mo_X10_gapOf (rcv (ci := 10) (n := 49) (r := (RX10, TX10, 49)) k_183 rfl rfl) (Nat.le_of_ble_eq_true rfl) h rfl (fun r13 μ14 h => ?_)
      refine WP_goto (tgt := 74) dX10_laysGaps_70 (by decide) ?_
      obtain ⟨g15, h⟩ := h
      refine WQ_iast (n := 36) dX10_laysGaps_74 k_194 g15 (fun μ16 eμ16 => ?_)
      replace h := h μ16 eμ16
      obtain ⟨g17, h⟩ := h
      refine WQ_iinc dX10_laysGaps_75 rfl (by decide) g17 (fun v18 e18 => ?_)
      refine WP_same (L' := [(2, 183), (0, v18)]) rfl ?_
      replace h := h v18 e18
      refine WP_goto (tgt := 30) dX10_laysGaps_78 (by decide) ?_
      exact h

theorem s_X10_laysSilence_0 {d : Nat} {sc : SC} {Q : Mem → Prop} {μ : Mem} {a1 : Int}
    (h : CAv mX10_laysGaps d sc [(2, 183)] μ (fun μ2 => ∀ μ3, μ3 = mup μ2 183 40 0 → ∀ μ4, μ4 = mup μ3 183 41 (-1) → ∀ μ5, μ5 = mup μ4 183 42 (-1) → CAi mX10_isSilent d sc [(2, 183), (0, a1), (0, (-1)), (0, (-1))] μ5 (fun r6 μ7 => (r6 = 0 → ∀ μ9, μ9 = mup μ7 183 40 1 → WQ mX10_laysSilence d sc (ZV sc Q) 37 [(2, 183), (0, a1), (0, 0), (9, 0)] [] μ9) ∧ (r6 ≠ 0 → Q μ7)))) :
    WQ mX10_laysSilence d sc (ZV sc Q) 0 [(2, 183), (0, a1), (9, 0), (9, 0)] [] μ := by
  refine WP_aload_n dX10_laysSilence_0 rfl rfl ⟨Nat.le_of_ble_eq_true rfl, Nat.le_of_ble_eq_true rfl⟩ ?_
  refine WQ_invVv (v := (2, 183)) (as := []) dX10_laysSilence_1 l_X10_297 mw_X10_laysGaps mi_X10_laysGaps ms_X10_laysGaps mo_X10_laysGaps (rcv (ci := 10) (n := 49) (r := (RX10, TX10, 49)) k_183 rfl rfl) (Nat.le_of_ble_eq_true rfl) h rfl (fun μ2 h => ?_)
  refine WP_aload_n dX10_laysSilence_4 rfl rfl ⟨Nat.le_of_ble_eq_true rfl, Nat.le_of_ble_eq_true rfl⟩ ?_
  refine WP_iconst dX10_laysSilence_5 (by decide) ?_
  refine WQ_put (ci := 10) (j := 40) (n := 49) dX10_laysSilence_6 f_X10_421 k_183 rfl (fun μ3 eμ3 => ?_)
  replace h := h μ3 eμ3
  refine WP_aload_n dX10_laysSilence_9 rfl rfl ⟨Nat.le_of_ble_eq_true rfl, Nat.le_of_ble_eq_true rfl⟩ ?_
  refine WP_iconst dX10_laysSilence_10 (by decide) ?_
  refine WQ_put (ci := 10) (j := 41) (n := 49) dX10_laysSilence_11 f_X10_424 k_183 rfl (fun μ4 eμ4 => ?_)
  replace h := h μ4 eμ4
  refine WP_aload_n dX10_laysSilence_14 rfl rfl ⟨Nat.le_of_ble_eq_true rfl, Nat.le_of_ble_eq_true rfl⟩ ?_
  refine WP_iconst dX10_laysSilence_15 (by decide) ?_
  refine WQ_put (ci := 10) (j := 42) (n := 49) dX10_laysSilence_16 f_X10_427 k_183 rfl (fun μ5 eμ5 => ?_)
  replace h := h μ5 eμ5
  refine WP_aload_n dX10_laysSilence_19 rfl rfl ⟨Nat.le_of_ble_eq_true rfl, Nat.le_of_ble_eq_true rfl⟩ ?_
  refine WP_iload_n dX10_laysSilence_20 rfl rfl ?_
  refine WP_iconst dX10_laysSilence_21 (by decide) ?_
  refine WP_iconst dX10_laysSilence_22 (by decide) ?_
  refine WQ_invVi (v := (2, 183)) (as := [(0, a1), (0, (-1)), (0, (-1))]) dX10_laysSilence_23 l_X10_430 mw_X10_isSilent mi_X10_isSilent ms_X10_isSilent mo_X10_isSilent (rcv (ci := 10) (n := 49) (r := (RX10, TX10, 49)) k_183 rfl rfl) (Nat.le_of_ble_eq_true rfl) h rfl (fun r6 μ7 h => ?_)
  refine WQ_ifeq (tgt := 30) dX10_laysSilence_26 (by decide) (fun c8 => ?_) (fun c8 => ?_)
  · replace h := h.1 c8
    refine WP_aload_n dX10_laysSilence_30 rfl rfl ⟨Nat.le_of_ble_eq_true rfl, Nat.le_of_ble_eq_true rfl⟩ ?_
    refine WP_iconst dX10_laysSilence_31 (by decide) ?_
    refine WQ_put (ci := 10) (j := 40) (n := 49) dX10_laysSilence_32 f_X10_421 k_183 rfl (fun μ9 eμ9 => ?_)
    replace h := h μ9 eμ9
    refine WP_iconst dX10_laysSilence_35 (by decide) ?_
    refine WP_istore_n (L' := [(2, 183), (0, a1), (0, 0), (9, 0)]) dX10_laysSilence_36 rfl (by decide) rfl ?_
    exact h
  · replace h := h.2 c8
    exact WQ_return dX10_laysSilence_29 rfl h

theorem s_X10_laysSilence_37 {d : Nat} {sc : SC} {Q : Mem → Prop} {μ : Mem} {x1 x2 : Int}
    (h : (2000 ≤ x2 → ∀ μ2, μ2 = mup μ 183 40 2 → WQ mX10_laysSilence d sc (ZV sc Q) 90 [(2, 183), (0, x1), (0, 0), (9, 0)] [] μ2) ∧ (x2 < 2000 → 0 ≤ x2 ∧ CAi mX10_areTwo d sc [(2, 183), (1, x2 % 100), (1, x1)] μ (fun r4 μ5 => (r4 = 0 → (-2147483648 ≤ x2 + 1 ∧ x2 + 1 < 2147483648) ∧ ∀ v8 : Int, v8 = x2 + 1 → WQ mX10_laysSilence d sc (ZV sc Q) 37 [(2, 183), (0, x1), (0, v8), (9, 0)] [] μ5) ∧ (r4 ≠ 0 → CAi mX10_isSilent d sc [(2, 183), (0, x1), (0, x2), (0, (-1))] μ5 (fun r9 μ10 => (r9 ≠ 0 → ∀ μ12, μ12 = mup μ10 183 41 x2 → Q μ12) ∧ (r9 = 0 → (-2147483648 ≤ x2 + 1 ∧ x2 + 1 < 2147483648) ∧ ∀ v14 : Int, v14 = x2 + 1 → WQ mX10_laysSilence d sc (ZV sc Q) 37 [(2, 183), (0, x1), (0, v14), (9, 0)] [] μ10)))))) :
    WQ mX10_laysSilence d sc (ZV sc Q) 37 [(2, 183), (0, x1), (0, x2), (9, 0)] [] μ := by
  refine WP_iload_n dX10_laysSilence_37 rfl rfl ?_
  refine WP_sipush dX10_laysSilence_38 (by decide +kernel) (by decide) ?_
  refine WQ_icmp_ge (tgt := 83) dX10_laysSilence_41 (by decide) (fun c1 => ?_) (fun c1 => ?_)
  · replace h := h.1 c1
    refine WP_aload_n dX10_laysSilence_83 rfl rfl ⟨Nat.le_of_ble_eq_true rfl, Nat.le_of_ble_eq_true rfl⟩ ?_
    refine WP_iconst dX10_laysSilence_84 (by decide) ?_
    refine WQ_put (ci := 10) (j := 40) (n := 49) dX10_laysSilence_85 f_X10_421 k_183 rfl (fun μ2 eμ2 => ?_)
    replace h := h μ2 eμ2
    refine WP_iconst dX10_laysSilence_88 (by decide) ?_
    refine WP_istore_n (L' := [(2, 183), (0, x1), (0, 0), (9, 0)]) dX10_laysSilence_89 rfl (by decide) rfl ?_
    exact h
  · replace h := h.2 c1
    refine WP_aload_n dX10_laysSilence_44 rfl rfl ⟨Nat.le_of_ble_eq_true rfl, Nat.le_of_ble_eq_true rfl⟩ ?_
    refine WP_iload_n dX10_laysSilence_45 rfl rfl ?_
    refine WP_bipush dX10_laysSilence_46 (by decide +kernel) (by decide) ?_
    obtain ⟨g3, h⟩ := h
    refine WP_irem dX10_laysSilence_48 ⟨g3, by decide⟩ ?_
    refine WP_i2l dX10_laysSilence_49 ?_
    refine WP_iload_n dX10_laysSilence_50 rfl rfl ?_
    refine WP_i2l dX10_laysSilence_51 ?_
    refine WQ_invVi (v := (2, 183)) (as := [(1, x2 % 100), (1, x1)]) dX10_laysSilence_52 l_X10_259 mw_X10_areTwo mi_X10_areTwo ms_X10_areTwo mo_X10_areTwo (rcv (ci := 10) (n := 49) (r := (RX10, TX10, 49)) k_183 rfl rfl) (Nat.le_of_ble_eq_true rfl) h rfl (fun r4 μ5 h => ?_)
    refine WQ_ifeq (tgt := 77) dX10_laysSilence_55 (by decide) (fun c6 => ?_) (fun c6 => ?_)
    · replace h := h.1 c6
      obtain ⟨g7, h⟩ := h
      refine WQ_iinc dX10_laysSilence_77 rfl (by decide) g7 (fun v8 e8 => ?_)
      refine WP_same (L' := [(2, 183), (0, x1), (0, v8), (9, 0)]) rfl ?_
      replace h := h v8 e8
      refine WP_goto (tgt := 37) dX10_laysSilence_80 (by decide) ?_
      exact h
    · replace h := h.2 c6
      refine WP_aload_n dX10_laysSilence_58 rfl rfl ⟨Nat.le_of_ble_eq_true rfl, Nat.le_of_ble_eq_true rfl⟩ ?_
      refine WP_iload_n dX10_laysSilence_59 rfl rfl ?_
      refine WP_iload_n dX10_laysSilence_60 rfl rfl ?_
      refine WP_iconst dX10_laysSilence_61 (by decide) ?_
      refine WQ_invVi (v := (2, 183)) (as := [(0, x1), (0, x2), (0, (-1))]) dX10_laysSilence_62 l_X10_430 mw_X10_isSilent mi_X10_isSilent ms_X10_isSilent mo_X10_isSilent (rcv (ci := 10) (n := 49) (r := (RX10, TX10, 49)) k_183 rfl rfl) (Nat.le_of_ble_eq_true rfl) h rfl (fun r9 μ10 h => ?_)
      refine WQ_ifne (tgt := 71) dX10_laysSilence_65 (by decide) (fun c11 => ?_) (fun c11 => ?_)
      · replace h := h.1 c11
        refine WP_aload_n dX10_laysSilence_71 rfl rfl ⟨Nat.le_of_ble_eq_true rfl, Nat.le_of_ble_eq_true rfl⟩ ?_
        refine WP_iload_n dX10_laysSilence_72 rfl rfl ?_
        refine WQ_put (ci := 10) (j := 41) (n := 49) dX10_laysSilence_73 f_X10_424 k_183 rfl (fun μ12 eμ12 => ?_)
        replace h := h μ12 eμ12
        exact WQ_return dX10_laysSilence_76 rfl h
      · replace h := h.2 c11
        refine WP_goto (tgt := 77) dX10_laysSilence_68 (by decide) ?_
        obtain ⟨g13, h⟩ := h
        refine WQ_iinc dX10_laysSilence_77 rfl (by decide) g13 (fun v14 e14 => ?_)
        refine WP_same (L' := [(2, 183), (0, x1), (0, v14), (9, 0)]) rfl ?_
        replace h := h v14 e14
        refine WP_goto (tgt := 37) dX10_laysSilence_80 (by decide) ?_
        exact h

theorem s_X10_laysSilence_90 {d : Nat} {sc : SC} {Q : Mem → Prop} {μ : Mem} {x1 x2 : Int}
    (h : (2000 ≤ x2 → ∀ μ2, μ2 = mup μ 183 40 (-1) → Q μ2) ∧ (x2 < 2000 → (-2147483648 ≤ x2 + 1 ∧ x2 + 1 < 2147483648) ∧ (∀ v4 : Int, v4 = x2 + 1 → WQ mX10_laysSilence d sc (ZV sc Q) 101 [(2, 183), (0, x1), (0, x2), (0, v4)] [] μ))) :
    WQ mX10_laysSilence d sc (ZV sc Q) 90 [(2, 183), (0, x1), (0, x2), (9, 0)] [] μ := by
  refine WP_iload_n dX10_laysSilence_90 rfl rfl ?_
  refine WP_sipush dX10_laysSilence_91 (by decide +kernel) (by decide) ?_
  refine WQ_icmp_ge (tgt := 172) dX10_laysSilence_94 (by decide) (fun c1 => ?_) (fun c1 => ?_)
  · replace h := h.1 c1
    refine WP_aload_n dX10_laysSilence_172 rfl rfl ⟨Nat.le_of_ble_eq_true rfl, Nat.le_of_ble_eq_true rfl⟩ ?_
    refine WP_iconst dX10_laysSilence_173 (by decide) ?_
    refine WQ_put (ci := 10) (j := 40) (n := 49) dX10_laysSilence_174 f_X10_421 k_183 rfl (fun μ2 eμ2 => ?_)
    replace h := h μ2 eμ2
    exact WQ_return dX10_laysSilence_177 rfl h
  · replace h := h.2 c1
    refine WP_iload_n dX10_laysSilence_97 rfl rfl ?_
    refine WP_iconst dX10_laysSilence_98 (by decide) ?_
    obtain ⟨g3, h⟩ := h
    refine WP_iadd dX10_laysSilence_99 g3 ?_
    refine WQ_nm0 (fun v4 e4 => ?_)
    replace h := h v4 e4
    refine WP_istore_n (L' := [(2, 183), (0, x1), (0, x2), (0, v4)]) dX10_laysSilence_100 rfl (by decide) rfl ?_
    exact h

theorem s_X10_laysSilence_101 {d : Nat} {sc : SC} {Q : Mem → Prop} {μ : Mem} {x1 x2 x3 : Int}
    (h : (2000 ≤ x3 → (-2147483648 ≤ x2 + 1 ∧ x2 + 1 < 2147483648) ∧ ∀ v3 : Int, v3 = x2 + 1 → WQ mX10_laysSilence d sc (ZV sc Q) 90 [(2, 183), (0, x1), (0, v3), (9, 0)] [] μ) ∧ (x3 < 2000 → 0 ≤ x2 ∧ CAi mX10_areTwo d sc [(2, 183), (1, x2 % 100), (1, x1)] μ (fun r5 μ6 => (r5 = 0 → (-2147483648 ≤ x2 + 1 ∧ x2 + 1 < 2147483648) ∧ ∀ v9 : Int, v9 = x2 + 1 → WQ mX10_laysSilence d sc (ZV sc Q) 90 [(2, 183), (0, x1), (0, v9), (9, 0)] [] μ6) ∧ (r5 ≠ 0 → 0 ≤ x3 ∧ CAi mX10_areTwo d sc [(2, 183), (1, x3 % 100), (1, x1)] μ6 (fun r11 μ12 => (r11 = 0 → (-2147483648 ≤ x3 + 1 ∧ x3 + 1 < 2147483648) ∧ ∀ v15 : Int, v15 = x3 + 1 → WQ mX10_laysSilence d sc (ZV sc Q) 101 [(2, 183), (0, x1), (0, x2), (0, v15)] [] μ12) ∧ (r11 ≠ 0 → CAi mX10_isSilent d sc [(2, 183), (0, x1), (0, x2), (0, x3)] μ12 (fun r16 μ17 => (r16 ≠ 0 → ∀ μ19, μ19 = mup μ17 183 41 x2 → ∀ μ20, μ20 = mup μ19 183 42 x3 → Q μ20) ∧ (r16 = 0 → (-2147483648 ≤ x3 + 1 ∧ x3 + 1 < 2147483648) ∧ ∀ v22 : Int, v22 = x3 + 1 → WQ mX10_laysSilence d sc (ZV sc Q) 101 [(2, 183), (0, x1), (0, x2), (0, v22)] [] μ17)))))))) :
    WQ mX10_laysSilence d sc (ZV sc Q) 101 [(2, 183), (0, x1), (0, x2), (0, x3)] [] μ := by
  refine WP_iload_n dX10_laysSilence_101 rfl rfl ?_
  refine WP_sipush dX10_laysSilence_102 (by decide +kernel) (by decide) ?_
  refine WQ_icmp_ge (tgt := 166) dX10_laysSilence_105 (by decide) (fun c1 => ?_) (fun c1 => ?_)
  · replace h := h.1 c1
    obtain ⟨g2, h⟩ := h
    refine WQ_iinc dX10_laysSilence_166 rfl (by decide) g2 (fun v3 e3 => ?_)
    refine WP_same (L' := [(2, 183), (0, x1), (0, v3), (0, x3)]) rfl ?_
    replace h := h v3 e3
    refine WP_goto (tgt := 90) dX10_laysSilence_169 (by decide) ?_
    refine WP_lforget (L' := [(2, 183), (0, x1), (0, v3), (9, 0)]) rfl (fun i hi => ?_) h
    match i, hi with
    | 0, _ => exact Or.inl rfl
    | 1, _ => exact Or.inl rfl
    | 2, _ => exact Or.inl rfl
    | 3, _ => exact Or.inr rfl
    | i + 4, hi => exact absurd hi (by simp only [List.length_cons, List.length_nil]; omega)
  · replace h := h.2 c1
    refine WP_aload_n dX10_laysSilence_108 rfl rfl ⟨Nat.le_of_ble_eq_true rfl, Nat.le_of_ble_eq_true rfl⟩ ?_
    refine WP_iload_n dX10_laysSilence_109 rfl rfl ?_
    refine WP_bipush dX10_laysSilence_110 (by decide +kernel) (by decide) ?_
    obtain ⟨g4, h⟩ := h
    refine WP_irem dX10_laysSilence_112 ⟨g4, by decide⟩ ?_
    refine WP_i2l dX10_laysSilence_113 ?_
    refine WP_iload_n dX10_laysSilence_114 rfl rfl ?_
    refine WP_i2l dX10_laysSilence_115 ?_
    refine WQ_invVi (v := (2, 183)) (as := [(1, x2 % 100), (1, x1)]) dX10_laysSilence_116 l_X10_259 mw_X10_areTwo mi_X10_areTwo ms_X10_areTwo mo_X10_areTwo (rcv (ci := 10) (n := 49) (r := (RX10, TX10, 49)) k_183 rfl rfl) (Nat.le_of_ble_eq_true rfl) h rfl (fun r5 μ6 h => ?_)
    refine WQ_ifeq (tgt := 166) dX10_laysSilence_119 (by decide) (fun c7 => ?_) (fun c7 => ?_)
    · replace h := h.1 c7
      obtain ⟨g8, h⟩ := h
      refine WQ_iinc dX10_laysSilence_166 rfl (by decide) g8 (fun v9 e9 => ?_)
      refine WP_same (L' := [(2, 183), (0, x1), (0, v9), (0, x3)]) rfl ?_
      replace h := h v9 e9
      refine WP_goto (tgt := 90) dX10_laysSilence_169 (by decide) ?_
      refine WP_lforget (L' := [(2, 183), (0, x1), (0, v9), (9, 0)]) rfl (fun i hi => ?_) h
      match i, hi with
      | 0, _ => exact Or.inl rfl
      | 1, _ => exact Or.inl rfl
      | 2, _ => exact Or.inl rfl
      | 3, _ => exact Or.inr rfl
      | i + 4, hi => exact absurd hi (by simp only [List.length_cons, List.length_nil]; omega)
    · replace h := h.2 c7
      refine WP_aload_n dX10_laysSilence_122 rfl rfl ⟨Nat.le_of_ble_eq_true rfl, Nat.le_of_ble_eq_true rfl⟩ ?_
      refine WP_iload_n dX10_laysSilence_123 rfl rfl ?_
      refine WP_bipush dX10_laysSilence_124 (by decide +kernel) (by decide) ?_
      obtain ⟨g10, h⟩ := h
      refine WP_irem dX10_laysSilence_126 ⟨g10, by decide⟩ ?_
      refine WP_i2l dX10_laysSilence_127 ?_
      refine WP_iload_n dX10_laysSilence_128 rfl rfl ?_
      refine WP_i2l dX10_laysSilence_129 ?_
      refine WQ_invVi (v := (2, 183)) (as := [(1, x3 % 100), (1, x1)]) dX10_laysSilence_130 l_X10_259 mw_X10_areTwo mi_X10_areTwo ms_X10_areTwo mo_X10_areTwo (rcv (ci := 10) (n := 49) (r := (RX10, TX10, 49)) k_183 rfl rfl) (Nat.le_of_ble_eq_true rfl) h rfl (fun r11 μ12 h => ?_)
      refine WQ_ifeq (tgt := 160) dX10_laysSilence_133 (by decide) (fun c13 => ?_) (fun c13 => ?_)
      · replace h := h.1 c13
        obtain ⟨g14, h⟩ := h
        refine WQ_iinc dX10_laysSilence_160 rfl (by decide) g14 (fun v15 e15 => ?_)
        refine WP_same (L' := [(2, 183), (0, x1), (0, x2), (0, v15)]) rfl ?_
        replace h := h v15 e15
        refine WP_goto (tgt := 101) dX10_laysSilence_163 (by decide) ?_
        exact h
      · replace h := h.2 c13
        refine WP_aload_n dX10_laysSilence_136 rfl rfl ⟨Nat.le_of_ble_eq_true rfl, Nat.le_of_ble_eq_true rfl⟩ ?_
        refine WP_iload_n dX10_laysSilence_137 rfl rfl ?_
        refine WP_iload_n dX10_laysSilence_138 rfl rfl ?_
        refine WP_iload_n dX10_laysSilence_139 rfl rfl ?_
        refine WQ_invVi (v := (2, 183)) (as := [(0, x1), (0, x2), (0, x3)]) dX10_laysSilence_140 l_X10_430 mw_X10_isSilent mi_X10_isSilent ms_X10_isSilent mo_X10_isSilent (rcv (ci := 10) (n := 49) (r := (RX10, TX10, 49)) k_183 rfl rfl) (Nat.le_of_ble_eq_true rfl) h rfl (fun r16 μ17 h => ?_)
        refine WQ_ifne (tgt := 149) dX10_laysSilence_143 (by decide) (fun c18 => ?_) (fun c18 => ?_)
        · replace h := h.1 c18
          refine WP_aload_n dX10_laysSilence_149 rfl rfl ⟨Nat.le_of_ble_eq_true rfl, Nat.le_of_ble_eq_true rfl⟩ ?_
          refine WP_iload_n dX10_laysSilence_150 rfl rfl ?_
          refine WQ_put (ci := 10) (j := 41) (n := 49) dX10_laysSilence_151 f_X10_424 k_183 rfl (fun μ19 eμ19 => ?_)
          replace h := h μ19 eμ19
          refine WP_aload_n dX10_laysSilence_154 rfl rfl ⟨Nat.le_of_ble_eq_true rfl, Nat.le_of_ble_eq_true rfl⟩ ?_
          refine WP_iload_n dX10_laysSilence_155 rfl rfl ?_
          refine WQ_put (ci := 10) (j := 42) (n := 49) dX10_laysSilence_156 f_X10_427 k_183 rfl (fun μ20 eμ20 => ?_)
          replace h := h μ20 eμ20
          exact WQ_return dX10_laysSilence_159 rfl h
        · replace h := h.2 c18
          refine WP_goto (tgt := 160) dX10_laysSilence_146 (by decide) ?_
          obtain ⟨g21, h⟩ := h
          refine WQ_iinc dX10_laysSilence_160 rfl (by decide) g21 (fun v22 e22 => ?_)
          refine WP_same (L' := [(2, 183), (0, x1), (0, x2), (0, v22)]) rfl ?_
          replace h := h v22 e22
          refine WP_goto (tgt := 101) dX10_laysSilence_163 (by decide) ?_
          exact h

theorem s_X10_laysTold_0 {d : Nat} {sc : SC} {Q : Mem → Prop} {μ : Mem} {a1 : Int}
    (h : ∀ μ1, μ1 = mup μ 183 34 0 → WQ mX10_laysTold d sc (ZV sc Q) 7 [(2, 183), (0, a1), (0, 0)] [] μ1) :
    WQ mX10_laysTold d sc (ZV sc Q) 0 [(2, 183), (0, a1), (9, 0)] [] μ := by
  refine WP_aload_n dX10_laysTold_0 rfl rfl ⟨Nat.le_of_ble_eq_true rfl, Nat.le_of_ble_eq_true rfl⟩ ?_
  refine WP_iconst dX10_laysTold_1 (by decide) ?_
  refine WQ_put (ci := 10) (j := 34) (n := 49) dX10_laysTold_2 f_X10_273 k_183 rfl (fun μ1 eμ1 => ?_)
  replace h := h μ1 eμ1
  refine WP_iconst dX10_laysTold_5 (by decide) ?_
  refine WP_istore_n (L' := [(2, 183), (0, a1), (0, 0)]) dX10_laysTold_6 rfl (by decide) rfl ?_
  exact h

theorem s_X10_laysTold_7 {d : Nat} {sc : SC} {Q : Mem → Prop} {μ : Mem} {x1 x2 : Int}
    (h : (μ 184 31 ≤ x2 → Q μ) ∧ (x2 < μ 184 31 → CAi mX10_isIn d sc [(1, x1), (0, x2)] μ (fun r3 μ4 => (r3 = 0 → (-2147483648 ≤ x2 + 1 ∧ x2 + 1 < 2147483648) ∧ ∀ v7 : Int, v7 = x2 + 1 → WQ mX10_laysTold d sc (ZV sc Q) 7 [(2, 183), (0, x1), (0, v7)] [] μ4) ∧ (r3 ≠ 0 → (-2147483648 ≤ 4 * x2 ∧ 4 * x2 < 2147483648) ∧ (-2147483648 ≤ 32 + (4 * x2) ∧ 32 + (4 * x2) < 2147483648) ∧ (0 ≤ 32 + (4 * x2) ∧ 32 + (4 * x2) < 4119) ∧ (-2147483648 ≤ 4 * x2 ∧ 4 * x2 < 2147483648) ∧ (-2147483648 ≤ 32 + (4 * x2) ∧ 32 + (4 * x2) < 2147483648) ∧ (-2147483648 ≤ (32 + (4 * x2)) + 1 ∧ (32 + (4 * x2)) + 1 < 2147483648) ∧ (0 ≤ (32 + (4 * x2)) + 1 ∧ (32 + (4 * x2)) + 1 < 4119) ∧ (-2147483648 ≤ 4 * x2 ∧ 4 * x2 < 2147483648) ∧ (-2147483648 ≤ 32 + (4 * x2) ∧ 32 + (4 * x2) < 2147483648) ∧ (-2147483648 ≤ (32 + (4 * x2)) + 2 ∧ (32 + (4 * x2)) + 2 < 2147483648) ∧ (0 ≤ (32 + (4 * x2)) + 2 ∧ (32 + (4 * x2)) + 2 < 4119) ∧ CAv mX10_tellsToo d sc [(2, 183), (0, μ4 184 (32 + (4 * x2))), (0, μ4 184 ((32 + (4 * x2)) + 1)), (0, μ4 184 ((32 + (4 * x2)) + 2))] μ4 (fun μ20 => (-2147483648 ≤ x2 + 1 ∧ x2 + 1 < 2147483648) ∧ ∀ v22 : Int, v22 = x2 + 1 → WQ mX10_laysTold d sc (ZV sc Q) 7 [(2, 183), (0, x1), (0, v22)] [] μ20))))) :
    WQ mX10_laysTold d sc (ZV sc Q) 7 [(2, 183), (0, x1), (0, x2)] [] μ := by
  refine WP_iload_n dX10_laysTold_7 rfl rfl ?_
  refine WP_aload_n dX10_laysTold_8 rfl rfl ⟨Nat.le_of_ble_eq_true rfl, Nat.le_of_ble_eq_true rfl⟩ ?_
  refine WP_getfield (ci := 10) (j := 1) (n := 49) (t := 2) (x := 184) dX10_laysTold_9 f_X10_13 k_183 rfl rfl ?_
  refine WP_bipush dX10_laysTold_12 (by decide +kernel) (by decide) ?_
  refine WP_iaload (n := 4119) dX10_laysTold_14 k_184 ⟨by decide, by decide⟩ ?_
  refine WQ_icmp_ge (tgt := 74) dX10_laysTold_15 (by decide) (fun c2 => ?_) (fun c2 => ?_)
  · replace h := h.1 c2
    exact WQ_return dX10_laysTold_74 rfl h
  · replace h := h.2 c2
    refine WP_iload_n dX10_laysTold_18 rfl rfl ?_
    refine WP_i2l dX10_laysTold_19 ?_
    refine WP_iload_n dX10_laysTold_20 rfl rfl ?_
    refine WQ_invSi (as := [(1, x1), (0, x2)]) dX10_laysTold_21 l_X10_276 mw_X10_isIn mt_X10_isIn mo_X10_isIn (Nat.le_of_ble_eq_true rfl) h rfl (fun r3 μ4 h => ?_)
    refine WQ_ifeq (tgt := 68) dX10_laysTold_24 (by decide) (fun c5 => ?_) (fun c5 => ?_)
    · replace h := h.1 c5
      obtain ⟨g6, h⟩ := h
      refine WQ_iinc dX10_laysTold_68 rfl (by decide) g6 (fun v7 e7 => ?_)
      refine WP_same (L' := [(2, 183), (0, x1), (0, v7)]) rfl ?_
      replace h := h v7 e7
      refine WP_goto (tgt := 7) dX10_laysTold_71 (by decide) ?_
      exact h
    · replace h := h.2 c5
      refine WP_aload_n dX10_laysTold_27 rfl rfl ⟨Nat.le_of_ble_eq_true rfl, Nat.le_of_ble_eq_true rfl⟩ ?_
      refine WP_aload_n dX10_laysTold_28 rfl rfl ⟨Nat.le_of_ble_eq_true rfl, Nat.le_of_ble_eq_true rfl⟩ ?_
      refine WP_getfield (ci := 10) (j := 1) (n := 49) (t := 2) (x := 184) dX10_laysTold_29 f_X10_13 k_183 rfl rfl ?_
      refine WP_bipush dX10_laysTold_32 (by decide +kernel) (by decide) ?_
      refine WP_iconst dX10_laysTold_34 (by decide) ?_
      refine WP_iload_n dX10_laysTold_35 rfl rfl ?_
      obtain ⟨g8, h⟩ := h
      refine WP_imul dX10_laysTold_36 g8 ?_
      obtain ⟨g9, h⟩ := h
      refine WP_iadd dX10_laysTold_37 g9 ?_
      obtain ⟨g10, h⟩ := h
      refine WP_iaload (n := 4119) dX10_laysTold_38 k_184 g10 ?_
      refine WP_aload_n dX10_laysTold_39 rfl rfl ⟨Nat.le_of_ble_eq_true rfl, Nat.le_of_ble_eq_true rfl⟩ ?_
      refine WP_getfield (ci := 10) (j := 1) (n := 49) (t := 2) (x := 184) dX10_laysTold_40 f_X10_13 k_183 rfl rfl ?_
      refine WP_bipush dX10_laysTold_43 (by decide +kernel) (by decide) ?_
      refine WP_iconst dX10_laysTold_45 (by decide) ?_
      refine WP_iload_n dX10_laysTold_46 rfl rfl ?_
      obtain ⟨g11, h⟩ := h
      refine WP_imul dX10_laysTold_47 g11 ?_
      obtain ⟨g12, h⟩ := h
      refine WP_iadd dX10_laysTold_48 g12 ?_
      refine WP_iconst dX10_laysTold_49 (by decide) ?_
      obtain ⟨g13, h⟩ := h
      refine WP_iadd dX10_laysTold_50 g13 ?_
      obtain ⟨g14, h⟩ := h
      refine WP_iaload (n := 4119) dX10_laysTold_51 k_184 g14 ?_
      refine WP_aload_n dX10_laysTold_52 rfl rfl ⟨Nat.le_of_ble_eq_true rfl, Nat.le_of_ble_eq_true rfl⟩ ?_
      refine WP_getfield (ci := 10) (j := 1) (n := 49) (t := 2) (x := 184) dX10_laysTold_53 f_X10_13 k_183 rfl rfl ?_
      refine WP_bipush dX10_laysTold_56 (by decide +kernel) (by decide) ?_
      refine WP_iconst dX10_laysTold_58 (by decide) ?_
      refine WP_iload_n dX10_laysTold_59 rfl rfl ?_
      obtain ⟨g15, h⟩ := h
      refine WP_imul dX10_laysTold_60 g15 ?_
      obtain ⟨g16, h⟩ := h
      refine WP_iadd dX10_laysTold_61 g16 ?_
      refine WP_iconst dX10_laysTold_62 (by decide) ?_
      obtain ⟨g17, h⟩ := h
      refine WP_iadd dX10_laysTold_63 g17 ?_
      obtain ⟨g18, h⟩ := h
      refine WP_iaload (n := 4119) dX10_laysTold_64 k_184 g18 ?_
      refine WQ_invVv (v := (2, 183)) (as := [(0, μ4 184 (32 + (4 * x2))), (0, μ4 184 ((32 + (4 * x2)) + 1)), (0, μ4 184 ((32 + (4 * x2)) + 2))]) dX10_laysTold_65 l_X10_280 mw_X10_tellsToo mi_X10_tellsToo ms_X10_tellsToo mo_X10_tellsToo (rcv (ci := 10) (n := 49) (r := (RX10, TX10, 49)) k_183 rfl rfl) (Nat.le_of_ble_eq_true rfl) h rfl (fun μ20 h => ?_)
      obtain ⟨g21, h⟩ := h
      refine WQ_iinc dX10_laysTold_68 rfl (by decide) g21 (fun v22 e22 => ?_)
      refine WP_same (L' := [(2, 183), (0, x1), (0, v22)]) rfl ?_
      replace h := h v22 e22
      refine WP_goto (tgt := 7) dX10_laysTold_71 (by decide) ?_
      exact h

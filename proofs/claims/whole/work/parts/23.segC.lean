/-! segments, printed by program -/
theorem s_X9_acceptTrial_0 {d : Nat} {sc : SC} {Q : Mem → Prop} {μ : Mem}
    (h : isK 1 (μ 0 2) ∧ CAv mX5_keep d sc [(2, 34), (2, μ 0 2 + 7)] μ (fun μ3 => isK 1 (μ3 0 2) ∧ CAv mX6_copyFrom d sc [(2, μ3 0 2 + 7), (2, 121)] μ3 (fun μ6 => CAv mX9_forgetAnswers d sc [(2, 0)] μ6 (fun μ8 => Q μ8)))) :
    WQ mX9_acceptTrial d sc (ZV sc Q) 0 [(2, 0)] [] μ := by
  refine WP_aload_n dX9_acceptTrial_0 rfl rfl ⟨Nat.le_of_ble_eq_true rfl, Nat.le_of_ble_eq_true rfl⟩ ?_
  refine WP_getfield (ci := 9) (j := 7) (n := 20) (t := 2) (x := 34) dX9_acceptTrial_1 f_X9_41 k_0 rfl rfl ?_
  refine WP_aload_n dX9_acceptTrial_4 rfl rfl ⟨Nat.le_of_ble_eq_true rfl, Nat.le_of_ble_eq_true rfl⟩ ?_
  refine WP_getfield (ci := 9) (j := 2) (n := 20) (t := 2) (x := μ 0 2) dX9_acceptTrial_5 f_X9_16 k_0 rfl rfl ?_
  obtain ⟨g1, h⟩ := h
  refine WP_getfield (ci := 1) (j := 10) (n := 11) (t := 2) (x := μ 0 2 + 7) dX9_acceptTrial_8 f_X9_131 g1 rfl rfl ?_
  refine WQ_invVv (v := (2, 34)) (as := [(2, μ 0 2 + 7)]) dX9_acceptTrial_11 l_X9_391 mw_X5_keep mi_X5_keep ms_X5_keep mo_X5_keep (rcv (ci := 5) (n := 2) (r := (RX5, TX5, 2)) k_34 rfl rfl) (Nat.le_of_ble_eq_true rfl) h rfl (fun μ3 h => ?_)
  refine WP_aload_n dX9_acceptTrial_14 rfl rfl ⟨Nat.le_of_ble_eq_true rfl, Nat.le_of_ble_eq_true rfl⟩ ?_
  refine WP_getfield (ci := 9) (j := 2) (n := 20) (t := 2) (x := μ3 0 2) dX9_acceptTrial_15 f_X9_16 k_0 rfl rfl ?_
  obtain ⟨g4, h⟩ := h
  refine WP_getfield (ci := 1) (j := 10) (n := 11) (t := 2) (x := μ3 0 2 + 7) dX9_acceptTrial_18 f_X9_131 g4 rfl rfl ?_
  refine WP_aload_n dX9_acceptTrial_21 rfl rfl ⟨Nat.le_of_ble_eq_true rfl, Nat.le_of_ble_eq_true rfl⟩ ?_
  refine WP_getfield (ci := 9) (j := 14) (n := 20) (t := 2) (x := 121) dX9_acceptTrial_22 f_X9_82 k_0 rfl rfl ?_
  refine WQ_invVv (v := (2, μ3 0 2 + 7)) (as := [(2, 121)]) dX9_acceptTrial_25 l_X9_176 mw_X6_copyFrom mi_X6_copyFrom ms_X6_copyFrom mo_X6_copyFrom (rcv (ci := 6) (n := 7) (r := (RX6, TX6, 7)) (kf_1_10 g4) rfl rfl) (Nat.le_of_ble_eq_true rfl) h rfl (fun μ6 h => ?_)
  refine WP_aload_n dX9_acceptTrial_28 rfl rfl ⟨Nat.le_of_ble_eq_true rfl, Nat.le_of_ble_eq_true rfl⟩ ?_
  refine WQ_invVv (v := (2, 0)) (as := []) dX9_acceptTrial_29 l_X9_118 mw_X9_forgetAnswers mi_X9_forgetAnswers ms_X9_forgetAnswers mo_X9_forgetAnswers (rcv (ci := 9) (n := 20) (r := (RX9, TX9, 20)) k_0 rfl rfl) (Nat.le_of_ble_eq_true rfl) h rfl (fun μ8 h => ?_)
  exact WQ_return dX9_acceptTrial_32 rfl h

theorem s_X9_answers_0 {d : Nat} {sc : SC} {Q : Int → Mem → Prop} {μ : Mem} {a1 : Int}
    (h : CAi mX9_isPerson d sc [(2, 0), (0, a1)] μ (fun r1 μ2 => (r1 ≠ 0 → CAv mX9_know d sc [(2, 0)] μ2 (fun μ5 => (0 ≤ a1 ∧ a1 < 6) ∧ Q (μ5 109 a1) μ5)) ∧ (r1 = 0 → Q (-2) μ2))) :
    WQ mX9_answers d sc (ZI sc Q) 0 [(2, 0), (0, a1)] [] μ := by
  refine WP_aload_n dX9_answers_0 rfl rfl ⟨Nat.le_of_ble_eq_true rfl, Nat.le_of_ble_eq_true rfl⟩ ?_
  refine WP_iload_n dX9_answers_1 rfl rfl ?_
  refine WQ_invVi (v := (2, 0)) (as := [(0, a1)]) dX9_answers_2 l_X9_127 mw_X9_isPerson mi_X9_isPerson ms_X9_isPerson mo_X9_isPerson (rcv (ci := 9) (n := 20) (r := (RX9, TX9, 20)) k_0 rfl rfl) (Nat.le_of_ble_eq_true rfl) h rfl (fun r1 μ2 h => ?_)
  refine WQ_ifne (tgt := 11) dX9_answers_5 (by decide) (fun c3 => ?_) (fun c3 => ?_)
  · replace h := h.1 c3
    refine WP_aload_n dX9_answers_11 rfl rfl ⟨Nat.le_of_ble_eq_true rfl, Nat.le_of_ble_eq_true rfl⟩ ?_
    refine WQ_invVv (v := (2, 0)) (as := []) dX9_answers_12 l_X9_161 mw_X9_know mi_X9_know ms_X9_know mo_X9_know (rcv (ci := 9) (n := 20) (r := (RX9, TX9, 20)) k_0 rfl rfl) (Nat.le_of_ble_eq_true rfl) h rfl (fun μ5 h => ?_)
    refine WP_aload_n dX9_answers_15 rfl rfl ⟨Nat.le_of_ble_eq_true rfl, Nat.le_of_ble_eq_true rfl⟩ ?_
    refine WP_getfield (ci := 9) (j := 11) (n := 20) (t := 2) (x := 105) dX9_answers_16 f_X9_61 k_0 rfl rfl ?_
    refine WP_getfield (ci := 0) (j := 4) (n := 16) (t := 2) (x := 109) dX9_answers_19 f_X9_267 k_105 rfl rfl ?_
    refine WP_iload_n dX9_answers_22 rfl rfl ?_
    obtain ⟨g6, h⟩ := h
    refine WP_iaload (n := 6) dX9_answers_23 k_109 g6 ?_
    exact WQ_ireturn dX9_answers_24 rfl h
  · replace h := h.2 c3
    refine WP_bipush dX9_answers_8 (by decide +kernel) (by decide) ?_
    exact WQ_ireturn dX9_answers_10 rfl h

theorem s_X9_atOnce_0 {d : Nat} {sc : SC} {Q : Int → Mem → Prop} {μ : Mem} {a1 a2 : Int}
    (h : CAi mX9_isPerson d sc [(2, 0), (0, a1)] μ (fun r1 μ2 => (r1 ≠ 0 → (a2 < 0 → Q (-3) μ2) ∧ (0 ≤ a2 → isK 1 (μ2 0 2) ∧ (a2 < iShl 1 (μ2 (μ2 0 2) 3) → ∀ v7 : Int, v7 = iAnd a2 (iXor (iShl 1 a1) (-1)) → (v7 ≠ 0 → CAv mX9_startTrialLaws d sc [(2, 0)] μ2 (fun μ10 => WQ mX9_atOnce d sc (ZI sc Q) 55 [(2, 0), (0, a1), (9, 0), (0, v7), (0, 0), (0, 0)] [] μ10)) ∧ (v7 = 0 → Q 0 μ2)) ∧ (iShl 1 (μ2 (μ2 0 2) 3) ≤ a2 → Q (-3) μ2))) ∧ (r1 = 0 → Q (-2) μ2))) :
    WQ mX9_atOnce d sc (ZI sc Q) 0 [(2, 0), (0, a1), (0, a2), (9, 0), (9, 0), (9, 0)] [] μ := by
  refine WP_aload_n dX9_atOnce_0 rfl rfl ⟨Nat.le_of_ble_eq_true rfl, Nat.le_of_ble_eq_true rfl⟩ ?_
  refine WP_iload_n dX9_atOnce_1 rfl rfl ?_
  refine WQ_invVi (v := (2, 0)) (as := [(0, a1)]) dX9_atOnce_2 l_X9_127 mw_X9_isPerson mi_X9_isPerson ms_X9_isPerson mo_X9_isPerson (rcv (ci := 9) (n := 20) (r := (RX9, TX9, 20)) k_0 rfl rfl) (Nat.le_of_ble_eq_true rfl) h rfl (fun r1 μ2 h => ?_)
  refine WQ_ifne (tgt := 11) dX9_atOnce_5 (by decide) (fun c3 => ?_) (fun c3 => ?_)
  · replace h := h.1 c3
    refine WP_iload_n dX9_atOnce_11 rfl rfl ?_
    refine WQ_iflt (tgt := 28) dX9_atOnce_12 (by decide) (fun c4 => ?_) (fun c4 => ?_)
    · replace h := h.1 c4
      refine WP_bipush dX9_atOnce_28 (by decide +kernel) (by decide) ?_
      exact WQ_ireturn dX9_atOnce_30 rfl h
    · replace h := h.2 c4
      refine WP_iload_n dX9_atOnce_15 rfl rfl ?_
      refine WP_iconst dX9_atOnce_16 (by decide) ?_
      refine WP_aload_n dX9_atOnce_17 rfl rfl ⟨Nat.le_of_ble_eq_true rfl, Nat.le_of_ble_eq_true rfl⟩ ?_
      refine WP_getfield (ci := 9) (j := 2) (n := 20) (t := 2) (x := μ2 0 2) dX9_atOnce_18 f_X9_16 k_0 rfl rfl ?_
      obtain ⟨g5, h⟩ := h
      refine WP_getfield (ci := 1) (j := 3) (n := 11) (t := 0) (x := μ2 (μ2 0 2) 3) dX9_atOnce_21 f_X9_241 g5 rfl rfl ?_
      refine WP_ishl dX9_atOnce_24 ?_
      refine WQ_icmp_lt (tgt := 31) dX9_atOnce_25 (by decide) (fun c6 => ?_) (fun c6 => ?_)
      · replace h := h.1 c6
        refine WP_iload_n dX9_atOnce_31 rfl rfl ?_
        refine WP_iconst dX9_atOnce_32 (by decide) ?_
        refine WP_iload_n dX9_atOnce_33 rfl rfl ?_
        refine WP_ishl dX9_atOnce_34 ?_
        refine WP_iconst dX9_atOnce_35 (by decide) ?_
        refine WP_ixor dX9_atOnce_36 ?_
        refine WP_iand dX9_atOnce_37 ?_
        refine WQ_nm0 (fun v7 e7 => ?_)
        replace h := h v7 e7
        refine WP_istore_n (L' := [(2, 0), (0, a1), (0, a2), (0, v7), (9, 0), (9, 0)]) dX9_atOnce_38 rfl (by decide) rfl ?_
        refine WP_iload_n dX9_atOnce_39 rfl rfl ?_
        refine WQ_ifne (tgt := 45) dX9_atOnce_40 (by decide) (fun c8 => ?_) (fun c8 => ?_)
        · replace h := h.1 c8
          refine WP_aload_n dX9_atOnce_45 rfl rfl ⟨Nat.le_of_ble_eq_true rfl, Nat.le_of_ble_eq_true rfl⟩ ?_
          refine WQ_invVv (v := (2, 0)) (as := []) dX9_atOnce_46 l_X9_281 mw_X9_startTrialLaws mi_X9_startTrialLaws ms_X9_startTrialLaws mo_X9_startTrialLaws (rcv (ci := 9) (n := 20) (r := (RX9, TX9, 20)) k_0 rfl rfl) (Nat.le_of_ble_eq_true rfl) h rfl (fun μ10 h => ?_)
          refine WP_iconst dX9_atOnce_49 (by decide) ?_
          refine WP_istore (L' := [(2, 0), (0, a1), (0, a2), (0, v7), (0, 0), (9, 0)]) dX9_atOnce_50 (by decide) rfl ?_
          refine WP_iconst dX9_atOnce_52 (by decide) ?_
          refine WP_istore (L' := [(2, 0), (0, a1), (0, a2), (0, v7), (0, 0), (0, 0)]) dX9_atOnce_53 (by decide) rfl ?_
          refine WP_lforget (L' := [(2, 0), (0, a1), (9, 0), (0, v7), (0, 0), (0, 0)]) rfl (fun i hi => ?_) h
          match i, hi with
          | 0, _ => exact Or.inl rfl
          | 1, _ => exact Or.inl rfl
          | 2, _ => exact Or.inr rfl
          | 3, _ => exact Or.inl rfl
          | 4, _ => exact Or.inl rfl
          | 5, _ => exact Or.inl rfl
          | i + 6, hi => exact absurd hi (by simp only [List.length_cons, List.length_nil]; omega)
        · replace h := h.2 c8
          refine WP_iconst dX9_atOnce_43 (by decide) ?_
          exact WQ_ireturn dX9_atOnce_44 rfl h
      · replace h := h.2 c6
        refine WP_bipush dX9_atOnce_28 (by decide +kernel) (by decide) ?_
        exact WQ_ireturn dX9_atOnce_30 rfl h
  · replace h := h.2 c3
    refine WP_bipush dX9_atOnce_8 (by decide +kernel) (by decide) ?_
    exact WQ_ireturn dX9_atOnce_10 rfl h

theorem s_X9_atOnce_55 {d : Nat} {sc : SC} {Q : Int → Mem → Prop} {μ : Mem} {x1 x3 x4 x5 : Int}
    (h : isK 1 (μ 0 2) ∧ CAi mX1_cells d sc [(2, μ 0 2)] μ (fun r2 μ3 => (r2 ≤ x5 → Q x4 μ3) ∧ (x5 < r2 → (0 ≤ x1 ∧ x1 < 6) ∧ (∀ μ6, μ6 = mup μ3 126 x1 x5 → CAi mX9_namesAtOnce d sc [(2, 0), (0, x1), (0, x3)] μ6 (fun r7 μ8 => (r7 = 0 → (-2147483648 ≤ x5 + 1 ∧ x5 + 1 < 2147483648) ∧ ∀ v11 : Int, v11 = x5 + 1 → WQ mX9_atOnce d sc (ZI sc Q) 55 [(2, 0), (0, x1), (9, 0), (0, x3), (0, x4), (0, v11)] [] μ8) ∧ (r7 ≠ 0 → (-2147483648 ≤ x4 + 1 ∧ x4 + 1 < 2147483648) ∧ ∀ v13 : Int, v13 = x4 + 1 → (-2147483648 ≤ x5 + 1 ∧ x5 + 1 < 2147483648) ∧ ∀ v15 : Int, v15 = x5 + 1 → WQ mX9_atOnce d sc (ZI sc Q) 55 [(2, 0), (0, x1), (9, 0), (0, x3), (0, v13), (0, v15)] [] μ8)))))) :
    WQ mX9_atOnce d sc (ZI sc Q) 55 [(2, 0), (0, x1), (9, 0), (0, x3), (0, x4), (0, x5)] [] μ := by
  refine WP_iload dX9_atOnce_55 rfl ?_
  refine WP_aload_n dX9_atOnce_57 rfl rfl ⟨Nat.le_of_ble_eq_true rfl, Nat.le_of_ble_eq_true rfl⟩ ?_
  refine WP_getfield (ci := 9) (j := 2) (n := 20) (t := 2) (x := μ 0 2) dX9_atOnce_58 f_X9_16 k_0 rfl rfl ?_
  obtain ⟨g1, h⟩ := h
  refine WQ_invVi (v := (2, μ 0 2)) (as := []) dX9_atOnce_61 l_X9_278 mw_X1_cells mi_X1_cells ms_X1_cells mo_X1_cells (rcv (ci := 1) (n := 11) (r := (RX1, TX1, 11)) g1 rfl rfl) (Nat.le_of_ble_eq_true rfl) h rfl (fun r2 μ3 h => ?_)
  refine WQ_icmp_ge (tgt := 96) dX9_atOnce_64 (by decide) (fun c4 => ?_) (fun c4 => ?_)
  · replace h := h.1 c4
    refine WP_iload dX9_atOnce_96 rfl ?_
    exact WQ_ireturn dX9_atOnce_98 rfl h
  · replace h := h.2 c4
    refine WP_aload_n dX9_atOnce_67 rfl rfl ⟨Nat.le_of_ble_eq_true rfl, Nat.le_of_ble_eq_true rfl⟩ ?_
    refine WP_getfield (ci := 9) (j := 14) (n := 20) (t := 2) (x := 121) dX9_atOnce_68 f_X9_82 k_0 rfl rfl ?_
    refine WP_getfield (ci := 6) (j := 5) (n := 7) (t := 2) (x := 126) dX9_atOnce_71 f_X9_134 k_121 rfl rfl ?_
    refine WP_iload_n dX9_atOnce_74 rfl rfl ?_
    refine WP_iload dX9_atOnce_75 rfl ?_
    obtain ⟨g5, h⟩ := h
    refine WQ_iast (n := 6) dX9_atOnce_77 k_126 g5 (fun μ6 eμ6 => ?_)
    replace h := h μ6 eμ6
    refine WP_aload_n dX9_atOnce_78 rfl rfl ⟨Nat.le_of_ble_eq_true rfl, Nat.le_of_ble_eq_true rfl⟩ ?_
    refine WP_iload_n dX9_atOnce_79 rfl rfl ?_
    refine WP_iload_n dX9_atOnce_80 rfl rfl ?_
    refine WQ_invVi (v := (2, 0)) (as := [(0, x1), (0, x3)]) dX9_atOnce_81 l_X9_284 mw_X9_namesAtOnce mi_X9_namesAtOnce ms_X9_namesAtOnce mo_X9_namesAtOnce (rcv (ci := 9) (n := 20) (r := (RX9, TX9, 20)) k_0 rfl rfl) (Nat.le_of_ble_eq_true rfl) h rfl (fun r7 μ8 h => ?_)
    refine WQ_ifeq (tgt := 90) dX9_atOnce_84 (by decide) (fun c9 => ?_) (fun c9 => ?_)
    · replace h := h.1 c9
      obtain ⟨g10, h⟩ := h
      refine WQ_iinc dX9_atOnce_90 rfl (by decide) g10 (fun v11 e11 => ?_)
      refine WP_same (L' := [(2, 0), (0, x1), (9, 0), (0, x3), (0, x4), (0, v11)]) rfl ?_
      replace h := h v11 e11
      refine WP_goto (tgt := 55) dX9_atOnce_93 (by decide) ?_
      exact h
    · replace h := h.2 c9
      obtain ⟨g12, h⟩ := h
      refine WQ_iinc dX9_atOnce_87 rfl (by decide) g12 (fun v13 e13 => ?_)
      refine WP_same (L' := [(2, 0), (0, x1), (9, 0), (0, x3), (0, v13), (0, x5)]) rfl ?_
      replace h := h v13 e13
      obtain ⟨g14, h⟩ := h
      refine WQ_iinc dX9_atOnce_90 rfl (by decide) g14 (fun v15 e15 => ?_)
      refine WP_same (L' := [(2, 0), (0, x1), (9, 0), (0, x3), (0, v13), (0, v15)]) rfl ?_
      replace h := h v15 e15
      refine WP_goto (tgt := 55) dX9_atOnce_93 (by decide) ?_
      exact h

theorem s_X9_attempt_0 {d : Nat} {sc : SC} {Q : Int → Mem → Prop} {μ : Mem} {a1 a2 : Int}
    (h : CAi mX9_refuseHeard d sc [(2, 0), (0, a1), (0, a2)] μ (fun r1 μ2 => (r1 = 0 → (0 ≤ a1 ∧ a1 < 4) ∧ CAi mX9_findHeard d sc [(2, 0), (2, μ2 96 a1), (0, a2)] μ2 (fun r5 μ6 => WQ mX9_attempt d sc (ZI sc Q) 36 [(2, 0), (9, 0), (0, a2), (9, 0), (0, r5), (0, (-1)), (0, 65), (0, 0), (9, 0)] [] μ6)) ∧ (r1 ≠ 0 → Q r1 μ2))) :
    WQ mX9_attempt d sc (ZI sc Q) 0 [(2, 0), (0, a1), (0, a2), (9, 0), (9, 0), (9, 0), (9, 0), (9, 0), (9, 0)] [] μ := by
  refine WP_aload_n dX9_attempt_0 rfl rfl ⟨Nat.le_of_ble_eq_true rfl, Nat.le_of_ble_eq_true rfl⟩ ?_
  refine WP_iload_n dX9_attempt_1 rfl rfl ?_
  refine WP_iload_n dX9_attempt_2 rfl rfl ?_
  refine WQ_invVi (v := (2, 0)) (as := [(0, a1), (0, a2)]) dX9_attempt_3 l_X9_310 mw_X9_refuseHeard mi_X9_refuseHeard ms_X9_refuseHeard mo_X9_refuseHeard (rcv (ci := 9) (n := 20) (r := (RX9, TX9, 20)) k_0 rfl rfl) (Nat.le_of_ble_eq_true rfl) h rfl (fun r1 μ2 h => ?_)
  refine WP_istore_n (L' := [(2, 0), (0, a1), (0, a2), (0, r1), (9, 0), (9, 0), (9, 0), (9, 0), (9, 0)]) dX9_attempt_6 rfl (by decide) rfl ?_
  refine WP_iload_n dX9_attempt_7 rfl rfl ?_
  refine WQ_ifeq (tgt := 13) dX9_attempt_8 (by decide) (fun c3 => ?_) (fun c3 => ?_)
  · replace h := h.1 c3
    refine WP_aload_n dX9_attempt_13 rfl rfl ⟨Nat.le_of_ble_eq_true rfl, Nat.le_of_ble_eq_true rfl⟩ ?_
    refine WP_aload_n dX9_attempt_14 rfl rfl ⟨Nat.le_of_ble_eq_true rfl, Nat.le_of_ble_eq_true rfl⟩ ?_
    refine WP_getfield (ci := 9) (j := 8) (n := 20) (t := 2) (x := 96) dX9_attempt_15 f_X9_47 k_0 rfl rfl ?_
    refine WP_iload_n dX9_attempt_18 rfl rfl ?_
    obtain ⟨g4, h⟩ := h
    refine WP_aaload (n := 4) (ci := 8) dX9_attempt_19 k_96 (by decide) g4 ?_
    refine WP_iload_n dX9_attempt_20 rfl rfl ?_
    refine WQ_invVi (v := (2, 0)) (as := [(2, μ2 96 a1), (0, a2)]) dX9_attempt_21 l_X9_314 mw_X9_findHeard mi_X9_findHeard ms_X9_findHeard mo_X9_findHeard (rcv (ci := 9) (n := 20) (r := (RX9, TX9, 20)) k_0 rfl rfl) (Nat.le_of_ble_eq_true rfl) h rfl (fun r5 μ6 h => ?_)
    refine WP_istore (L' := [(2, 0), (0, a1), (0, a2), (0, r1), (0, r5), (9, 0), (9, 0), (9, 0), (9, 0)]) dX9_attempt_24 (by decide) rfl ?_
    refine WP_iconst dX9_attempt_26 (by decide) ?_
    refine WP_istore (L' := [(2, 0), (0, a1), (0, a2), (0, r1), (0, r5), (0, (-1)), (9, 0), (9, 0), (9, 0)]) dX9_attempt_27 (by decide) rfl ?_
    refine WP_bipush dX9_attempt_29 (by decide +kernel) (by decide) ?_
    refine WP_istore (L' := [(2, 0), (0, a1), (0, a2), (0, r1), (0, r5), (0, (-1)), (0, 65), (9, 0), (9, 0)]) dX9_attempt_31 (by decide) rfl ?_
    refine WP_iconst dX9_attempt_33 (by decide) ?_
    refine WP_istore (L' := [(2, 0), (0, a1), (0, a2), (0, r1), (0, r5), (0, (-1)), (0, 65), (0, 0), (9, 0)]) dX9_attempt_34 (by decide) rfl ?_
    refine WP_lforget (L' := [(2, 0), (9, 0), (0, a2), (9, 0), (0, r5), (0, (-1)), (0, 65), (0, 0), (9, 0)]) rfl (fun i hi => ?_) h
    match i, hi with
    | 0, _ => exact Or.inl rfl
    | 1, _ => exact Or.inr rfl
    | 2, _ => exact Or.inl rfl
    | 3, _ => exact Or.inr rfl
    | 4, _ => exact Or.inl rfl
    | 5, _ => exact Or.inl rfl
    | 6, _ => exact Or.inl rfl
    | 7, _ => exact Or.inl rfl
    | 8, _ => exact Or.inl rfl
    | i + 9, hi => exact absurd hi (by simp only [List.length_cons, List.length_nil]; omega)
  · replace h := h.2 c3
    refine WP_iload_n dX9_attempt_11 rfl rfl ?_
    exact WQ_ireturn dX9_attempt_12 rfl h

theorem s_X9_attempt_36 {d : Nat} {sc : SC} {Q : Int → Mem → Prop} {μ : Mem} {x2 x4 x5 x6 x7 : Int}
    (h : isK 1 (μ 0 2) ∧ (μ (μ 0 2) 3 ≤ x7 → Q x5 μ) ∧ (x7 < μ (μ 0 2) 3 → (x4 ≤ 0 → Q x5 μ) ∧ (0 < x4 → (x7 = x2 → (-2147483648 ≤ x7 + 1 ∧ x7 + 1 < 2147483648) ∧ ∀ v6 : Int, v6 = x7 + 1 → WQ mX9_attempt d sc (ZI sc Q) 36 [(2, 0), (9, 0), (0, x2), (9, 0), (0, x4), (0, x5), (0, x6), (0, v6), (9, 0)] [] μ) ∧ (x7 ≠ x2 → CAi mX9_mostAlike d sc [(2, 0), (0, x2), (0, x7), (0, x4)] μ (fun r7 μ8 => (x6 ≤ r7 → (-2147483648 ≤ x7 + 1 ∧ x7 + 1 < 2147483648) ∧ ∀ v11 : Int, v11 = x7 + 1 → WQ mX9_attempt d sc (ZI sc Q) 36 [(2, 0), (9, 0), (0, x2), (9, 0), (0, x4), (0, x5), (0, x6), (0, v11), (9, 0)] [] μ8) ∧ (r7 < x6 → (-2147483648 ≤ x7 + 1 ∧ x7 + 1 < 2147483648) ∧ ∀ v13 : Int, v13 = x7 + 1 → WQ mX9_attempt d sc (ZI sc Q) 36 [(2, 0), (9, 0), (0, x2), (9, 0), (0, x4), (0, x7), (0, r7), (0, v13), (9, 0)] [] μ8)))))) :
    WQ mX9_attempt d sc (ZI sc Q) 36 [(2, 0), (9, 0), (0, x2), (9, 0), (0, x4), (0, x5), (0, x6), (0, x7), (9, 0)] [] μ := by
  refine WP_iload dX9_attempt_36 rfl ?_
  refine WP_aload_n dX9_attempt_38 rfl rfl ⟨Nat.le_of_ble_eq_true rfl, Nat.le_of_ble_eq_true rfl⟩ ?_
  refine WP_getfield (ci := 9) (j := 2) (n := 20) (t := 2) (x := μ 0 2) dX9_attempt_39 f_X9_16 k_0 rfl rfl ?_
  obtain ⟨g1, h⟩ := h
  refine WP_getfield (ci := 1) (j := 3) (n := 11) (t := 0) (x := μ (μ 0 2) 3) dX9_attempt_42 f_X9_241 g1 rfl rfl ?_
  refine WQ_icmp_ge (tgt := 91) dX9_attempt_45 (by decide) (fun c2 => ?_) (fun c2 => ?_)
  · replace h := h.1 c2
    refine WP_iload dX9_attempt_91 rfl ?_
    exact WQ_ireturn dX9_attempt_93 rfl h
  · replace h := h.2 c2
    refine WP_iload dX9_attempt_48 rfl ?_
    refine WQ_ifle (tgt := 91) dX9_attempt_50 (by decide) (fun c3 => ?_) (fun c3 => ?_)
    · replace h := h.1 c3
      refine WP_iload dX9_attempt_91 rfl ?_
      exact WQ_ireturn dX9_attempt_93 rfl h
    · replace h := h.2 c3
      refine WP_iload dX9_attempt_53 rfl ?_
      refine WP_iload_n dX9_attempt_55 rfl rfl ?_
      refine WQ_icmp_eq (tgt := 85) dX9_attempt_56 (by decide) (fun c4 => ?_) (fun c4 => ?_)
      · replace h := h.1 c4
        obtain ⟨g5, h⟩ := h
        refine WQ_iinc dX9_attempt_85 rfl (by decide) g5 (fun v6 e6 => ?_)
        refine WP_same (L' := [(2, 0), (9, 0), (0, x2), (9, 0), (0, x4), (0, x5), (0, x6), (0, v6), (9, 0)]) rfl ?_
        replace h := h v6 e6
        refine WP_goto (tgt := 36) dX9_attempt_88 (by decide) ?_
        exact h
      · replace h := h.2 c4
        refine WP_aload_n dX9_attempt_59 rfl rfl ⟨Nat.le_of_ble_eq_true rfl, Nat.le_of_ble_eq_true rfl⟩ ?_
        refine WP_iload_n dX9_attempt_60 rfl rfl ?_
        refine WP_iload dX9_attempt_61 rfl ?_
        refine WP_iload dX9_attempt_63 rfl ?_
        refine WQ_invVi (v := (2, 0)) (as := [(0, x2), (0, x7), (0, x4)]) dX9_attempt_65 l_X9_318 mw_X9_mostAlike mi_X9_mostAlike ms_X9_mostAlike mo_X9_mostAlike (rcv (ci := 9) (n := 20) (r := (RX9, TX9, 20)) k_0 rfl rfl) (Nat.le_of_ble_eq_true rfl) h rfl (fun r7 μ8 h => ?_)
        refine WP_istore (L' := [(2, 0), (9, 0), (0, x2), (9, 0), (0, x4), (0, x5), (0, x6), (0, x7), (0, r7)]) dX9_attempt_68 (by decide) rfl ?_
        refine WP_iload dX9_attempt_70 rfl ?_
        refine WP_iload dX9_attempt_72 rfl ?_
        refine WQ_icmp_ge (tgt := 85) dX9_attempt_74 (by decide) (fun c9 => ?_) (fun c9 => ?_)
        · replace h := h.1 c9
          obtain ⟨g10, h⟩ := h
          refine WQ_iinc dX9_attempt_85 rfl (by decide) g10 (fun v11 e11 => ?_)
          refine WP_same (L' := [(2, 0), (9, 0), (0, x2), (9, 0), (0, x4), (0, x5), (0, x6), (0, v11), (0, r7)]) rfl ?_
          replace h := h v11 e11
          refine WP_goto (tgt := 36) dX9_attempt_88 (by decide) ?_
          refine WP_lforget (L' := [(2, 0), (9, 0), (0, x2), (9, 0), (0, x4), (0, x5), (0, x6), (0, v11), (9, 0)]) rfl (fun i hi => ?_) h
          match i, hi with
          | 0, _ => exact Or.inl rfl
          | 1, _ => exact Or.inl rfl
          | 2, _ => exact Or.inl rfl
          | 3, _ => exact Or.inl rfl
          | 4, _ => exact Or.inl rfl
          | 5, _ => exact Or.inl rfl
          | 6, _ => exact Or.inl rfl
          | 7, _ => exact Or.inl rfl
          | 8, _ => exact Or.inr rfl
          | i + 9, hi => exact absurd hi (by simp only [List.length_cons, List.length_nil]; omega)
        · replace h := h.2 c9
          refine WP_iload dX9_attempt_77 rfl ?_
          refine WP_istore (L' := [(2, 0), (9, 0), (0, x2), (9, 0), (0, x4), (0, x5), (0, r7), (0, x7), (0, r7)]) dX9_attempt_79 (by decide) rfl ?_
          refine WP_iload dX9_attempt_81 rfl ?_
          refine WP_istore (L' := [(2, 0), (9, 0), (0, x2), (9, 0), (0, x4), (0, x7), (0, r7), (0, x7), (0, r7)]) dX9_attempt_83 (by decide) rfl ?_
          obtain ⟨g12, h⟩ := h
          refine WQ_iinc dX9_attempt_85 rfl (by decide) g12 (fun v13 e13 => ?_)
          refine WP_same (L' := [(2, 0), (9, 0), (0, x2), (9, 0), (0, x4), (0, x7), (0, r7), (0, v13), (0, r7)]) rfl ?_
          replace h := h v13 e13
          refine WP_goto (tgt := 36) dX9_attempt_88 (by decide) ?_
          refine WP_lforget (L' := [(2, 0), (9, 0), (0, x2), (9, 0), (0, x4), (0, x7), (0, r7), (0, v13), (9, 0)]) rfl (fun i hi => ?_) h
          match i, hi with
          | 0, _ => exact Or.inl rfl
          | 1, _ => exact Or.inl rfl
          | 2, _ => exact Or.inl rfl
          | 3, _ => exact Or.inl rfl
          | 4, _ => exact Or.inl rfl
          | 5, _ => exact Or.inl rfl
          | 6, _ => exact Or.inl rfl
          | 7, _ => exact Or.inl rfl
          | 8, _ => exact Or.inr rfl
          | i + 9, hi => exact absurd hi (by simp only [List.length_cons, List.length_nil]; omega)

theorem s_X9_between_0 {d : Nat} {sc : SC} {Q : Int → Mem → Prop} {μ : Mem} {a1 a2 a3 : Int}
    (h : CAi mX9_isPerson d sc [(2, 0), (0, a1)] μ (fun r1 μ2 => (r1 = 0 → Q (-2) μ2) ∧ (r1 ≠ 0 → CAi mX9_isPerson d sc [(2, 0), (0, a2)] μ2 (fun r4 μ5 => (r4 = 0 → Q (-2) μ5) ∧ (r4 ≠ 0 → (a1 ≠ a2 → CAv mX9_know d sc [(2, 0)] μ5 (fun μ9 => (-2147483648 ≤ a1 * 6 ∧ a1 * 6 < 2147483648) ∧ (-2147483648 ≤ (a1 * 6) + a2 ∧ (a1 * 6) + a2 < 2147483648) ∧ (∀ v12 : Int, v12 = (a1 * 6) + a2 → (a3 = 0 → (0 ≤ v12 ∧ v12 < 36) ∧ Q (μ9 99 v12) μ9) ∧ (a3 = 1 → (0 ≤ v12 ∧ v12 < 36) ∧ Q (μ9 100 v12) μ9) ∧ (a3 = 2 → (0 ≤ v12 ∧ v12 < 36) ∧ Q (μ9 98 v12) μ9) ∧ ((a3 ≠ 0 ∧ a3 ≠ 1 ∧ a3 ≠ 2) → Q (-2) μ9)))) ∧ (a1 = a2 → Q (-2) μ5)))))) :
    WQ mX9_between d sc (ZI sc Q) 0 [(2, 0), (0, a1), (0, a2), (0, a3), (9, 0)] [] μ := by
  refine WP_aload_n dX9_between_0 rfl rfl ⟨Nat.le_of_ble_eq_true rfl, Nat.le_of_ble_eq_true rfl⟩ ?_
  refine WP_iload_n dX9_between_1 rfl rfl ?_
  refine WQ_invVi (v := (2, 0)) (as := [(0, a1)]) dX9_between_2 l_X9_127 mw_X9_isPerson mi_X9_isPerson ms_X9_isPerson mo_X9_isPerson (rcv (ci := 9) (n := 20) (r := (RX9, TX9, 20)) k_0 rfl rfl) (Nat.le_of_ble_eq_true rfl) h rfl (fun r1 μ2 h => ?_)
  refine WQ_ifeq (tgt := 21) dX9_between_5 (by decide) (fun c3 => ?_) (fun c3 => ?_)
  · replace h := h.1 c3
    refine WP_bipush dX9_between_21 (by decide +kernel) (by decide) ?_
    exact WQ_ireturn dX9_between_23 rfl h
  · replace h := h.2 c3
    refine WP_aload_n dX9_between_8 rfl rfl ⟨Nat.le_of_ble_eq_true rfl, Nat.le_of_ble_eq_true rfl⟩ ?_
    refine WP_iload_n dX9_between_9 rfl rfl ?_
    refine WQ_invVi (v := (2, 0)) (as := [(0, a2)]) dX9_between_10 l_X9_127 mw_X9_isPerson mi_X9_isPerson ms_X9_isPerson mo_X9_isPerson (rcv (ci := 9) (n := 20) (r := (RX9, TX9, 20)) k_0 rfl rfl) (Nat.le_of_ble_eq_true rfl) h rfl (fun r4 μ5 h => ?_)
    refine WQ_ifeq (tgt := 21) dX9_between_13 (by decide) (fun c6 => ?_) (fun c6 => ?_)
    · replace h := h.1 c6
      refine WP_bipush dX9_between_21 (by decide +kernel) (by decide) ?_
      exact WQ_ireturn dX9_between_23 rfl h
    · replace h := h.2 c6
      refine WP_iload_n dX9_between_16 rfl rfl ?_
      refine WP_iload_n dX9_between_17 rfl rfl ?_
      refine WQ_icmp_ne (tgt := 24) dX9_between_18 (by decide) (fun c7 => ?_) (fun c7 => ?_)
      · replace h := h.1 c7
        refine WP_aload_n dX9_between_24 rfl rfl ⟨Nat.le_of_ble_eq_true rfl, Nat.le_of_ble_eq_true rfl⟩ ?_
        refine WQ_invVv (v := (2, 0)) (as := []) dX9_between_25 l_X9_161 mw_X9_know mi_X9_know ms_X9_know mo_X9_know (rcv (ci := 9) (n := 20) (r := (RX9, TX9, 20)) k_0 rfl rfl) (Nat.le_of_ble_eq_true rfl) h rfl (fun μ9 h => ?_)
        refine WP_iload_n dX9_between_28 rfl rfl ?_
        refine WP_bipush dX9_between_29 (by decide +kernel) (by decide) ?_
        obtain ⟨g10, h⟩ := h
        refine WP_imul dX9_between_31 g10 ?_
        refine WP_iload_n dX9_between_32 rfl rfl ?_
        obtain ⟨g11, h⟩ := h
        refine WP_iadd dX9_between_33 g11 ?_
        refine WQ_nm0 (fun v12 e12 => ?_)
        replace h := h v12 e12
        refine WP_istore (L' := [(2, 0), (0, a1), (0, a2), (0, a3), (0, v12)]) dX9_between_34 (by decide) rfl ?_
        refine WP_iload_n dX9_between_36 rfl rfl ?_
        have hD : (a3 ≠ 0 ∧ a3 ≠ 1 ∧ a3 ≠ 2) → WQ mX9_between d sc (ZI sc Q) 97 [(2, 0), (0, a1), (0, a2), (0, a3), (0, v12)] [] μ9 := by
          intro c13
          replace h := h.2.2.2 c13
          refine WP_bipush dX9_between_97 (by decide +kernel) (by decide) ?_
          exact WQ_ireturn dX9_between_99 rfl h
        rcases (show (a3 < 0 ∨ 2 < a3) ∨ a3 = 0 ∨ a3 = 1 ∨ a3 = 2 by omega) with c13 | c13 | c13 | c13
        · exact WP_tableOut (tgt := 97) dX9_between_37 c13 (by decide) (hD (by omega))
        · refine WP_tableIn (tgt := 64) dX9_between_37 (by omega) (by omega) (by rw [c13]; rfl) (by decide) ?_
          replace h := h.1 c13
          refine WP_aload_n dX9_between_64 rfl rfl ⟨Nat.le_of_ble_eq_true rfl, Nat.le_of_ble_eq_true rfl⟩ ?_
          refine WP_getfield (ci := 9) (j := 10) (n := 20) (t := 2) (x := 97) dX9_between_65 f_X9_54 k_0 rfl rfl ?_
          refine WP_getfield (ci := 3) (j := 1) (n := 9) (t := 2) (x := 99) dX9_between_68 f_X9_167 k_97 rfl rfl ?_
          refine WP_iload dX9_between_71 rfl ?_
          obtain ⟨g14, h⟩ := h
          refine WP_iaload (n := 36) dX9_between_73 k_99 g14 ?_
          exact WQ_ireturn dX9_between_74 rfl h
        · refine WP_tableIn (tgt := 75) dX9_between_37 (by omega) (by omega) (by rw [c13]; rfl) (by decide) ?_
          replace h := h.2.1 c13
          refine WP_aload_n dX9_between_75 rfl rfl ⟨Nat.le_of_ble_eq_true rfl, Nat.le_of_ble_eq_true rfl⟩ ?_
          refine WP_getfield (ci := 9) (j := 10) (n := 20) (t := 2) (x := 97) dX9_between_76 f_X9_54 k_0 rfl rfl ?_
          refine WP_getfield (ci := 3) (j := 2) (n := 9) (t := 2) (x := 100) dX9_between_79 f_X9_170 k_97 rfl rfl ?_
          refine WP_iload dX9_between_82 rfl ?_
          obtain ⟨g15, h⟩ := h
          refine WP_iaload (n := 36) dX9_between_84 k_100 g15 ?_
          exact WQ_ireturn dX9_between_85 rfl h
        · refine WP_tableIn (tgt := 86) dX9_between_37 (by omega) (by omega) (by rw [c13]; rfl) (by decide) ?_
          replace h := h.2.2.1 c13
          refine WP_aload_n dX9_between_86 rfl rfl ⟨Nat.le_of_ble_eq_true rfl, Nat.le_of_ble_eq_true rfl⟩ ?_
          refine WP_getfield (ci := 9) (j := 10) (n := 20) (t := 2) (x := 97) dX9_between_87 f_X9_54 k_0 rfl rfl ?_
          refine WP_getfield (ci := 3) (j := 0) (n := 9) (t := 2) (x := 98) dX9_between_90 f_X9_173 k_97 rfl rfl ?_
          refine WP_iload dX9_between_93 rfl ?_
          obtain ⟨g16, h⟩ := h
          refine WP_iaload (n := 36) dX9_between_95 k_98 g16 ?_
          exact WQ_ireturn dX9_between_96 rfl h
      · replace h := h.2 c7
        refine WP_bipush dX9_between_21 (by decide +kernel) (by decide) ?_
        exact WQ_ireturn dX9_between_23 rfl h

theorem s_X9_chance_0 {d : Nat} {sc : SC} {Q : Int → Mem → Prop} {μ : Mem} {a1 a2 : Int}
    (h : CAi mX9_isPerson d sc [(2, 0), (0, a1)] μ (fun r1 μ2 => (r1 = 0 → Q (-2) μ2) ∧ (r1 ≠ 0 → (a2 < 0 → Q (-2) μ2) ∧ (0 ≤ a2 → (a2 ≤ 1 → CAv mX9_knowOdds d sc [(2, 0)] μ2 (fun μ7 => (0 ≤ a1 ∧ a1 < 6) ∧ CAl mX9_lowestTerms d sc [(1, μ7 118 a1), (1, μ7 117 1), (0, a2)] μ7 (fun r9 μ10 => Q (w32 r9) μ10))) ∧ (1 < a2 → Q (-2) μ2))))) :
    WQ mX9_chance d sc (ZI sc Q) 0 [(2, 0), (0, a1), (0, a2)] [] μ := by
  refine WP_aload_n dX9_chance_0 rfl rfl ⟨Nat.le_of_ble_eq_true rfl, Nat.le_of_ble_eq_true rfl⟩ ?_
  refine WP_iload_n dX9_chance_1 rfl rfl ?_
  refine WQ_invVi (v := (2, 0)) (as := [(0, a1)]) dX9_chance_2 l_X9_127 mw_X9_isPerson mi_X9_isPerson ms_X9_isPerson mo_X9_isPerson (rcv (ci := 9) (n := 20) (r := (RX9, TX9, 20)) k_0 rfl rfl) (Nat.le_of_ble_eq_true rfl) h rfl (fun r1 μ2 h => ?_)
  refine WQ_ifeq (tgt := 17) dX9_chance_5 (by decide) (fun c3 => ?_) (fun c3 => ?_)
  · replace h := h.1 c3
    refine WP_bipush dX9_chance_17 (by decide +kernel) (by decide) ?_
    exact WQ_ireturn dX9_chance_19 rfl h
  · replace h := h.2 c3
    refine WP_iload_n dX9_chance_8 rfl rfl ?_
    refine WQ_iflt (tgt := 17) dX9_chance_9 (by decide) (fun c4 => ?_) (fun c4 => ?_)
    · replace h := h.1 c4
      refine WP_bipush dX9_chance_17 (by decide +kernel) (by decide) ?_
      exact WQ_ireturn dX9_chance_19 rfl h
    · replace h := h.2 c4
      refine WP_iload_n dX9_chance_12 rfl rfl ?_
      refine WP_iconst dX9_chance_13 (by decide) ?_
      refine WQ_icmp_le (tgt := 20) dX9_chance_14 (by decide) (fun c5 => ?_) (fun c5 => ?_)
      · replace h := h.1 c5
        refine WP_aload_n dX9_chance_20 rfl rfl ⟨Nat.le_of_ble_eq_true rfl, Nat.le_of_ble_eq_true rfl⟩ ?_
        refine WQ_invVv (v := (2, 0)) (as := []) dX9_chance_21 l_X9_327 mw_X9_knowOdds mi_X9_knowOdds ms_X9_knowOdds mo_X9_knowOdds (rcv (ci := 9) (n := 20) (r := (RX9, TX9, 20)) k_0 rfl rfl) (Nat.le_of_ble_eq_true rfl) h rfl (fun μ7 h => ?_)
        refine WP_aload_n dX9_chance_24 rfl rfl ⟨Nat.le_of_ble_eq_true rfl, Nat.le_of_ble_eq_true rfl⟩ ?_
        refine WP_getfield (ci := 9) (j := 12) (n := 20) (t := 2) (x := 117) dX9_chance_25 f_X9_68 k_0 rfl rfl ?_
        refine WP_getfield (ci := 4) (j := 2) (n := 4) (t := 2) (x := 118) dX9_chance_28 f_X9_330 k_117 rfl rfl ?_
        refine WP_iload_n dX9_chance_31 rfl rfl ?_
        obtain ⟨g8, h⟩ := h
        refine WP_laload (n := 6) dX9_chance_32 k_118 g8 ?_
        refine WP_aload_n dX9_chance_33 rfl rfl ⟨Nat.le_of_ble_eq_true rfl, Nat.le_of_ble_eq_true rfl⟩ ?_
        refine WP_getfield (ci := 9) (j := 12) (n := 20) (t := 2) (x := 117) dX9_chance_34 f_X9_68 k_0 rfl rfl ?_
        refine WP_getfield (ci := 4) (j := 1) (n := 4) (t := 1) (x := μ7 117 1) dX9_chance_37 f_X9_333 k_117 rfl rfl ?_
        refine WP_iload_n dX9_chance_40 rfl rfl ?_
        refine WQ_invSl (as := [(1, μ7 118 a1), (1, μ7 117 1), (0, a2)]) dX9_chance_41 l_X9_337 mw_X9_lowestTerms mt_X9_lowestTerms mo_X9_lowestTerms (Nat.le_of_ble_eq_true rfl) h rfl (fun r9 μ10 h => ?_)
        refine WP_l2i dX9_chance_44 ?_
        exact WQ_ireturn dX9_chance_45 rfl h
      · replace h := h.2 c5
        refine WP_bipush dX9_chance_17 (by decide +kernel) (by decide) ?_
        exact WQ_ireturn dX9_chance_19 rfl h

theorem s_X9_count_0 {d : Nat} {sc : SC} {Q : Int → Mem → Prop} {μ : Mem} {a1 : Int}
    (h : (a1 = 0 → isK 1 (μ 0 2) ∧ Q (μ (μ 0 2) 0) μ) ∧ (a1 = 1 → isK 1 (μ 0 2) ∧ Q (μ (μ 0 2) 1) μ) ∧ (a1 = 2 → isK 1 (μ 0 2) ∧ Q (μ (μ 0 2) 3) μ) ∧ (a1 = 3 → isK 1 (μ 0 2) ∧ Q (μ (μ 0 2 + 7) 0) μ) ∧ (a1 = 4 → isK 1 (μ 0 2) ∧ Q (μ (μ 0 2 + 7) 6) μ) ∧ (a1 = 5 → Q (μ 34 0) μ) ∧ (a1 = 6 → Q (μ 0 1) μ) ∧ (a1 = 7 → isK 1 (μ 0 2) ∧ Q (μ (μ 0 2) 2) μ) ∧ ((a1 ≠ 0 ∧ a1 ≠ 1 ∧ a1 ≠ 2 ∧ a1 ≠ 3 ∧ a1 ≠ 4 ∧ a1 ≠ 5 ∧ a1 ≠ 6 ∧ a1 ≠ 7) → Q (-1) μ)) :
    WQ mX9_count d sc (ZI sc Q) 0 [(2, 0), (0, a1)] [] μ := by
  refine WP_iload_n dX9_count_0 rfl rfl ?_
  have hD : (a1 ≠ 0 ∧ a1 ≠ 1 ∧ a1 ≠ 2 ∧ a1 ≠ 3 ∧ a1 ≠ 4 ∧ a1 ≠ 5 ∧ a1 ≠ 6 ∧ a1 ≠ 7) → WQ mX9_count d sc (ZI sc Q) 115 [(2, 0), (0, a1)] [] μ := by
    intro c1
    replace h := h.2.2.2.2.2.2.2.2 c1
    refine WP_iconst dX9_count_115 (by decide) ?_
    exact WQ_ireturn dX9_count_116 rfl h
  rcases (show (a1 < 0 ∨ 7 < a1) ∨ a1 = 0 ∨ a1 = 1 ∨ a1 = 2 ∨ a1 = 3 ∨ a1 = 4 ∨ a1 = 5 ∨ a1 = 6 ∨ a1 = 7 by omega) with c1 | c1 | c1 | c1 | c1 | c1 | c1 | c1 | c1
  · exact WP_tableOut (tgt := 115) dX9_count_1 c1 (by decide) (hD (by omega))
  · refine WP_tableIn (tgt := 48) dX9_count_1 (by omega) (by omega) (by rw [c1]; rfl) (by decide) ?_
    replace h := h.1 c1
    refine WP_aload_n dX9_count_48 rfl rfl ⟨Nat.le_of_ble_eq_true rfl, Nat.le_of_ble_eq_true rfl⟩ ?_
    refine WP_getfield (ci := 9) (j := 2) (n := 20) (t := 2) (x := μ 0 2) dX9_count_49 f_X9_16 k_0 rfl rfl ?_
    obtain ⟨g2, h⟩ := h
    refine WP_getfield (ci := 1) (j := 0) (n := 11) (t := 0) (x := μ (μ 0 2) 0) dX9_count_52 f_X9_366 g2 rfl rfl ?_
    exact WQ_ireturn dX9_count_55 rfl h
  · refine WP_tableIn (tgt := 56) dX9_count_1 (by omega) (by omega) (by rw [c1]; rfl) (by decide) ?_
    replace h := h.2.1 c1
    refine WP_aload_n dX9_count_56 rfl rfl ⟨Nat.le_of_ble_eq_true rfl, Nat.le_of_ble_eq_true rfl⟩ ?_
    refine WP_getfield (ci := 9) (j := 2) (n := 20) (t := 2) (x := μ 0 2) dX9_count_57 f_X9_16 k_0 rfl rfl ?_
    obtain ⟨g3, h⟩ := h
    refine WP_getfield (ci := 1) (j := 1) (n := 11) (t := 0) (x := μ (μ 0 2) 1) dX9_count_60 f_X9_369 g3 rfl rfl ?_
    exact WQ_ireturn dX9_count_63 rfl h
  · refine WP_tableIn (tgt := 64) dX9_count_1 (by omega) (by omega) (by rw [c1]; rfl) (by decide) ?_
    replace h := h.2.2.1 c1
    refine WP_aload_n dX9_count_64 rfl rfl ⟨Nat.le_of_ble_eq_true rfl, Nat.le_of_ble_eq_true rfl⟩ ?_
    refine WP_getfield (ci := 9) (j := 2) (n := 20) (t := 2) (x := μ 0 2) dX9_count_65 f_X9_16 k_0 rfl rfl ?_
    obtain ⟨g4, h⟩ := h
    refine WP_getfield (ci := 1) (j := 3) (n := 11) (t := 0) (x := μ (μ 0 2) 3) dX9_count_68 f_X9_241 g4 rfl rfl ?_
    exact WQ_ireturn dX9_count_71 rfl h
  · refine WP_tableIn (tgt := 72) dX9_count_1 (by omega) (by omega) (by rw [c1]; rfl) (by decide) ?_
    replace h := h.2.2.2.1 c1
    refine WP_aload_n dX9_count_72 rfl rfl ⟨Nat.le_of_ble_eq_true rfl, Nat.le_of_ble_eq_true rfl⟩ ?_
    refine WP_getfield (ci := 9) (j := 2) (n := 20) (t := 2) (x := μ 0 2) dX9_count_73 f_X9_16 k_0 rfl rfl ?_
    obtain ⟨g5, h⟩ := h
    refine WP_getfield (ci := 1) (j := 10) (n := 11) (t := 2) (x := μ 0 2 + 7) dX9_count_76 f_X9_131 g5 rfl rfl ?_
    refine WP_getfield (ci := 6) (j := 0) (n := 7) (t := 0) (x := μ (μ 0 2 + 7) 0) dX9_count_79 f_X9_146 (kf_1_10 g5) rfl rfl ?_
    exact WQ_ireturn dX9_count_82 rfl h
  · refine WP_tableIn (tgt := 83) dX9_count_1 (by omega) (by omega) (by rw [c1]; rfl) (by decide) ?_
    replace h := h.2.2.2.2.1 c1
    refine WP_aload_n dX9_count_83 rfl rfl ⟨Nat.le_of_ble_eq_true rfl, Nat.le_of_ble_eq_true rfl⟩ ?_
    refine WP_getfield (ci := 9) (j := 2) (n := 20) (t := 2) (x := μ 0 2) dX9_count_84 f_X9_16 k_0 rfl rfl ?_
    obtain ⟨g6, h⟩ := h
    refine WP_getfield (ci := 1) (j := 10) (n := 11) (t := 2) (x := μ 0 2 + 7) dX9_count_87 f_X9_131 g6 rfl rfl ?_
    refine WP_getfield (ci := 6) (j := 6) (n := 7) (t := 0) (x := μ (μ 0 2 + 7) 6) dX9_count_90 f_X9_198 (kf_1_10 g6) rfl rfl ?_
    exact WQ_ireturn dX9_count_93 rfl h
  · refine WP_tableIn (tgt := 94) dX9_count_1 (by omega) (by omega) (by rw [c1]; rfl) (by decide) ?_
    replace h := h.2.2.2.2.2.1 c1
    refine WP_aload_n dX9_count_94 rfl rfl ⟨Nat.le_of_ble_eq_true rfl, Nat.le_of_ble_eq_true rfl⟩ ?_
    refine WP_getfield (ci := 9) (j := 7) (n := 20) (t := 2) (x := 34) dX9_count_95 f_X9_41 k_0 rfl rfl ?_
    refine WP_getfield (ci := 5) (j := 0) (n := 2) (t := 0) (x := μ 34 0) dX9_count_98 f_X9_201 k_34 rfl rfl ?_
    exact WQ_ireturn dX9_count_101 rfl h
  · refine WP_tableIn (tgt := 102) dX9_count_1 (by omega) (by omega) (by rw [c1]; rfl) (by decide) ?_
    replace h := h.2.2.2.2.2.2.1 c1
    refine WP_aload_n dX9_count_102 rfl rfl ⟨Nat.le_of_ble_eq_true rfl, Nat.le_of_ble_eq_true rfl⟩ ?_
    refine WP_getfield (ci := 9) (j := 1) (n := 20) (t := 0) (x := μ 0 1) dX9_count_103 f_X9_100 k_0 rfl rfl ?_
    exact WQ_ireturn dX9_count_106 rfl h
  · refine WP_tableIn (tgt := 107) dX9_count_1 (by omega) (by omega) (by rw [c1]; rfl) (by decide) ?_
    replace h := h.2.2.2.2.2.2.2.1 c1
    refine WP_aload_n dX9_count_107 rfl rfl ⟨Nat.le_of_ble_eq_true rfl, Nat.le_of_ble_eq_true rfl⟩ ?_
    refine WP_getfield (ci := 9) (j := 2) (n := 20) (t := 2) (x := μ 0 2) dX9_count_108 f_X9_16 k_0 rfl rfl ?_
    obtain ⟨g7, h⟩ := h
    refine WP_getfield (ci := 1) (j := 2) (n := 11) (t := 0) (x := μ (μ 0 2) 2) dX9_count_111 f_X9_121 g7 rfl rfl ?_
    exact WQ_ireturn dX9_count_114 rfl h

theorem s_X9_crowd_0 {d : Nat} {sc : SC} {Q : Int → Mem → Prop} {μ : Mem} {a1 : Int}
    (h : CAi mX9_isMinute d sc [(0, a1)] μ (fun r1 μ2 => (r1 ≠ 0 → CAv mX9_know d sc [(2, 0)] μ2 (fun μ5 => WQ mX9_crowd d sc (ZI sc Q) 18 [(2, 0), (0, a1), (0, 0), (0, 0)] [] μ5)) ∧ (r1 = 0 → Q (-3) μ2))) :
    WQ mX9_crowd d sc (ZI sc Q) 0 [(2, 0), (0, a1), (9, 0), (9, 0)] [] μ := by
  refine WP_iload_n dX9_crowd_0 rfl rfl ?_
  refine WQ_invSi (as := [(0, a1)]) dX9_crowd_1 l_X9_264 mw_X9_isMinute mt_X9_isMinute mo_X9_isMinute (Nat.le_of_ble_eq_true rfl) h rfl (fun r1 μ2 h => ?_)
  refine WQ_ifne (tgt := 10) dX9_crowd_4 (by decide) (fun c3 => ?_) (fun c3 => ?_)
  · replace h := h.1 c3
    refine WP_aload_n dX9_crowd_10 rfl rfl ⟨Nat.le_of_ble_eq_true rfl, Nat.le_of_ble_eq_true rfl⟩ ?_
    refine WQ_invVv (v := (2, 0)) (as := []) dX9_crowd_11 l_X9_161 mw_X9_know mi_X9_know ms_X9_know mo_X9_know (rcv (ci := 9) (n := 20) (r := (RX9, TX9, 20)) k_0 rfl rfl) (Nat.le_of_ble_eq_true rfl) h rfl (fun μ5 h => ?_)
    refine WP_iconst dX9_crowd_14 (by decide) ?_
    refine WP_istore_n (L' := [(2, 0), (0, a1), (0, 0), (9, 0)]) dX9_crowd_15 rfl (by decide) rfl ?_
    refine WP_iconst dX9_crowd_16 (by decide) ?_
    refine WP_istore_n (L' := [(2, 0), (0, a1), (0, 0), (0, 0)]) dX9_crowd_17 rfl (by decide) rfl ?_
    exact h
  · replace h := h.2 c3
    refine WP_bipush dX9_crowd_7 (by decide +kernel) (by decide) ?_
    exact WQ_ireturn dX9_crowd_9 rfl h

theorem s_X9_crowd_18 {d : Nat} {sc : SC} {Q : Int → Mem → Prop} {μ : Mem} {x1 x2 x3 : Int}
    (h : (μ 105 0 ≤ x3 → Q x2 μ) ∧ (x3 < μ 105 0 → (0 ≤ x3 ∧ x3 < 512) ∧ (μ 107 x3 ≠ x1 → (-2147483648 ≤ x3 + 1 ∧ x3 + 1 < 2147483648) ∧ ∀ v5 : Int, v5 = x3 + 1 → WQ mX9_crowd d sc (ZI sc Q) 18 [(2, 0), (0, x1), (0, x2), (0, v5)] [] μ) ∧ (μ 107 x3 = x1 → (-2147483648 ≤ x2 + 1 ∧ x2 + 1 < 2147483648) ∧ ∀ v7 : Int, v7 = x2 + 1 → (-2147483648 ≤ x3 + 1 ∧ x3 + 1 < 2147483648) ∧ ∀ v9 : Int, v9 = x3 + 1 → WQ mX9_crowd d sc (ZI sc Q) 18 [(2, 0), (0, x1), (0, v7), (0, v9)] [] μ))) :
    WQ mX9_crowd d sc (ZI sc Q) 18 [(2, 0), (0, x1), (0, x2), (0, x3)] [] μ := by
  refine WP_iload_n dX9_crowd_18 rfl rfl ?_
  refine WP_aload_n dX9_crowd_19 rfl rfl ⟨Nat.le_of_ble_eq_true rfl, Nat.le_of_ble_eq_true rfl⟩ ?_
  refine WP_getfield (ci := 9) (j := 11) (n := 20) (t := 2) (x := 105) dX9_crowd_20 f_X9_61 k_0 rfl rfl ?_
  refine WP_getfield (ci := 0) (j := 0) (n := 16) (t := 0) (x := μ 105 0) dX9_crowd_23 f_X9_238 k_105 rfl rfl ?_
  refine WQ_icmp_ge (tgt := 51) dX9_crowd_26 (by decide) (fun c1 => ?_) (fun c1 => ?_)
  · replace h := h.1 c1
    refine WP_iload_n dX9_crowd_51 rfl rfl ?_
    exact WQ_ireturn dX9_crowd_52 rfl h
  · replace h := h.2 c1
    refine WP_aload_n dX9_crowd_29 rfl rfl ⟨Nat.le_of_ble_eq_true rfl, Nat.le_of_ble_eq_true rfl⟩ ?_
    refine WP_getfield (ci := 9) (j := 11) (n := 20) (t := 2) (x := 105) dX9_crowd_30 f_X9_61 k_0 rfl rfl ?_
    refine WP_getfield (ci := 0) (j := 2) (n := 16) (t := 2) (x := 107) dX9_crowd_33 f_X9_261 k_105 rfl rfl ?_
    refine WP_iload_n dX9_crowd_36 rfl rfl ?_
    obtain ⟨g2, h⟩ := h
    refine WP_iaload (n := 512) dX9_crowd_37 k_107 g2 ?_
    refine WP_iload_n dX9_crowd_38 rfl rfl ?_
    refine WQ_icmp_ne (tgt := 45) dX9_crowd_39 (by decide) (fun c3 => ?_) (fun c3 => ?_)
    · replace h := h.1 c3
      obtain ⟨g4, h⟩ := h
      refine WQ_iinc dX9_crowd_45 rfl (by decide) g4 (fun v5 e5 => ?_)
      refine WP_same (L' := [(2, 0), (0, x1), (0, x2), (0, v5)]) rfl ?_
      replace h := h v5 e5
      refine WP_goto (tgt := 18) dX9_crowd_48 (by decide) ?_
      exact h
    · replace h := h.2 c3
      obtain ⟨g6, h⟩ := h
      refine WQ_iinc dX9_crowd_42 rfl (by decide) g6 (fun v7 e7 => ?_)
      refine WP_same (L' := [(2, 0), (0, x1), (0, v7), (0, x3)]) rfl ?_
      replace h := h v7 e7
      obtain ⟨g8, h⟩ := h
      refine WQ_iinc dX9_crowd_45 rfl (by decide) g8 (fun v9 e9 => ?_)
      refine WP_same (L' := [(2, 0), (0, x1), (0, v7), (0, v9)]) rfl ?_
      replace h := h v9 e9
      refine WP_goto (tgt := 18) dX9_crowd_48 (by decide) ?_
      exact h

theorem s_X9_deed_0 {d : Nat} {sc : SC} {Q : Int → Mem → Prop} {μ : Mem} {a1 a2 : Int} (ha1 : isK 6 a1)
    (h : (a2 < 0 → Q 1 μ) ∧ (0 ≤ a2 → (a2 ≤ 9009 → ∀ v3 : Int, v3 = w32 a2 → (8000 ≤ v3 → (8010 ≤ v3 → (8100 ≤ v3 → (9000 ≤ v3 → (-2147483648 ≤ v3 - 9000 ∧ v3 - 9000 < 2147483648) ∧ CAi mX9_windIn d sc [(2, a1), (0, v3 - 9000)] μ (fun r9 μ10 => Q r9 μ10)) ∧ (v3 < 9000 → (-2147483648 ≤ v3 - 8100 ∧ v3 - 8100 < 2147483648) ∧ 0 ≤ v3 - 8100 ∧ 0 ≤ v3 ∧ CAi mX9_moveIn d sc [(2, 0), (2, a1), (0, (v3 - 8100) / 100), (0, v3 % 100)] μ (fun r14 μ15 => Q r14 μ15))) ∧ (v3 < 8100 → Q 1 μ)) ∧ (v3 < 8010 → (-2147483648 ≤ v3 - 8000 ∧ v3 - 8000 < 2147483648) ∧ CAi mX9_dropIn d sc [(2, a1), (0, v3 - 8000)] μ (fun r17 μ18 => Q r17 μ18))) ∧ (v3 < 8000 → 0 ≤ v3 ∧ 0 ≤ v3 ∧ 0 ≤ v3 / 100 ∧ 0 ≤ v3 ∧ CAi mX9_tellIn d sc [(2, 0), (2, a1), (0, v3 / 1000), (0, (v3 / 100) % 10), (0, v3 % 100)] μ (fun r23 μ24 => Q r23 μ24))) ∧ (9009 < a2 → Q 1 μ))) :
    WQ mX9_deed d sc (ZI sc Q) 0 [(2, 0), (2, a1), (1, a2), (9, 0), (9, 0)] [] μ := by
  refine WP_lload_n dX9_deed_0 rfl rfl ?_
  refine WP_lconst dX9_deed_1 rfl ?_
  refine WQ_liflt (tgt := 14) dX9_deed_2 dX9_deed_3 (by decide) (fun c1 => ?_) (fun c1 => ?_)
  · replace h := h.1 c1
    refine WP_iconst dX9_deed_14 (by decide) ?_
    exact WQ_ireturn dX9_deed_15 rfl h
  · replace h := h.2 c1
    refine WP_lload_n dX9_deed_6 rfl rfl ?_
    refine WP_ldc2 dX9_deed_7 c_X9_389 (by decide) ?_
    refine WQ_lifle (tgt := 16) dX9_deed_10 dX9_deed_11 (by decide) (fun c2 => ?_) (fun c2 => ?_)
    · replace h := h.1 c2
      refine WP_lload_n dX9_deed_16 rfl rfl ?_
      refine WP_l2i dX9_deed_17 ?_
      refine WQ_nm0 (fun v3 e3 => ?_)
      replace h := h v3 e3
      refine WP_istore (L' := [(2, 0), (2, a1), (1, a2), (9, 0), (0, v3)]) dX9_deed_18 (by decide) rfl ?_
      refine WP_iload dX9_deed_20 rfl ?_
      refine WP_sipush dX9_deed_22 (by decide +kernel) (by decide) ?_
      refine WQ_icmp_ge (tgt := 53) dX9_deed_25 (by decide) (fun c4 => ?_) (fun c4 => ?_)
      · replace h := h.1 c4
        refine WP_iload dX9_deed_53 rfl ?_
        refine WP_sipush dX9_deed_55 (by decide +kernel) (by decide) ?_
        refine WQ_icmp_ge (tgt := 72) dX9_deed_58 (by decide) (fun c5 => ?_) (fun c5 => ?_)
        · replace h := h.1 c5
          refine WP_iload dX9_deed_72 rfl ?_
          refine WP_sipush dX9_deed_74 (by decide +kernel) (by decide) ?_
          refine WQ_icmp_ge (tgt := 82) dX9_deed_77 (by decide) (fun c6 => ?_) (fun c6 => ?_)
          · replace h := h.1 c6
            refine WP_iload dX9_deed_82 rfl ?_
            refine WP_sipush dX9_deed_84 (by decide +kernel) (by decide) ?_
            refine WQ_icmp_ge (tgt := 110) dX9_deed_87 (by decide) (fun c7 => ?_) (fun c7 => ?_)
            · replace h := h.1 c7
              refine WP_aload_n dX9_deed_110 rfl rfl ⟨Nat.le_of_ble_eq_true rfl, Nat.le_of_ble_eq_true rfl⟩ ?_
              refine WP_iload dX9_deed_111 rfl ?_
              refine WP_sipush dX9_deed_113 (by decide +kernel) (by decide) ?_
              obtain ⟨g8, h⟩ := h
              refine WP_isub dX9_deed_116 g8 ?_
              refine WQ_invSi (as := [(2, a1), (0, v3 - 9000)]) dX9_deed_117 l_X9_195 mw_X9_windIn mt_X9_windIn mo_X9_windIn (Nat.le_of_ble_eq_true rfl) h rfl (fun r9 μ10 h => ?_)
              exact WQ_ireturn dX9_deed_120 rfl h
            · replace h := h.2 c7
              refine WP_aload_n dX9_deed_90 rfl rfl ⟨Nat.le_of_ble_eq_true rfl, Nat.le_of_ble_eq_true rfl⟩ ?_
              refine WP_aload_n dX9_deed_91 rfl rfl ⟨Nat.le_of_ble_eq_true rfl, Nat.le_of_ble_eq_true rfl⟩ ?_
              refine WP_iload dX9_deed_92 rfl ?_
              refine WP_sipush dX9_deed_94 (by decide +kernel) (by decide) ?_
              obtain ⟨g11, h⟩ := h
              refine WP_isub dX9_deed_97 g11 ?_
              refine WP_bipush dX9_deed_98 (by decide +kernel) (by decide) ?_
              obtain ⟨g12, h⟩ := h
              refine WP_idiv dX9_deed_100 ⟨g12, by decide⟩ ?_
              refine WP_iload dX9_deed_101 rfl ?_
              refine WP_bipush dX9_deed_103 (by decide +kernel) (by decide) ?_
              obtain ⟨g13, h⟩ := h
              refine WP_irem dX9_deed_105 ⟨g13, by decide⟩ ?_
              refine WQ_invVi (v := (2, 0)) (as := [(2, a1), (0, (v3 - 8100) / 100), (0, v3 % 100)]) dX9_deed_106 l_X9_191 mw_X9_moveIn mi_X9_moveIn ms_X9_moveIn mo_X9_moveIn (rcv (ci := 9) (n := 20) (r := (RX9, TX9, 20)) k_0 rfl rfl) (Nat.le_of_ble_eq_true rfl) h rfl (fun r14 μ15 h => ?_)
              exact WQ_ireturn dX9_deed_109 rfl h
          · replace h := h.2 c6
            refine WP_iconst dX9_deed_80 (by decide) ?_
            exact WQ_ireturn dX9_deed_81 rfl h
        · replace h := h.2 c5
          refine WP_aload_n dX9_deed_61 rfl rfl ⟨Nat.le_of_ble_eq_true rfl, Nat.le_of_ble_eq_true rfl⟩ ?_
          refine WP_iload dX9_deed_62 rfl ?_
          refine WP_sipush dX9_deed_64 (by decide +kernel) (by decide) ?_
          obtain ⟨g16, h⟩ := h
          refine WP_isub dX9_deed_67 g16 ?_
          refine WQ_invSi (as := [(2, a1), (0, v3 - 8000)]) dX9_deed_68 l_X9_187 mw_X9_dropIn mt_X9_dropIn mo_X9_dropIn (Nat.le_of_ble_eq_true rfl) h rfl (fun r17 μ18 h => ?_)
          exact WQ_ireturn dX9_deed_71 rfl h
      · replace h := h.2 c4
        refine WP_aload_n dX9_deed_28 rfl rfl ⟨Nat.le_of_ble_eq_true rfl, Nat.le_of_ble_eq_true rfl⟩ ?_
        refine WP_aload_n dX9_deed_29 rfl rfl ⟨Nat.le_of_ble_eq_true rfl, Nat.le_of_ble_eq_true rfl⟩ ?_
        refine WP_iload dX9_deed_30 rfl ?_
        refine WP_sipush dX9_deed_32 (by decide +kernel) (by decide) ?_
        obtain ⟨g19, h⟩ := h
        refine WP_idiv dX9_deed_35 ⟨g19, by decide⟩ ?_
        refine WP_iload dX9_deed_36 rfl ?_
        refine WP_bipush dX9_deed_38 (by decide +kernel) (by decide) ?_
        obtain ⟨g20, h⟩ := h
        refine WP_idiv dX9_deed_40 ⟨g20, by decide⟩ ?_
        refine WP_bipush dX9_deed_41 (by decide +kernel) (by decide) ?_
        obtain ⟨g21, h⟩ := h
        refine WP_irem dX9_deed_43 ⟨g21, by decide⟩ ?_
        refine WP_iload dX9_deed_44 rfl ?_
        refine WP_bipush dX9_deed_46 (by decide +kernel) (by decide) ?_
        obtain ⟨g22, h⟩ := h
        refine WP_irem dX9_deed_48 ⟨g22, by decide⟩ ?_
        refine WQ_invVi (v := (2, 0)) (as := [(2, a1), (0, v3 / 1000), (0, (v3 / 100) % 10), (0, v3 % 100)]) dX9_deed_49 l_X9_180 mw_X9_tellIn mi_X9_tellIn ms_X9_tellIn mo_X9_tellIn (rcv (ci := 9) (n := 20) (r := (RX9, TX9, 20)) k_0 rfl rfl) (Nat.le_of_ble_eq_true rfl) h rfl (fun r23 μ24 h => ?_)
        exact WQ_ireturn dX9_deed_52 rfl h
    · replace h := h.2 c2
      refine WP_iconst dX9_deed_14 (by decide) ?_
      exact WQ_ireturn dX9_deed_15 rfl h

theorem s_X9_draw_0 {d : Nat} {sc : SC} {Q : Int → Mem → Prop} {μ : Mem} {a1 : Int}
    (h : ∀ μ1, μ1 = mup μ 0 19 (w32 ((w32 (1103515245 * (μ 0 19))) + 12345)) → (0 ≤ iUshr (μ1 0 19) 16 ∧ 0 < a1) ∧ Q ((iUshr (μ1 0 19) 16) % a1) μ1) :
    WQ mX9_draw d sc (ZI sc Q) 0 [(2, 0), (0, a1)] [] μ := by
  refine WP_aload_n dX9_draw_0 rfl rfl ⟨Nat.le_of_ble_eq_true rfl, Nat.le_of_ble_eq_true rfl⟩ ?_
  refine WP_ldcw dX9_draw_1 c_X9_394 (by decide) ?_
  refine WP_aload_n dX9_draw_4 rfl rfl ⟨Nat.le_of_ble_eq_true rfl, Nat.le_of_ble_eq_true rfl⟩ ?_
  refine WP_getfield (ci := 9) (j := 19) (n := 20) (t := 0) (x := μ 0 19) dX9_draw_5 f_X9_248 k_0 rfl rfl ?_
  refine WP_imulW dX9_draw_8 ?_
  refine WP_sipush dX9_draw_9 (by decide +kernel) (by decide) ?_
  refine WP_iaddW dX9_draw_12 ?_
  refine WQ_put (ci := 9) (j := 19) (n := 20) dX9_draw_13 f_X9_248 k_0 rfl (fun μ1 eμ1 => ?_)
  replace h := h μ1 eμ1
  refine WP_aload_n dX9_draw_16 rfl rfl ⟨Nat.le_of_ble_eq_true rfl, Nat.le_of_ble_eq_true rfl⟩ ?_
  refine WP_getfield (ci := 9) (j := 19) (n := 20) (t := 0) (x := μ1 0 19) dX9_draw_17 f_X9_248 k_0 rfl rfl ?_
  refine WP_bipush dX9_draw_20 (by decide +kernel) (by decide) ?_
  refine WP_iushr dX9_draw_22 ?_
  refine WP_iload_n dX9_draw_23 rfl rfl ?_
  obtain ⟨g2, h⟩ := h
  refine WP_irem dX9_draw_24 g2 ?_
  exact WQ_ireturn dX9_draw_25 rfl h

theorem s_X9_drawDeed_0 {d : Nat} {sc : SC} {Q : Int → Mem → Prop} {μ : Mem}
    (h : CAi mX9_draw d sc [(2, 0), (0, 5)] μ (fun r1 μ2 => (r1 = 2 → CAi mX9_draw d sc [(2, 0), (0, 8)] μ2 (fun r4 μ5 => (-2147483648 ≤ 8000 + r4 ∧ 8000 + r4 < 2147483648) ∧ Q (8000 + r4) μ5)) ∧ (r1 = 3 → CAi mX9_draw d sc [(2, 0), (0, 6)] μ2 (fun r7 μ8 => (-2147483648 ≤ 100 * r7 ∧ 100 * r7 < 2147483648) ∧ (-2147483648 ≤ 8100 + (100 * r7) ∧ 8100 + (100 * r7) < 2147483648) ∧ CAi mX9_draw d sc [(2, 0), (0, 64)] μ8 (fun r11 μ12 => (-2147483648 ≤ (8100 + (100 * r7)) + r11 ∧ (8100 + (100 * r7)) + r11 < 2147483648) ∧ Q ((8100 + (100 * r7)) + r11) μ12))) ∧ (r1 = 4 → CAi mX9_draw d sc [(2, 0), (0, 10)] μ2 (fun r14 μ15 => (-2147483648 ≤ 9000 + r14 ∧ 9000 + r14 < 2147483648) ∧ Q (9000 + r14) μ15)) ∧ ((r1 ≠ 2 ∧ r1 ≠ 3 ∧ r1 ≠ 4) → CAi mX9_draw d sc [(2, 0), (0, 6)] μ2 (fun r17 μ18 => (-2147483648 ≤ 1000 * r17 ∧ 1000 * r17 < 2147483648) ∧ CAi mX9_draw d sc [(2, 0), (0, 6)] μ18 (fun r20 μ21 => (-2147483648 ≤ 100 * r20 ∧ 100 * r20 < 2147483648) ∧ (-2147483648 ≤ (1000 * r17) + (100 * r20) ∧ (1000 * r17) + (100 * r20) < 2147483648) ∧ CAi mX9_draw d sc [(2, 0), (0, 100)] μ21 (fun r24 μ25 => (-2147483648 ≤ ((1000 * r17) + (100 * r20)) + r24 ∧ ((1000 * r17) + (100 * r20)) + r24 < 2147483648) ∧ Q (((1000 * r17) + (100 * r20)) + r24) μ25)))))) :
    WQ mX9_drawDeed d sc (ZI sc Q) 0 [(2, 0)] [] μ := by
  refine WP_aload_n dX9_drawDeed_0 rfl rfl ⟨Nat.le_of_ble_eq_true rfl, Nat.le_of_ble_eq_true rfl⟩ ?_
  refine WP_iconst dX9_drawDeed_1 (by decide) ?_
  refine WQ_invVi (v := (2, 0)) (as := [(0, 5)]) dX9_drawDeed_2 l_X9_395 mw_X9_draw mi_X9_draw ms_X9_draw mo_X9_draw (rcv (ci := 9) (n := 20) (r := (RX9, TX9, 20)) k_0 rfl rfl) (Nat.le_of_ble_eq_true rfl) h rfl (fun r1 μ2 h => ?_)
  have hD : (r1 ≠ 2 ∧ r1 ≠ 3 ∧ r1 ≠ 4) → WQ mX9_drawDeed d sc (ZI sc Q) 75 [(2, 0)] [] μ2 := by
    intro c3
    replace h := h.2.2.2 c3
    refine WP_sipush dX9_drawDeed_75 (by decide +kernel) (by decide) ?_
    refine WP_aload_n dX9_drawDeed_78 rfl rfl ⟨Nat.le_of_ble_eq_true rfl, Nat.le_of_ble_eq_true rfl⟩ ?_
    refine WP_bipush dX9_drawDeed_79 (by decide +kernel) (by decide) ?_
    refine WQ_invVi (v := (2, 0)) (as := [(0, 6)]) dX9_drawDeed_81 l_X9_395 mw_X9_draw mi_X9_draw ms_X9_draw mo_X9_draw (rcv (ci := 9) (n := 20) (r := (RX9, TX9, 20)) k_0 rfl rfl) (Nat.le_of_ble_eq_true rfl) h rfl (fun r17 μ18 h => ?_)
    obtain ⟨g19, h⟩ := h
    refine WP_imul dX9_drawDeed_84 g19 ?_
    refine WP_bipush dX9_drawDeed_85 (by decide +kernel) (by decide) ?_
    refine WP_aload_n dX9_drawDeed_87 rfl rfl ⟨Nat.le_of_ble_eq_true rfl, Nat.le_of_ble_eq_true rfl⟩ ?_
    refine WP_bipush dX9_drawDeed_88 (by decide +kernel) (by decide) ?_
    refine WQ_invVi (v := (2, 0)) (as := [(0, 6)]) dX9_drawDeed_90 l_X9_395 mw_X9_draw mi_X9_draw ms_X9_draw mo_X9_draw (rcv (ci := 9) (n := 20) (r := (RX9, TX9, 20)) k_0 rfl rfl) (Nat.le_of_ble_eq_true rfl) h rfl (fun r20 μ21 h => ?_)
    obtain ⟨g22, h⟩ := h
    refine WP_imul dX9_drawDeed_93 g22 ?_
    obtain ⟨g23, h⟩ := h
    refine WP_iadd dX9_drawDeed_94 g23 ?_
    refine WP_aload_n dX9_drawDeed_95 rfl rfl ⟨Nat.le_of_ble_eq_true rfl, Nat.le_of_ble_eq_true rfl⟩ ?_
    refine WP_bipush dX9_drawDeed_96 (by decide +kernel) (by decide) ?_
    refine WQ_invVi (v := (2, 0)) (as := [(0, 100)]) dX9_drawDeed_98 l_X9_395 mw_X9_draw mi_X9_draw ms_X9_draw mo_X9_draw (rcv (ci := 9) (n := 20) (r := (RX9, TX9, 20)) k_0 rfl rfl) (Nat.le_of_ble_eq_true rfl) h rfl (fun r24 μ25 h => ?_)
    obtain ⟨g26, h⟩ := h
    refine WP_iadd dX9_drawDeed_101 g26 ?_
    exact WQ_ireturn dX9_drawDeed_102 rfl h
  rcases (show (r1 < 2 ∨ 4 < r1) ∨ r1 = 2 ∨ r1 = 3 ∨ r1 = 4 by omega) with c3 | c3 | c3 | c3
  · exact WP_tableOut (tgt := 75) dX9_drawDeed_5 c3 (by decide) (hD (by omega))
  · refine WP_tableIn (tgt := 32) dX9_drawDeed_5 (by omega) (by omega) (by rw [c3]; rfl) (by decide) ?_
    replace h := h.1 c3
    refine WP_sipush dX9_drawDeed_32 (by decide +kernel) (by decide) ?_
    refine WP_aload_n dX9_drawDeed_35 rfl rfl ⟨Nat.le_of_ble_eq_true rfl, Nat.le_of_ble_eq_true rfl⟩ ?_
    refine WP_bipush dX9_drawDeed_36 (by decide +kernel) (by decide) ?_
    refine WQ_invVi (v := (2, 0)) (as := [(0, 8)]) dX9_drawDeed_38 l_X9_395 mw_X9_draw mi_X9_draw ms_X9_draw mo_X9_draw (rcv (ci := 9) (n := 20) (r := (RX9, TX9, 20)) k_0 rfl rfl) (Nat.le_of_ble_eq_true rfl) h rfl (fun r4 μ5 h => ?_)
    obtain ⟨g6, h⟩ := h
    refine WP_iadd dX9_drawDeed_41 g6 ?_
    exact WQ_ireturn dX9_drawDeed_42 rfl h
  · refine WP_tableIn (tgt := 43) dX9_drawDeed_5 (by omega) (by omega) (by rw [c3]; rfl) (by decide) ?_
    replace h := h.2.1 c3
    refine WP_sipush dX9_drawDeed_43 (by decide +kernel) (by decide) ?_
    refine WP_bipush dX9_drawDeed_46 (by decide +kernel) (by decide) ?_
    refine WP_aload_n dX9_drawDeed_48 rfl rfl ⟨Nat.le_of_ble_eq_true rfl, Nat.le_of_ble_eq_true rfl⟩ ?_
    refine WP_bipush dX9_drawDeed_49 (by decide +kernel) (by decide) ?_
    refine WQ_invVi (v := (2, 0)) (as := [(0, 6)]) dX9_drawDeed_51 l_X9_395 mw_X9_draw mi_X9_draw ms_X9_draw mo_X9_draw (rcv (ci := 9) (n := 20) (r := (RX9, TX9, 20)) k_0 rfl rfl) (Nat.le_of_ble_eq_true rfl) h rfl (fun r7 μ8 h => ?_)
    obtain ⟨g9, h⟩ := h
    refine WP_imul dX9_drawDeed_54 g9 ?_
    obtain ⟨g10, h⟩ := h
    refine WP_iadd dX9_drawDeed_55 g10 ?_
    refine WP_aload_n dX9_drawDeed_56 rfl rfl ⟨Nat.le_of_ble_eq_true rfl, Nat.le_of_ble_eq_true rfl⟩ ?_
    refine WP_bipush dX9_drawDeed_57 (by decide +kernel) (by decide) ?_
    refine WQ_invVi (v := (2, 0)) (as := [(0, 64)]) dX9_drawDeed_59 l_X9_395 mw_X9_draw mi_X9_draw ms_X9_draw mo_X9_draw (rcv (ci := 9) (n := 20) (r := (RX9, TX9, 20)) k_0 rfl rfl) (Nat.le_of_ble_eq_true rfl) h rfl (fun r11 μ12 h => ?_)
    obtain ⟨g13, h⟩ := h
    refine WP_iadd dX9_drawDeed_62 g13 ?_
    exact WQ_ireturn dX9_drawDeed_63 rfl h
  · refine WP_tableIn (tgt := 64) dX9_drawDeed_5 (by omega) (by omega) (by rw [c3]; rfl) (by decide) ?_
    replace h := h.2.2.1 c3
    refine WP_sipush dX9_drawDeed_64 (by decide +kernel) (by decide) ?_
    refine WP_aload_n dX9_drawDeed_67 rfl rfl ⟨Nat.le_of_ble_eq_true rfl, Nat.le_of_ble_eq_true rfl⟩ ?_
    refine WP_bipush dX9_drawDeed_68 (by decide +kernel) (by decide) ?_
    refine WQ_invVi (v := (2, 0)) (as := [(0, 10)]) dX9_drawDeed_70 l_X9_395 mw_X9_draw mi_X9_draw ms_X9_draw mo_X9_draw (rcv (ci := 9) (n := 20) (r := (RX9, TX9, 20)) k_0 rfl rfl) (Nat.le_of_ble_eq_true rfl) h rfl (fun r14 μ15 h => ?_)
    obtain ⟨g16, h⟩ := h
    refine WP_iadd dX9_drawDeed_73 g16 ?_
    exact WQ_ireturn dX9_drawDeed_74 rfl h

theorem s_X9_drop_0 {d : Nat} {sc : SC} {Q : Int → Mem → Prop} {μ : Mem} {a1 : Int}
    (h : isK 1 (μ 0 2) ∧ CAv mX6_copyFrom d sc [(2, 121), (2, μ 0 2 + 7)] μ (fun μ3 => CAi mX9_dropIn d sc [(2, 121), (0, a1)] μ3 (fun r4 μ5 => (r4 = 0 → CAv mX9_acceptTrial d sc [(2, 0)] μ5 (fun μ8 => isK 1 (μ8 0 2) ∧ Q (μ8 (μ8 0 2 + 7) 0) μ8)) ∧ (r4 ≠ 0 → (-2147483648 ≤ (-10) - r4 ∧ (-10) - r4 < 2147483648) ∧ Q ((-10) - r4) μ5)))) :
    WQ mX9_drop d sc (ZI sc Q) 0 [(2, 0), (0, a1), (9, 0)] [] μ := by
  refine WP_aload_n dX9_drop_0 rfl rfl ⟨Nat.le_of_ble_eq_true rfl, Nat.le_of_ble_eq_true rfl⟩ ?_
  refine WP_getfield (ci := 9) (j := 14) (n := 20) (t := 2) (x := 121) dX9_drop_1 f_X9_82 k_0 rfl rfl ?_
  refine WP_aload_n dX9_drop_4 rfl rfl ⟨Nat.le_of_ble_eq_true rfl, Nat.le_of_ble_eq_true rfl⟩ ?_
  refine WP_getfield (ci := 9) (j := 2) (n := 20) (t := 2) (x := μ 0 2) dX9_drop_5 f_X9_16 k_0 rfl rfl ?_
  obtain ⟨g1, h⟩ := h
  refine WP_getfield (ci := 1) (j := 10) (n := 11) (t := 2) (x := μ 0 2 + 7) dX9_drop_8 f_X9_131 g1 rfl rfl ?_
  refine WQ_invVv (v := (2, 121)) (as := [(2, μ 0 2 + 7)]) dX9_drop_11 l_X9_176 mw_X6_copyFrom mi_X6_copyFrom ms_X6_copyFrom mo_X6_copyFrom (rcv (ci := 6) (n := 7) (r := (RX6, TX6, 7)) k_121 rfl rfl) (Nat.le_of_ble_eq_true rfl) h rfl (fun μ3 h => ?_)
  refine WP_aload_n dX9_drop_14 rfl rfl ⟨Nat.le_of_ble_eq_true rfl, Nat.le_of_ble_eq_true rfl⟩ ?_
  refine WP_getfield (ci := 9) (j := 14) (n := 20) (t := 2) (x := 121) dX9_drop_15 f_X9_82 k_0 rfl rfl ?_
  refine WP_iload_n dX9_drop_18 rfl rfl ?_
  refine WQ_invSi (as := [(2, 121), (0, a1)]) dX9_drop_19 l_X9_187 mw_X9_dropIn mt_X9_dropIn mo_X9_dropIn (Nat.le_of_ble_eq_true rfl) h rfl (fun r4 μ5 h => ?_)
  refine WP_istore_n (L' := [(2, 0), (0, a1), (0, r4)]) dX9_drop_22 rfl (by decide) rfl ?_
  refine WP_iload_n dX9_drop_23 rfl rfl ?_
  refine WQ_ifeq (tgt := 32) dX9_drop_24 (by decide) (fun c6 => ?_) (fun c6 => ?_)
  · replace h := h.1 c6
    refine WP_aload_n dX9_drop_32 rfl rfl ⟨Nat.le_of_ble_eq_true rfl, Nat.le_of_ble_eq_true rfl⟩ ?_
    refine WQ_invVv (v := (2, 0)) (as := []) dX9_drop_33 l_X9_184 mw_X9_acceptTrial mi_X9_acceptTrial ms_X9_acceptTrial mo_X9_acceptTrial (rcv (ci := 9) (n := 20) (r := (RX9, TX9, 20)) k_0 rfl rfl) (Nat.le_of_ble_eq_true rfl) h rfl (fun μ8 h => ?_)
    refine WP_aload_n dX9_drop_36 rfl rfl ⟨Nat.le_of_ble_eq_true rfl, Nat.le_of_ble_eq_true rfl⟩ ?_
    refine WP_getfield (ci := 9) (j := 2) (n := 20) (t := 2) (x := μ8 0 2) dX9_drop_37 f_X9_16 k_0 rfl rfl ?_
    obtain ⟨g9, h⟩ := h
    refine WP_getfield (ci := 1) (j := 10) (n := 11) (t := 2) (x := μ8 0 2 + 7) dX9_drop_40 f_X9_131 g9 rfl rfl ?_
    refine WP_getfield (ci := 6) (j := 0) (n := 7) (t := 0) (x := μ8 (μ8 0 2 + 7) 0) dX9_drop_43 f_X9_146 (kf_1_10 g9) rfl rfl ?_
    exact WQ_ireturn dX9_drop_46 rfl h
  · replace h := h.2 c6
    refine WP_bipush dX9_drop_27 (by decide +kernel) (by decide) ?_
    refine WP_iload_n dX9_drop_29 rfl rfl ?_
    obtain ⟨g10, h⟩ := h
    refine WP_isub dX9_drop_30 g10 ?_
    exact WQ_ireturn dX9_drop_31 rfl h

theorem s_X9_dropIn_0 {d : Nat} {sc : SC} {Q : Int → Mem → Prop} {μ : Mem} {a0 a1 : Int} (ha0 : isK 6 a0)
    (h : (a1 < 0 → Q 1 μ) ∧ (0 ≤ a1 → (a1 < μ a0 0 → CAv mX6_remove d sc [(2, a0), (0, a1)] μ (fun μ4 => Q 0 μ4)) ∧ (μ a0 0 ≤ a1 → Q 1 μ))) :
    WQ mX9_dropIn d sc (ZI sc Q) 0 [(2, a0), (0, a1)] [] μ := by
  refine WP_iload_n dX9_dropIn_0 rfl rfl ?_
  refine WQ_iflt (tgt := 12) dX9_dropIn_1 (by decide) (fun c1 => ?_) (fun c1 => ?_)
  · replace h := h.1 c1
    refine WP_iconst dX9_dropIn_12 (by decide) ?_
    exact WQ_ireturn dX9_dropIn_13 rfl h
  · replace h := h.2 c1
    refine WP_iload_n dX9_dropIn_4 rfl rfl ?_
    refine WP_aload_n dX9_dropIn_5 rfl rfl ⟨Nat.le_of_ble_eq_true rfl, Nat.le_of_ble_eq_true rfl⟩ ?_
    refine WP_getfield (ci := 6) (j := 0) (n := 7) (t := 0) (x := μ a0 0) dX9_dropIn_6 f_X9_146 ha0 rfl rfl ?_
    refine WQ_icmp_lt (tgt := 14) dX9_dropIn_9 (by decide) (fun c2 => ?_) (fun c2 => ?_)
    · replace h := h.1 c2
      refine WP_aload_n dX9_dropIn_14 rfl rfl ⟨Nat.le_of_ble_eq_true rfl, Nat.le_of_ble_eq_true rfl⟩ ?_
      refine WP_iload_n dX9_dropIn_15 rfl rfl ?_
      refine WQ_invVv (v := (2, a0)) (as := [(0, a1)]) dX9_dropIn_16 l_X9_386 mw_X6_remove mi_X6_remove ms_X6_remove mo_X6_remove (rcv (ci := 6) (n := 7) (r := (RX6, TX6, 7)) ha0 rfl rfl) (Nat.le_of_ble_eq_true rfl) h rfl (fun μ4 h => ?_)
      refine WP_iconst dX9_dropIn_19 (by decide) ?_
      exact WQ_ireturn dX9_dropIn_20 rfl h
    · replace h := h.2 c2
      refine WP_iconst dX9_dropIn_12 (by decide) ?_
      exact WQ_ireturn dX9_dropIn_13 rfl h

theorem s_X9_famous_0 {d : Nat} {sc : SC} {Q : Int → Mem → Prop} {μ : Mem}
    (h : isK 1 (μ 0 2) ∧ (μ (μ 0 2) 3 ≠ 0 → CAv mX9_knowOdds d sc [(2, 0)] μ (fun μ4 => WQ mX9_famous d sc (ZI sc Q) 20 [(2, 0), (0, 0), (0, 1)] [] μ4)) ∧ (μ (μ 0 2) 3 = 0 → Q (-1) μ)) :
    WQ mX9_famous d sc (ZI sc Q) 0 [(2, 0), (9, 0), (9, 0)] [] μ := by
  refine WP_aload_n dX9_famous_0 rfl rfl ⟨Nat.le_of_ble_eq_true rfl, Nat.le_of_ble_eq_true rfl⟩ ?_
  refine WP_getfield (ci := 9) (j := 2) (n := 20) (t := 2) (x := μ 0 2) dX9_famous_1 f_X9_16 k_0 rfl rfl ?_
  obtain ⟨g1, h⟩ := h
  refine WP_getfield (ci := 1) (j := 3) (n := 11) (t := 0) (x := μ (μ 0 2) 3) dX9_famous_4 f_X9_241 g1 rfl rfl ?_
  refine WQ_ifne (tgt := 12) dX9_famous_7 (by decide) (fun c2 => ?_) (fun c2 => ?_)
  · replace h := h.1 c2
    refine WP_aload_n dX9_famous_12 rfl rfl ⟨Nat.le_of_ble_eq_true rfl, Nat.le_of_ble_eq_true rfl⟩ ?_
    refine WQ_invVv (v := (2, 0)) (as := []) dX9_famous_13 l_X9_327 mw_X9_knowOdds mi_X9_knowOdds ms_X9_knowOdds mo_X9_knowOdds (rcv (ci := 9) (n := 20) (r := (RX9, TX9, 20)) k_0 rfl rfl) (Nat.le_of_ble_eq_true rfl) h rfl (fun μ4 h => ?_)
    refine WP_iconst dX9_famous_16 (by decide) ?_
    refine WP_istore_n (L' := [(2, 0), (0, 0), (9, 0)]) dX9_famous_17 rfl (by decide) rfl ?_
    refine WP_iconst dX9_famous_18 (by decide) ?_
    refine WP_istore_n (L' := [(2, 0), (0, 0), (0, 1)]) dX9_famous_19 rfl (by decide) rfl ?_
    exact h
  · replace h := h.2 c2
    refine WP_iconst dX9_famous_10 (by decide) ?_
    exact WQ_ireturn dX9_famous_11 rfl h

theorem s_X9_famous_20 {d : Nat} {sc : SC} {Q : Int → Mem → Prop} {μ : Mem} {x1 x2 : Int}
    (h : isK 1 (μ 0 2) ∧ (μ (μ 0 2) 3 ≤ x2 → Q x1 μ) ∧ (x2 < μ (μ 0 2) 3 → (0 ≤ x2 ∧ x2 < 6) ∧ (0 ≤ x1 ∧ x1 < 6) ∧ (μ 119 x2 ≤ μ 119 x1 → (-2147483648 ≤ x2 + 1 ∧ x2 + 1 < 2147483648) ∧ ∀ v7 : Int, v7 = x2 + 1 → WQ mX9_famous d sc (ZI sc Q) 20 [(2, 0), (0, x1), (0, v7)] [] μ) ∧ (μ 119 x1 < μ 119 x2 → (-2147483648 ≤ x2 + 1 ∧ x2 + 1 < 2147483648) ∧ ∀ v9 : Int, v9 = x2 + 1 → WQ mX9_famous d sc (ZI sc Q) 20 [(2, 0), (0, x2), (0, v9)] [] μ))) :
    WQ mX9_famous d sc (ZI sc Q) 20 [(2, 0), (0, x1), (0, x2)] [] μ := by
  refine WP_iload_n dX9_famous_20 rfl rfl ?_
  refine WP_aload_n dX9_famous_21 rfl rfl ⟨Nat.le_of_ble_eq_true rfl, Nat.le_of_ble_eq_true rfl⟩ ?_
  refine WP_getfield (ci := 9) (j := 2) (n := 20) (t := 2) (x := μ 0 2) dX9_famous_22 f_X9_16 k_0 rfl rfl ?_
  obtain ⟨g1, h⟩ := h
  refine WP_getfield (ci := 1) (j := 3) (n := 11) (t := 0) (x := μ (μ 0 2) 3) dX9_famous_25 f_X9_241 g1 rfl rfl ?_
  refine WQ_icmp_ge (tgt := 61) dX9_famous_28 (by decide) (fun c2 => ?_) (fun c2 => ?_)
  · replace h := h.1 c2
    refine WP_iload_n dX9_famous_61 rfl rfl ?_
    exact WQ_ireturn dX9_famous_62 rfl h
  · replace h := h.2 c2
    refine WP_aload_n dX9_famous_31 rfl rfl ⟨Nat.le_of_ble_eq_true rfl, Nat.le_of_ble_eq_true rfl⟩ ?_
    refine WP_getfield (ci := 9) (j := 12) (n := 20) (t := 2) (x := 117) dX9_famous_32 f_X9_68 k_0 rfl rfl ?_
    refine WP_getfield (ci := 4) (j := 3) (n := 4) (t := 2) (x := 119) dX9_famous_35 f_X9_343 k_117 rfl rfl ?_
    refine WP_iload_n dX9_famous_38 rfl rfl ?_
    obtain ⟨g3, h⟩ := h
    refine WP_laload (n := 6) dX9_famous_39 k_119 g3 ?_
    refine WP_aload_n dX9_famous_40 rfl rfl ⟨Nat.le_of_ble_eq_true rfl, Nat.le_of_ble_eq_true rfl⟩ ?_
    refine WP_getfield (ci := 9) (j := 12) (n := 20) (t := 2) (x := 117) dX9_famous_41 f_X9_68 k_0 rfl rfl ?_
    refine WP_getfield (ci := 4) (j := 3) (n := 4) (t := 2) (x := 119) dX9_famous_44 f_X9_343 k_117 rfl rfl ?_
    refine WP_iload_n dX9_famous_47 rfl rfl ?_
    obtain ⟨g4, h⟩ := h
    refine WP_laload (n := 6) dX9_famous_48 k_119 g4 ?_
    refine WQ_lifle (tgt := 55) dX9_famous_49 dX9_famous_50 (by decide) (fun c5 => ?_) (fun c5 => ?_)
    · replace h := h.1 c5
      obtain ⟨g6, h⟩ := h
      refine WQ_iinc dX9_famous_55 rfl (by decide) g6 (fun v7 e7 => ?_)
      refine WP_same (L' := [(2, 0), (0, x1), (0, v7)]) rfl ?_
      replace h := h v7 e7
      refine WP_goto (tgt := 20) dX9_famous_58 (by decide) ?_
      exact h
    · replace h := h.2 c5
      refine WP_iload_n dX9_famous_53 rfl rfl ?_
      refine WP_istore_n (L' := [(2, 0), (0, x2), (0, x2)]) dX9_famous_54 rfl (by decide) rfl ?_
      obtain ⟨g8, h⟩ := h
      refine WQ_iinc dX9_famous_55 rfl (by decide) g8 (fun v9 e9 => ?_)
      refine WP_same (L' := [(2, 0), (0, x2), (0, v9)]) rfl ?_
      replace h := h v9 e9
      refine WP_goto (tgt := 20) dX9_famous_58 (by decide) ?_
      exact h

theorem s_X9_fault_0 {d : Nat} {sc : SC} {Q : Int → Mem → Prop} {μ : Mem} {a1 : Int}
    (h : (a1 ≠ 0 → (a1 ≠ 1 → Q (-1) μ) ∧ (a1 = 1 → Q (μ 28 1) μ)) ∧ (a1 = 0 → Q (μ 28 0) μ)) :
    WQ mX9_fault d sc (ZI sc Q) 0 [(2, 0), (0, a1)] [] μ := by
  refine WP_iload_n dX9_fault_0 rfl rfl ?_
  refine WQ_ifne (tgt := 12) dX9_fault_1 (by decide) (fun c1 => ?_) (fun c1 => ?_)
  · replace h := h.1 c1
    refine WP_iload_n dX9_fault_12 rfl rfl ?_
    refine WP_iconst dX9_fault_13 (by decide) ?_
    refine WQ_icmp_ne (tgt := 27) dX9_fault_14 (by decide) (fun c2 => ?_) (fun c2 => ?_)
    · replace h := h.1 c2
      refine WP_iconst dX9_fault_27 (by decide) ?_
      exact WQ_ireturn dX9_fault_28 rfl h
    · replace h := h.2 c2
      refine WP_aload_n dX9_fault_17 rfl rfl ⟨Nat.le_of_ble_eq_true rfl, Nat.le_of_ble_eq_true rfl⟩ ?_
      refine WP_getfield (ci := 9) (j := 4) (n := 20) (t := 2) (x := 28) dX9_fault_18 f_X9_26 k_0 rfl rfl ?_
      refine WP_getfield (ci := 7) (j := 1) (n := 11) (t := 0) (x := μ 28 1) dX9_fault_21 f_X9_124 k_28 rfl rfl ?_
      refine WP_goto (tgt := 28) dX9_fault_24 (by decide) ?_
      exact WQ_ireturn dX9_fault_28 rfl h
  · replace h := h.2 c1
    refine WP_aload_n dX9_fault_4 rfl rfl ⟨Nat.le_of_ble_eq_true rfl, Nat.le_of_ble_eq_true rfl⟩ ?_
    refine WP_getfield (ci := 9) (j := 4) (n := 20) (t := 2) (x := 28) dX9_fault_5 f_X9_26 k_0 rfl rfl ?_
    refine WP_getfield (ci := 7) (j := 0) (n := 11) (t := 0) (x := μ 28 0) dX9_fault_8 f_X9_112 k_28 rfl rfl ?_
    exact WQ_ireturn dX9_fault_11 rfl h

theorem s_X9_feed_0 {d : Nat} {sc : SC} {Q : Int → Mem → Prop} {μ : Mem} {a1 a2 a3 a4 a5 : Int}
    (h : (-2147483648 ≤ (μ 0 1) + 20 ∧ (μ 0 1) + 20 < 2147483648) ∧ ((μ 0 1) + 20 ≤ 900 → CAv mX9_tapeInt d sc [(2, 0), (0, a1)] μ (fun μ4 => CAv mX9_tapeInt d sc [(2, 0), (0, a2)] μ4 (fun μ6 => CAv mX9_tapeInt d sc [(2, 0), (0, a3)] μ6 (fun μ8 => CAv mX9_tapeInt d sc [(2, 0), (0, a4)] μ8 (fun μ10 => CAv mX9_tapeInt d sc [(2, 0), (0, a5)] μ10 (fun μ12 => Q (μ12 0 1) μ12)))))) ∧ (900 < (μ 0 1) + 20 → Q (-5) μ)) :
    WQ mX9_feed d sc (ZI sc Q) 0 [(2, 0), (0, a1), (0, a2), (0, a3), (0, a4), (0, a5)] [] μ := by
  refine WP_aload_n dX9_feed_0 rfl rfl ⟨Nat.le_of_ble_eq_true rfl, Nat.le_of_ble_eq_true rfl⟩ ?_
  refine WP_getfield (ci := 9) (j := 1) (n := 20) (t := 0) (x := μ 0 1) dX9_feed_1 f_X9_100 k_0 rfl rfl ?_
  refine WP_bipush dX9_feed_4 (by decide +kernel) (by decide) ?_
  obtain ⟨g1, h⟩ := h
  refine WP_iadd dX9_feed_6 g1 ?_
  refine WP_sipush dX9_feed_7 (by decide +kernel) (by decide) ?_
  refine WQ_icmp_le (tgt := 16) dX9_feed_10 (by decide) (fun c2 => ?_) (fun c2 => ?_)
  · replace h := h.1 c2
    refine WP_aload_n dX9_feed_16 rfl rfl ⟨Nat.le_of_ble_eq_true rfl, Nat.le_of_ble_eq_true rfl⟩ ?_
    refine WP_iload_n dX9_feed_17 rfl rfl ?_
    refine WQ_invVv (v := (2, 0)) (as := [(0, a1)]) dX9_feed_18 l_X9_104 mw_X9_tapeInt mi_X9_tapeInt ms_X9_tapeInt mo_X9_tapeInt (rcv (ci := 9) (n := 20) (r := (RX9, TX9, 20)) k_0 rfl rfl) (Nat.le_of_ble_eq_true rfl) h rfl (fun μ4 h => ?_)
    refine WP_aload_n dX9_feed_21 rfl rfl ⟨Nat.le_of_ble_eq_true rfl, Nat.le_of_ble_eq_true rfl⟩ ?_
    refine WP_iload_n dX9_feed_22 rfl rfl ?_
    refine WQ_invVv (v := (2, 0)) (as := [(0, a2)]) dX9_feed_23 l_X9_104 mw_X9_tapeInt mi_X9_tapeInt ms_X9_tapeInt mo_X9_tapeInt (rcv (ci := 9) (n := 20) (r := (RX9, TX9, 20)) k_0 rfl rfl) (Nat.le_of_ble_eq_true rfl) h rfl (fun μ6 h => ?_)
    refine WP_aload_n dX9_feed_26 rfl rfl ⟨Nat.le_of_ble_eq_true rfl, Nat.le_of_ble_eq_true rfl⟩ ?_
    refine WP_iload_n dX9_feed_27 rfl rfl ?_
    refine WQ_invVv (v := (2, 0)) (as := [(0, a3)]) dX9_feed_28 l_X9_104 mw_X9_tapeInt mi_X9_tapeInt ms_X9_tapeInt mo_X9_tapeInt (rcv (ci := 9) (n := 20) (r := (RX9, TX9, 20)) k_0 rfl rfl) (Nat.le_of_ble_eq_true rfl) h rfl (fun μ8 h => ?_)
    refine WP_aload_n dX9_feed_31 rfl rfl ⟨Nat.le_of_ble_eq_true rfl, Nat.le_of_ble_eq_true rfl⟩ ?_
    refine WP_iload dX9_feed_32 rfl ?_
    refine WQ_invVv (v := (2, 0)) (as := [(0, a4)]) dX9_feed_34 l_X9_104 mw_X9_tapeInt mi_X9_tapeInt ms_X9_tapeInt mo_X9_tapeInt (rcv (ci := 9) (n := 20) (r := (RX9, TX9, 20)) k_0 rfl rfl) (Nat.le_of_ble_eq_true rfl) h rfl (fun μ10 h => ?_)
    refine WP_aload_n dX9_feed_37 rfl rfl ⟨Nat.le_of_ble_eq_true rfl, Nat.le_of_ble_eq_true rfl⟩ ?_
    refine WP_iload dX9_feed_38 rfl ?_
    refine WQ_invVv (v := (2, 0)) (as := [(0, a5)]) dX9_feed_40 l_X9_104 mw_X9_tapeInt mi_X9_tapeInt ms_X9_tapeInt mo_X9_tapeInt (rcv (ci := 9) (n := 20) (r := (RX9, TX9, 20)) k_0 rfl rfl) (Nat.le_of_ble_eq_true rfl) h rfl (fun μ12 h => ?_)
    refine WP_aload_n dX9_feed_43 rfl rfl ⟨Nat.le_of_ble_eq_true rfl, Nat.le_of_ble_eq_true rfl⟩ ?_
    refine WP_getfield (ci := 9) (j := 1) (n := 20) (t := 0) (x := μ12 0 1) dX9_feed_44 f_X9_100 k_0 rfl rfl ?_
    exact WQ_ireturn dX9_feed_47 rfl h
  · replace h := h.2 c2
    refine WP_bipush dX9_feed_13 (by decide +kernel) (by decide) ?_
    exact WQ_ireturn dX9_feed_15 rfl h

theorem s_X9_findHeard_0 {d : Nat} {sc : SC} {Q : Int → Mem → Prop} {μ : Mem} {a1 a2 : Int} (ha1 : isK 8 a1)
    (h : CAv mX9_startTrialLaws d sc [(2, 0)] μ (fun μ2 => WQ mX9_findHeard d sc (ZI sc Q) 9 [(2, 0), (2, a1), (0, a2), (0, 0), (0, 0), (9, 0), (9, 0), (9, 0)] [] μ2)) :
    WQ mX9_findHeard d sc (ZI sc Q) 0 [(2, 0), (2, a1), (0, a2), (9, 0), (9, 0), (9, 0), (9, 0), (9, 0)] [] μ := by
  refine WP_aload_n dX9_findHeard_0 rfl rfl ⟨Nat.le_of_ble_eq_true rfl, Nat.le_of_ble_eq_true rfl⟩ ?_
  refine WQ_invVv (v := (2, 0)) (as := []) dX9_findHeard_1 l_X9_281 mw_X9_startTrialLaws mi_X9_startTrialLaws ms_X9_startTrialLaws mo_X9_startTrialLaws (rcv (ci := 9) (n := 20) (r := (RX9, TX9, 20)) k_0 rfl rfl) (Nat.le_of_ble_eq_true rfl) h rfl (fun μ2 h => ?_)
  refine WP_iconst dX9_findHeard_4 (by decide) ?_
  refine WP_istore_n (L' := [(2, 0), (2, a1), (0, a2), (0, 0), (9, 0), (9, 0), (9, 0), (9, 0)]) dX9_findHeard_5 rfl (by decide) rfl ?_
  refine WP_iconst dX9_findHeard_6 (by decide) ?_
  refine WP_istore (L' := [(2, 0), (2, a1), (0, a2), (0, 0), (0, 0), (9, 0), (9, 0), (9, 0)]) dX9_findHeard_7 (by decide) rfl ?_
  exact h

theorem s_X9_findHeard_9 {d : Nat} {sc : SC} {Q : Int → Mem → Prop} {μ : Mem} {x1 x2 x3 x4 : Int} (hx1 : isK 8 x1)
    (h : isK 1 (μ 0 2) ∧ CAi mX1_cells d sc [(2, μ 0 2)] μ (fun r2 μ3 => (r2 ≤ x4 → Q x3 μ3) ∧ (x4 < r2 → (64 ≤ x4 → Q x3 μ3) ∧ (x4 < 64 → (0 ≤ x2 ∧ x2 < 6) ∧ (∀ μ7, μ7 = mup μ3 126 x2 x4 → WQ mX9_findHeard d sc (ZI sc Q) 45 [(2, 0), (2, x1), (0, x2), (0, x3), (0, x4), (0, 1), (0, 0), (9, 0)] [] μ7))))) :
    WQ mX9_findHeard d sc (ZI sc Q) 9 [(2, 0), (2, x1), (0, x2), (0, x3), (0, x4), (9, 0), (9, 0), (9, 0)] [] μ := by
  refine WP_iload dX9_findHeard_9 rfl ?_
  refine WP_aload_n dX9_findHeard_11 rfl rfl ⟨Nat.le_of_ble_eq_true rfl, Nat.le_of_ble_eq_true rfl⟩ ?_
  refine WP_getfield (ci := 9) (j := 2) (n := 20) (t := 2) (x := μ 0 2) dX9_findHeard_12 f_X9_16 k_0 rfl rfl ?_
  obtain ⟨g1, h⟩ := h
  refine WQ_invVi (v := (2, μ 0 2)) (as := []) dX9_findHeard_15 l_X9_278 mw_X1_cells mi_X1_cells ms_X1_cells mo_X1_cells (rcv (ci := 1) (n := 11) (r := (RX1, TX1, 11)) g1 rfl rfl) (Nat.le_of_ble_eq_true rfl) h rfl (fun r2 μ3 h => ?_)
  refine WQ_icmp_ge (tgt := 125) dX9_findHeard_18 (by decide) (fun c4 => ?_) (fun c4 => ?_)
  · replace h := h.1 c4
    refine WP_iload_n dX9_findHeard_125 rfl rfl ?_
    exact WQ_ireturn dX9_findHeard_126 rfl h
  · replace h := h.2 c4
    refine WP_iload dX9_findHeard_21 rfl ?_
    refine WP_bipush dX9_findHeard_23 (by decide +kernel) (by decide) ?_
    refine WQ_icmp_ge (tgt := 125) dX9_findHeard_25 (by decide) (fun c5 => ?_) (fun c5 => ?_)
    · replace h := h.1 c5
      refine WP_iload_n dX9_findHeard_125 rfl rfl ?_
      exact WQ_ireturn dX9_findHeard_126 rfl h
    · replace h := h.2 c5
      refine WP_aload_n dX9_findHeard_28 rfl rfl ⟨Nat.le_of_ble_eq_true rfl, Nat.le_of_ble_eq_true rfl⟩ ?_
      refine WP_getfield (ci := 9) (j := 14) (n := 20) (t := 2) (x := 121) dX9_findHeard_29 f_X9_82 k_0 rfl rfl ?_
      refine WP_getfield (ci := 6) (j := 5) (n := 7) (t := 2) (x := 126) dX9_findHeard_32 f_X9_134 k_121 rfl rfl ?_
      refine WP_iload_n dX9_findHeard_35 rfl rfl ?_
      refine WP_iload dX9_findHeard_36 rfl ?_
      obtain ⟨g6, h⟩ := h
      refine WQ_iast (n := 6) dX9_findHeard_38 k_126 g6 (fun μ7 eμ7 => ?_)
      replace h := h μ7 eμ7
      refine WP_iconst dX9_findHeard_39 (by decide) ?_
      refine WP_istore (L' := [(2, 0), (2, x1), (0, x2), (0, x3), (0, x4), (0, 1), (9, 0), (9, 0)]) dX9_findHeard_40 (by decide) rfl ?_
      refine WP_iconst dX9_findHeard_42 (by decide) ?_
      refine WP_istore (L' := [(2, 0), (2, x1), (0, x2), (0, x3), (0, x4), (0, 1), (0, 0), (9, 0)]) dX9_findHeard_43 (by decide) rfl ?_
      exact h

theorem s_X9_findHeard_45 {d : Nat} {sc : SC} {Q : Int → Mem → Prop} {μ : Mem} {x1 x2 x3 x4 x5 x6 : Int} (hx1 : isK 8 x1)
    (h : (μ x1 2 ≤ x6 → (x5 = 0 → (-2147483648 ≤ x4 + 1 ∧ x4 + 1 < 2147483648) ∧ ∀ v4 : Int, v4 = x4 + 1 → WQ mX9_findHeard d sc (ZI sc Q) 9 [(2, 0), (2, x1), (0, x2), (0, x3), (0, v4), (9, 0), (9, 0), (9, 0)] [] μ) ∧ (x5 ≠ 0 → (0 ≤ x3 ∧ x3 < 64) ∧ (∀ μ6, μ6 = mup μ 147 x3 x4 → (-2147483648 ≤ x3 + 1 ∧ x3 + 1 < 2147483648) ∧ ∀ v8 : Int, v8 = x3 + 1 → (-2147483648 ≤ x4 + 1 ∧ x4 + 1 < 2147483648) ∧ ∀ v10 : Int, v10 = x4 + 1 → WQ mX9_findHeard d sc (ZI sc Q) 9 [(2, 0), (2, x1), (0, x2), (0, v8), (0, v10), (9, 0), (9, 0), (9, 0)] [] μ6))) ∧ (x6 < μ x1 2 → (x5 = 0 → (x5 = 0 → (-2147483648 ≤ x4 + 1 ∧ x4 + 1 < 2147483648) ∧ ∀ v14 : Int, v14 = x4 + 1 → WQ mX9_findHeard d sc (ZI sc Q) 9 [(2, 0), (2, x1), (0, x2), (0, x3), (0, v14), (9, 0), (9, 0), (9, 0)] [] μ) ∧ (x5 ≠ 0 → (0 ≤ x3 ∧ x3 < 64) ∧ (∀ μ16, μ16 = mup μ 147 x3 x4 → (-2147483648 ≤ x3 + 1 ∧ x3 + 1 < 2147483648) ∧ ∀ v18 : Int, v18 = x3 + 1 → (-2147483648 ≤ x4 + 1 ∧ x4 + 1 < 2147483648) ∧ ∀ v20 : Int, v20 = x4 + 1 → WQ mX9_findHeard d sc (ZI sc Q) 9 [(2, 0), (2, x1), (0, x2), (0, v18), (0, v20), (9, 0), (9, 0), (9, 0)] [] μ16))) ∧ (x5 ≠ 0 → (0 ≤ x6 ∧ x6 < 40) ∧ (∀ v22 : Int, v22 = w32 (μ (x1 + 1) x6) → 0 ≤ v22 ∧ CAi mX3_gapOf d sc [(2, 127), (0, x2), (0, v22 / 100)] μ (fun r24 μ25 => 0 ≤ v22 ∧ (r24 ≠ v22 % 100 → (-2147483648 ≤ x6 + 1 ∧ x6 + 1 < 2147483648) ∧ ∀ v29 : Int, v29 = x6 + 1 → WQ mX9_findHeard d sc (ZI sc Q) 45 [(2, 0), (2, x1), (0, x2), (0, x3), (0, x4), (0, 0), (0, v29), (9, 0)] [] μ25) ∧ (r24 = v22 % 100 → (-2147483648 ≤ x6 + 1 ∧ x6 + 1 < 2147483648) ∧ ∀ v31 : Int, v31 = x6 + 1 → WQ mX9_findHeard d sc (ZI sc Q) 45 [(2, 0), (2, x1), (0, x2), (0, x3), (0, x4), (0, 1), (0, v31), (9, 0)] [] μ25)))))) :
    WQ mX9_findHeard d sc (ZI sc Q) 45 [(2, 0), (2, x1), (0, x2), (0, x3), (0, x4), (0, x5), (0, x6), (9, 0)] [] μ := by
  refine WP_iload dX9_findHeard_45 rfl ?_
  refine WP_aload_n dX9_findHeard_47 rfl rfl ⟨Nat.le_of_ble_eq_true rfl, Nat.le_of_ble_eq_true rfl⟩ ?_
  refine WP_getfield (ci := 8) (j := 2) (n := 4) (t := 0) (x := μ x1 2) dX9_findHeard_48 f_X9_219 hx1 rfl rfl ?_
  refine WQ_icmp_ge (tgt := 103) dX9_findHeard_51 (by decide) (fun c1 => ?_) (fun c1 => ?_)
  · replace h := h.1 c1
    refine WP_iload dX9_findHeard_103 rfl ?_
    refine WQ_ifeq (tgt := 119) dX9_findHeard_105 (by decide) (fun c2 => ?_) (fun c2 => ?_)
    · replace h := h.1 c2
      obtain ⟨g3, h⟩ := h
      refine WQ_iinc dX9_findHeard_119 rfl (by decide) g3 (fun v4 e4 => ?_)
      refine WP_same (L' := [(2, 0), (2, x1), (0, x2), (0, x3), (0, v4), (0, x5), (0, x6), (9, 0)]) rfl ?_
      replace h := h v4 e4
      refine WP_goto (tgt := 9) dX9_findHeard_122 (by decide) ?_
      refine WP_lforget (L' := [(2, 0), (2, x1), (0, x2), (0, x3), (0, v4), (9, 0), (9, 0), (9, 0)]) rfl (fun i hi => ?_) h
      match i, hi with
      | 0, _ => exact Or.inl rfl
      | 1, _ => exact Or.inl rfl
      | 2, _ => exact Or.inl rfl
      | 3, _ => exact Or.inl rfl
      | 4, _ => exact Or.inl rfl
      | 5, _ => exact Or.inr rfl
      | 6, _ => exact Or.inr rfl
      | 7, _ => exact Or.inl rfl
      | i + 8, hi => exact absurd hi (by simp only [List.length_cons, List.length_nil]; omega)
    · replace h := h.2 c2
      refine WP_aload_n dX9_findHeard_108 rfl rfl ⟨Nat.le_of_ble_eq_true rfl, Nat.le_of_ble_eq_true rfl⟩ ?_
      refine WP_getfield (ci := 9) (j := 17) (n := 20) (t := 2) (x := 147) dX9_findHeard_109 f_X9_92 k_0 rfl rfl ?_
      refine WP_iload_n dX9_findHeard_112 rfl rfl ?_
      refine WP_iload dX9_findHeard_113 rfl ?_
      obtain ⟨g5, h⟩ := h
      refine WQ_iast (n := 64) dX9_findHeard_115 k_147 g5 (fun μ6 eμ6 => ?_)
      replace h := h μ6 eμ6
      obtain ⟨g7, h⟩ := h
      refine WQ_iinc dX9_findHeard_116 rfl (by decide) g7 (fun v8 e8 => ?_)
      refine WP_same (L' := [(2, 0), (2, x1), (0, x2), (0, v8), (0, x4), (0, x5), (0, x6), (9, 0)]) rfl ?_
      replace h := h v8 e8
      obtain ⟨g9, h⟩ := h
      refine WQ_iinc dX9_findHeard_119 rfl (by decide) g9 (fun v10 e10 => ?_)
      refine WP_same (L' := [(2, 0), (2, x1), (0, x2), (0, v8), (0, v10), (0, x5), (0, x6), (9, 0)]) rfl ?_
      replace h := h v10 e10
      refine WP_goto (tgt := 9) dX9_findHeard_122 (by decide) ?_
      refine WP_lforget (L' := [(2, 0), (2, x1), (0, x2), (0, v8), (0, v10), (9, 0), (9, 0), (9, 0)]) rfl (fun i hi => ?_) h
      match i, hi with
      | 0, _ => exact Or.inl rfl
      | 1, _ => exact Or.inl rfl
      | 2, _ => exact Or.inl rfl
      | 3, _ => exact Or.inl rfl
      | 4, _ => exact Or.inl rfl
      | 5, _ => exact Or.inr rfl
      | 6, _ => exact Or.inr rfl
      | 7, _ => exact Or.inl rfl
      | i + 8, hi => exact absurd hi (by simp only [List.length_cons, List.length_nil]; omega)
  · replace h := h.2 c1
    refine WP_iload dX9_findHeard_54 rfl ?_
    refine WQ_ifeq (tgt := 103) dX9_findHeard_56 (by decide) (fun c11 => ?_) (fun c11 => ?_)
    · replace h := h.1 c11
      refine WP_iload dX9_findHeard_103 rfl ?_
      refine WQ_ifeq (tgt := 119) dX9_findHeard_105 (by decide) (fun c12 => ?_) (fun c12 => ?_)
      · replace h := h.1 c12
        obtain ⟨g13, h⟩ := h
        refine WQ_iinc dX9_findHeard_119 rfl (by decide) g13 (fun v14 e14 => ?_)
        refine WP_same (L' := [(2, 0), (2, x1), (0, x2), (0, x3), (0, v14), (0, x5), (0, x6), (9, 0)]) rfl ?_
        replace h := h v14 e14
        refine WP_goto (tgt := 9) dX9_findHeard_122 (by decide) ?_
        refine WP_lforget (L' := [(2, 0), (2, x1), (0, x2), (0, x3), (0, v14), (9, 0), (9, 0), (9, 0)]) rfl (fun i hi => ?_) h
        match i, hi with
        | 0, _ => exact Or.inl rfl
        | 1, _ => exact Or.inl rfl
        | 2, _ => exact Or.inl rfl
        | 3, _ => exact Or.inl rfl
        | 4, _ => exact Or.inl rfl
        | 5, _ => exact Or.inr rfl
        | 6, _ => exact Or.inr rfl
        | 7, _ => exact Or.inl rfl
        | i + 8, hi => exact absurd hi (by simp only [List.length_cons, List.length_nil]; omega)
      · replace h := h.2 c12
        refine WP_aload_n dX9_findHeard_108 rfl rfl ⟨Nat.le_of_ble_eq_true rfl, Nat.le_of_ble_eq_true rfl⟩ ?_
        refine WP_getfield (ci := 9) (j := 17) (n := 20) (t := 2) (x := 147) dX9_findHeard_109 f_X9_92 k_0 rfl rfl ?_
        refine WP_iload_n dX9_findHeard_112 rfl rfl ?_
        refine WP_iload dX9_findHeard_113 rfl ?_
        obtain ⟨g15, h⟩ := h
        refine WQ_iast (n := 64) dX9_findHeard_115 k_147 g15 (fun μ16 eμ16 => ?_)
        replace h := h μ16 eμ16
        obtain ⟨g17, h⟩ := h
        refine WQ_iinc dX9_findHeard_116 rfl (by decide) g17 (fun v18 e18 => ?_)
        refine WP_same (L' := [(2, 0), (2, x1), (0, x2), (0, v18), (0, x4), (0, x5), (0, x6), (9, 0)]) rfl ?_
        replace h := h v18 e18
        obtain ⟨g19, h⟩ := h
        refine WQ_iinc dX9_findHeard_119 rfl (by decide) g19 (fun v20 e20 => ?_)
        refine WP_same (L' := [(2, 0), (2, x1), (0, x2), (0, v18), (0, v20), (0, x5), (0, x6), (9, 0)]) rfl ?_
        replace h := h v20 e20
        refine WP_goto (tgt := 9) dX9_findHeard_122 (by decide) ?_
        refine WP_lforget (L' := [(2, 0), (2, x1), (0, x2), (0, v18), (0, v20), (9, 0), (9, 0), (9, 0)]) rfl (fun i hi => ?_) h
        match i, hi with
        | 0, _ => exact Or.inl rfl
        | 1, _ => exact Or.inl rfl
        | 2, _ => exact Or.inl rfl
        | 3, _ => exact Or.inl rfl
        | 4, _ => exact Or.inl rfl
        | 5, _ => exact Or.inr rfl
        | 6, _ => exact Or.inr rfl
        | 7, _ => exact Or.inl rfl
        | i + 8, hi => exact absurd hi (by simp only [List.length_cons, List.length_nil]; omega)
    · replace h := h.2 c11
      refine WP_aload_n dX9_findHeard_59 rfl rfl ⟨Nat.le_of_ble_eq_true rfl, Nat.le_of_ble_eq_true rfl⟩ ?_
      refine WP_getfield (ci := 8) (j := 3) (n := 4) (t := 2) (x := x1 + 1) dX9_findHeard_60 f_X9_222 hx1 rfl rfl ?_
      refine WP_iload dX9_findHeard_63 rfl ?_
      obtain ⟨g21, h⟩ := h
      refine WP_laload (n := 40) dX9_findHeard_65 (kf_8_3 hx1) g21 ?_
      refine WP_l2i dX9_findHeard_66 ?_
      refine WQ_nm0 (fun v22 e22 => ?_)
      replace h := h v22 e22
      refine WP_istore (L' := [(2, 0), (2, x1), (0, x2), (0, x3), (0, x4), (0, x5), (0, x6), (0, v22)]) dX9_findHeard_67 (by decide) rfl ?_
      refine WP_aload_n dX9_findHeard_69 rfl rfl ⟨Nat.le_of_ble_eq_true rfl, Nat.le_of_ble_eq_true rfl⟩ ?_
      refine WP_getfield (ci := 9) (j := 15) (n := 20) (t := 2) (x := 127) dX9_findHeard_70 f_X9_86 k_0 rfl rfl ?_
      refine WP_iload_n dX9_findHeard_73 rfl rfl ?_
      refine WP_iload dX9_findHeard_74 rfl ?_
      refine WP_bipush dX9_findHeard_76 (by decide +kernel) (by decide) ?_
      obtain ⟨g23, h⟩ := h
      refine WP_idiv dX9_findHeard_78 ⟨g23, by decide⟩ ?_
      refine WQ_invVi (v := (2, 127)) (as := [(0, x2), (0, v22 / 100)]) dX9_findHeard_79 l_X9_404 mw_X3_gapOf mi_X3_gapOf ms_X3_gapOf mo_X3_gapOf (rcv (ci := 3) (n := 9) (r := (RX3, TX3, 9)) k_127 rfl rfl) (Nat.le_of_ble_eq_true rfl) h rfl (fun r24 μ25 h => ?_)
      refine WP_iload dX9_findHeard_82 rfl ?_
      refine WP_bipush dX9_findHeard_84 (by decide +kernel) (by decide) ?_
      obtain ⟨g26, h⟩ := h
      refine WP_irem dX9_findHeard_86 ⟨g26, by decide⟩ ?_
      refine WQ_icmp_ne (tgt := 94) dX9_findHeard_87 (by decide) (fun c27 => ?_) (fun c27 => ?_)
      · replace h := h.1 c27
        refine WP_iconst dX9_findHeard_94 (by decide) ?_
        refine WP_istore (L' := [(2, 0), (2, x1), (0, x2), (0, x3), (0, x4), (0, 0), (0, x6), (0, v22)]) dX9_findHeard_95 (by decide) rfl ?_
        obtain ⟨g28, h⟩ := h
        refine WQ_iinc dX9_findHeard_97 rfl (by decide) g28 (fun v29 e29 => ?_)
        refine WP_same (L' := [(2, 0), (2, x1), (0, x2), (0, x3), (0, x4), (0, 0), (0, v29), (0, v22)]) rfl ?_
        replace h := h v29 e29
        refine WP_goto (tgt := 45) dX9_findHeard_100 (by decide) ?_
        refine WP_lforget (L' := [(2, 0), (2, x1), (0, x2), (0, x3), (0, x4), (0, 0), (0, v29), (9, 0)]) rfl (fun i hi => ?_) h
        match i, hi with
        | 0, _ => exact Or.inl rfl
        | 1, _ => exact Or.inl rfl
        | 2, _ => exact Or.inl rfl
        | 3, _ => exact Or.inl rfl
        | 4, _ => exact Or.inl rfl
        | 5, _ => exact Or.inl rfl
        | 6, _ => exact Or.inl rfl
        | 7, _ => exact Or.inr rfl
        | i + 8, hi => exact absurd hi (by simp only [List.length_cons, List.length_nil]; omega)
      · replace h := h.2 c27
        refine WP_iconst dX9_findHeard_90 (by decide) ?_
        refine WP_goto (tgt := 95) dX9_findHeard_91 (by decide) ?_
        refine WP_istore (L' := [(2, 0), (2, x1), (0, x2), (0, x3), (0, x4), (0, 1), (0, x6), (0, v22)]) dX9_findHeard_95 (by decide) rfl ?_
        obtain ⟨g30, h⟩ := h
        refine WQ_iinc dX9_findHeard_97 rfl (by decide) g30 (fun v31 e31 => ?_)
        refine WP_same (L' := [(2, 0), (2, x1), (0, x2), (0, x3), (0, x4), (0, 1), (0, v31), (0, v22)]) rfl ?_
        replace h := h v31 e31
        refine WP_goto (tgt := 45) dX9_findHeard_100 (by decide) ?_
        refine WP_lforget (L' := [(2, 0), (2, x1), (0, x2), (0, x3), (0, x4), (0, 1), (0, v31), (9, 0)]) rfl (fun i hi => ?_) h
        match i, hi with
        | 0, _ => exact Or.inl rfl
        | 1, _ => exact Or.inl rfl
        | 2, _ => exact Or.inl rfl
        | 3, _ => exact Or.inl rfl
        | 4, _ => exact Or.inl rfl
        | 5, _ => exact Or.inl rfl
        | 6, _ => exact Or.inl rfl
        | 7, _ => exact Or.inr rfl
        | i + 8, hi => exact absurd hi (by simp only [List.length_cons, List.length_nil]; omega)

theorem s_X9_findStops_0 {d : Nat} {sc : SC} {Q : Int → Mem → Prop} {μ : Mem} {a1 a2 a3 : Int}
    (h : CAi mX0_hasHiccup d sc [(2, 105), (0, a1), (0, a2)] μ (fun r1 μ2 => isK 1 (μ2 0 2) ∧ CAv mX6_copyFrom d sc [(2, 121), (2, μ2 0 2 + 7)] μ2 (fun μ5 => WQ mX9_findStops d sc (ZI sc Q) 31 [(2, 0), (0, a1), (0, a2), (0, a3), (0, r1), (0, 0), (0, 0), (9, 0), (9, 0), (9, 0)] [] μ5))) :
    WQ mX9_findStops d sc (ZI sc Q) 0 [(2, 0), (0, a1), (0, a2), (0, a3), (9, 0), (9, 0), (9, 0), (9, 0), (9, 0), (9, 0)] [] μ := by
  refine WP_aload_n dX9_findStops_0 rfl rfl ⟨Nat.le_of_ble_eq_true rfl, Nat.le_of_ble_eq_true rfl⟩ ?_
  refine WP_getfield (ci := 9) (j := 11) (n := 20) (t := 2) (x := 105) dX9_findStops_1 f_X9_61 k_0 rfl rfl ?_
  refine WP_iload_n dX9_findStops_4 rfl rfl ?_
  refine WP_iload_n dX9_findStops_5 rfl rfl ?_
  refine WQ_invVi (v := (2, 105)) (as := [(0, a1), (0, a2)]) dX9_findStops_6 l_X9_398 mw_X0_hasHiccup mi_X0_hasHiccup ms_X0_hasHiccup mo_X0_hasHiccup (rcv (ci := 0) (n := 16) (r := (RX0, TX0, 16)) k_105 rfl rfl) (Nat.le_of_ble_eq_true rfl) h rfl (fun r1 μ2 h => ?_)
  refine WP_istore (L' := [(2, 0), (0, a1), (0, a2), (0, a3), (0, r1), (9, 0), (9, 0), (9, 0), (9, 0), (9, 0)]) dX9_findStops_9 (by decide) rfl ?_
  refine WP_aload_n dX9_findStops_11 rfl rfl ⟨Nat.le_of_ble_eq_true rfl, Nat.le_of_ble_eq_true rfl⟩ ?_
  refine WP_getfield (ci := 9) (j := 14) (n := 20) (t := 2) (x := 121) dX9_findStops_12 f_X9_82 k_0 rfl rfl ?_
  refine WP_aload_n dX9_findStops_15 rfl rfl ⟨Nat.le_of_ble_eq_true rfl, Nat.le_of_ble_eq_true rfl⟩ ?_
  refine WP_getfield (ci := 9) (j := 2) (n := 20) (t := 2) (x := μ2 0 2) dX9_findStops_16 f_X9_16 k_0 rfl rfl ?_
  obtain ⟨g3, h⟩ := h
  refine WP_getfield (ci := 1) (j := 10) (n := 11) (t := 2) (x := μ2 0 2 + 7) dX9_findStops_19 f_X9_131 g3 rfl rfl ?_
  refine WQ_invVv (v := (2, 121)) (as := [(2, μ2 0 2 + 7)]) dX9_findStops_22 l_X9_176 mw_X6_copyFrom mi_X6_copyFrom ms_X6_copyFrom mo_X6_copyFrom (rcv (ci := 6) (n := 7) (r := (RX6, TX6, 7)) k_121 rfl rfl) (Nat.le_of_ble_eq_true rfl) h rfl (fun μ5 h => ?_)
  refine WP_iconst dX9_findStops_25 (by decide) ?_
  refine WP_istore (L' := [(2, 0), (0, a1), (0, a2), (0, a3), (0, r1), (0, 0), (9, 0), (9, 0), (9, 0), (9, 0)]) dX9_findStops_26 (by decide) rfl ?_
  refine WP_iconst dX9_findStops_28 (by decide) ?_
  refine WP_istore (L' := [(2, 0), (0, a1), (0, a2), (0, a3), (0, r1), (0, 0), (0, 0), (9, 0), (9, 0), (9, 0)]) dX9_findStops_29 (by decide) rfl ?_
  exact h

theorem s_X9_findStops_31 {d : Nat} {sc : SC} {Q : Int → Mem → Prop} {μ : Mem} {x1 x2 x3 x4 x5 x6 : Int}
    (h : (600 ≤ x6 → (x3 ≠ (-1) → Q (-1) μ) ∧ (x3 = (-1) → Q x5 μ)) ∧ (x6 < 600 → 0 ≤ x6 ∧ (∀ v4 : Int, v4 = x6 % 6 → 0 ≤ x6 ∧ (∀ v6 : Int, v6 = x6 / 6 → isK 1 (μ 0 2) ∧ (μ (μ 0 2) 3 ≤ v4 → (-2147483648 ≤ x6 + 1 ∧ x6 + 1 < 2147483648) ∧ ∀ v10 : Int, v10 = x6 + 1 → WQ mX9_findStops d sc (ZI sc Q) 31 [(2, 0), (0, x1), (0, x2), (0, x3), (0, x4), (0, x5), (0, v10), (9, 0), (9, 0), (9, 0)] [] μ) ∧ (v4 < μ (μ 0 2) 3 → (v4 = x1 → (-2147483648 ≤ x6 + 1 ∧ x6 + 1 < 2147483648) ∧ ∀ v13 : Int, v13 = x6 + 1 → WQ mX9_findStops d sc (ZI sc Q) 31 [(2, 0), (0, x1), (0, x2), (0, x3), (0, x4), (0, x5), (0, v13), (9, 0), (9, 0), (9, 0)] [] μ) ∧ (v4 ≠ x1 → (x2 ≤ v6 → WQ mX9_findStops d sc (ZI sc Q) 141 [(2, 0), (0, x1), (0, x2), (0, x3), (0, x4), (0, x5), (0, x6), (0, v4), (0, v6), (0, x4)] [] μ) ∧ (v6 < x2 → ∀ μ15, μ15 = mup μ 121 0 (μ (μ 0 2 + 7) 0) → CAv mX6_add d sc [(2, 121), (0, v4), (0, x1), (0, v6), (0, 10)] μ15 (fun μ17 => CAi mX0_run d sc [(2, 135), (2, 121), (2, 97), (0, x2), (0, (-1))] μ17 (fun r18 μ19 => CAi mX0_hasHiccup d sc [(2, 135), (0, x1), (0, x2)] μ19 (fun r20 μ21 => WQ mX9_findStops d sc (ZI sc Q) 141 [(2, 0), (0, x1), (0, x2), (0, x3), (0, x4), (0, x5), (0, x6), (0, v4), (0, v6), (0, r20)] [] μ21)))))))))) :
    WQ mX9_findStops d sc (ZI sc Q) 31 [(2, 0), (0, x1), (0, x2), (0, x3), (0, x4), (0, x5), (0, x6), (9, 0), (9, 0), (9, 0)] [] μ := by
  refine WP_iload dX9_findStops_31 rfl ?_
  refine WP_sipush dX9_findStops_33 (by decide +kernel) (by decide) ?_
  refine WQ_icmp_ge (tgt := 182) dX9_findStops_36 (by decide) (fun c1 => ?_) (fun c1 => ?_)
  · replace h := h.1 c1
    refine WP_iload_n dX9_findStops_182 rfl rfl ?_
    refine WP_iconst dX9_findStops_183 (by decide) ?_
    refine WQ_icmp_ne (tgt := 192) dX9_findStops_184 (by decide) (fun c2 => ?_) (fun c2 => ?_)
    · replace h := h.1 c2
      refine WP_iconst dX9_findStops_192 (by decide) ?_
      exact WQ_ireturn dX9_findStops_193 rfl h
    · replace h := h.2 c2
      refine WP_iload dX9_findStops_187 rfl ?_
      refine WP_goto (tgt := 193) dX9_findStops_189 (by decide) ?_
      exact WQ_ireturn dX9_findStops_193 rfl h
  · replace h := h.2 c1
    refine WP_iload dX9_findStops_39 rfl ?_
    refine WP_bipush dX9_findStops_41 (by decide +kernel) (by decide) ?_
    obtain ⟨g3, h⟩ := h
    refine WP_irem dX9_findStops_43 ⟨g3, by decide⟩ ?_
    refine WQ_nm0 (fun v4 e4 => ?_)
    replace h := h v4 e4
    refine WP_istore (L' := [(2, 0), (0, x1), (0, x2), (0, x3), (0, x4), (0, x5), (0, x6), (0, v4), (9, 0), (9, 0)]) dX9_findStops_44 (by decide) rfl ?_
    refine WP_iload dX9_findStops_46 rfl ?_
    refine WP_bipush dX9_findStops_48 (by decide +kernel) (by decide) ?_
    obtain ⟨g5, h⟩ := h
    refine WP_idiv dX9_findStops_50 ⟨g5, by decide⟩ ?_
    refine WQ_nm0 (fun v6 e6 => ?_)
    replace h := h v6 e6
    refine WP_istore (L' := [(2, 0), (0, x1), (0, x2), (0, x3), (0, x4), (0, x5), (0, x6), (0, v4), (0, v6), (9, 0)]) dX9_findStops_51 (by decide) rfl ?_
    refine WP_iload dX9_findStops_53 rfl ?_
    refine WP_aload_n dX9_findStops_55 rfl rfl ⟨Nat.le_of_ble_eq_true rfl, Nat.le_of_ble_eq_true rfl⟩ ?_
    refine WP_getfield (ci := 9) (j := 2) (n := 20) (t := 2) (x := μ 0 2) dX9_findStops_56 f_X9_16 k_0 rfl rfl ?_
    obtain ⟨g7, h⟩ := h
    refine WP_getfield (ci := 1) (j := 3) (n := 11) (t := 0) (x := μ (μ 0 2) 3) dX9_findStops_59 f_X9_241 g7 rfl rfl ?_
    refine WQ_icmp_ge (tgt := 176) dX9_findStops_62 (by decide) (fun c8 => ?_) (fun c8 => ?_)
    · replace h := h.1 c8
      obtain ⟨g9, h⟩ := h
      refine WQ_iinc dX9_findStops_176 rfl (by decide) g9 (fun v10 e10 => ?_)
      refine WP_same (L' := [(2, 0), (0, x1), (0, x2), (0, x3), (0, x4), (0, x5), (0, v10), (0, v4), (0, v6), (9, 0)]) rfl ?_
      replace h := h v10 e10
      refine WP_goto (tgt := 31) dX9_findStops_179 (by decide) ?_
      refine WP_lforget (L' := [(2, 0), (0, x1), (0, x2), (0, x3), (0, x4), (0, x5), (0, v10), (9, 0), (9, 0), (9, 0)]) rfl (fun i hi => ?_) h
      match i, hi with
      | 0, _ => exact Or.inl rfl
      | 1, _ => exact Or.inl rfl
      | 2, _ => exact Or.inl rfl
      | 3, _ => exact Or.inl rfl
      | 4, _ => exact Or.inl rfl
      | 5, _ => exact Or.inl rfl
      | 6, _ => exact Or.inl rfl
      | 7, _ => exact Or.inr rfl
      | 8, _ => exact Or.inr rfl
      | 9, _ => exact Or.inl rfl
      | i + 10, hi => exact absurd hi (by simp only [List.length_cons, List.length_nil]; omega)
    · replace h := h.2 c8
      refine WP_iload dX9_findStops_65 rfl ?_
      refine WP_iload_n dX9_findStops_67 rfl rfl ?_
      refine WQ_icmp_eq (tgt := 176) dX9_findStops_68 (by decide) (fun c11 => ?_) (fun c11 => ?_)
      · replace h := h.1 c11
        obtain ⟨g12, h⟩ := h
        refine WQ_iinc dX9_findStops_176 rfl (by decide) g12 (fun v13 e13 => ?_)
        refine WP_same (L' := [(2, 0), (0, x1), (0, x2), (0, x3), (0, x4), (0, x5), (0, v13), (0, v4), (0, v6), (9, 0)]) rfl ?_
        replace h := h v13 e13
        refine WP_goto (tgt := 31) dX9_findStops_179 (by decide) ?_
        refine WP_lforget (L' := [(2, 0), (0, x1), (0, x2), (0, x3), (0, x4), (0, x5), (0, v13), (9, 0), (9, 0), (9, 0)]) rfl (fun i hi => ?_) h
        match i, hi with
        | 0, _ => exact Or.inl rfl
        | 1, _ => exact Or.inl rfl
        | 2, _ => exact Or.inl rfl
        | 3, _ => exact Or.inl rfl
        | 4, _ => exact Or.inl rfl
        | 5, _ => exact Or.inl rfl
        | 6, _ => exact Or.inl rfl
        | 7, _ => exact Or.inr rfl
        | 8, _ => exact Or.inr rfl
        | 9, _ => exact Or.inl rfl
        | i + 10, hi => exact absurd hi (by simp only [List.length_cons, List.length_nil]; omega)
      · replace h := h.2 c11
        refine WP_iload dX9_findStops_71 rfl ?_
        refine WP_istore (L' := [(2, 0), (0, x1), (0, x2), (0, x3), (0, x4), (0, x5), (0, x6), (0, v4), (0, v6), (0, x4)]) dX9_findStops_73 (by decide) rfl ?_
        refine WP_iload dX9_findStops_75 rfl ?_
        refine WP_iload_n dX9_findStops_77 rfl rfl ?_
        refine WQ_icmp_ge (tgt := 141) dX9_findStops_78 (by decide) (fun c14 => ?_) (fun c14 => ?_)
        · replace h := h.1 c14
          exact h
        · replace h := h.2 c14
          refine WP_aload_n dX9_findStops_81 rfl rfl ⟨Nat.le_of_ble_eq_true rfl, Nat.le_of_ble_eq_true rfl⟩ ?_
          refine WP_getfield (ci := 9) (j := 14) (n := 20) (t := 2) (x := 121) dX9_findStops_82 f_X9_82 k_0 rfl rfl ?_
          refine WP_aload_n dX9_findStops_85 rfl rfl ⟨Nat.le_of_ble_eq_true rfl, Nat.le_of_ble_eq_true rfl⟩ ?_
          refine WP_getfield (ci := 9) (j := 2) (n := 20) (t := 2) (x := μ 0 2) dX9_findStops_86 f_X9_16 k_0 rfl rfl ?_
          refine WP_getfield (ci := 1) (j := 10) (n := 11) (t := 2) (x := μ 0 2 + 7) dX9_findStops_89 f_X9_131 g7 rfl rfl ?_
          refine WP_getfield (ci := 6) (j := 0) (n := 7) (t := 0) (x := μ (μ 0 2 + 7) 0) dX9_findStops_92 f_X9_146 (kf_1_10 g7) rfl rfl ?_
          refine WQ_put (ci := 6) (j := 0) (n := 7) dX9_findStops_95 f_X9_146 k_121 rfl (fun μ15 eμ15 => ?_)
          replace h := h μ15 eμ15
          refine WP_aload_n dX9_findStops_98 rfl rfl ⟨Nat.le_of_ble_eq_true rfl, Nat.le_of_ble_eq_true rfl⟩ ?_
          refine WP_getfield (ci := 9) (j := 14) (n := 20) (t := 2) (x := 121) dX9_findStops_99 f_X9_82 k_0 rfl rfl ?_
          refine WP_iload dX9_findStops_102 rfl ?_
          refine WP_iload_n dX9_findStops_104 rfl rfl ?_
          refine WP_iload dX9_findStops_105 rfl ?_
          refine WP_bipush dX9_findStops_107 (by decide +kernel) (by decide) ?_
          refine WQ_invVv (v := (2, 121)) (as := [(0, v4), (0, x1), (0, v6), (0, 10)]) dX9_findStops_109 l_X9_382 mw_X6_add mi_X6_add ms_X6_add mo_X6_add (rcv (ci := 6) (n := 7) (r := (RX6, TX6, 7)) k_121 rfl rfl) (Nat.le_of_ble_eq_true rfl) h rfl (fun μ17 h => ?_)
          refine WP_aload_n dX9_findStops_112 rfl rfl ⟨Nat.le_of_ble_eq_true rfl, Nat.le_of_ble_eq_true rfl⟩ ?_
          refine WP_getfield (ci := 9) (j := 16) (n := 20) (t := 2) (x := 135) dX9_findStops_113 f_X9_89 k_0 rfl rfl ?_
          refine WP_aload_n dX9_findStops_116 rfl rfl ⟨Nat.le_of_ble_eq_true rfl, Nat.le_of_ble_eq_true rfl⟩ ?_
          refine WP_getfield (ci := 9) (j := 14) (n := 20) (t := 2) (x := 121) dX9_findStops_117 f_X9_82 k_0 rfl rfl ?_
          refine WP_aload_n dX9_findStops_120 rfl rfl ⟨Nat.le_of_ble_eq_true rfl, Nat.le_of_ble_eq_true rfl⟩ ?_
          refine WP_getfield (ci := 9) (j := 10) (n := 20) (t := 2) (x := 97) dX9_findStops_121 f_X9_54 k_0 rfl rfl ?_
          refine WP_iload_n dX9_findStops_124 rfl rfl ?_
          refine WP_iconst dX9_findStops_125 (by decide) ?_
          refine WQ_invVi (v := (2, 135)) (as := [(2, 121), (2, 97), (0, x2), (0, (-1))]) dX9_findStops_126 l_X9_234 mw_X0_run mi_X0_run ms_X0_run mo_X0_run (rcv (ci := 0) (n := 16) (r := (RX0, TX0, 16)) k_135 rfl rfl) (Nat.le_of_ble_eq_true rfl) h rfl (fun r18 μ19 h => ?_)
          refine WP_pop dX9_findStops_129 (by simp) ?_
          refine WP_aload_n dX9_findStops_130 rfl rfl ⟨Nat.le_of_ble_eq_true rfl, Nat.le_of_ble_eq_true rfl⟩ ?_
          refine WP_getfield (ci := 9) (j := 16) (n := 20) (t := 2) (x := 135) dX9_findStops_131 f_X9_89 k_0 rfl rfl ?_
          refine WP_iload_n dX9_findStops_134 rfl rfl ?_
          refine WP_iload_n dX9_findStops_135 rfl rfl ?_
          refine WQ_invVi (v := (2, 135)) (as := [(0, x1), (0, x2)]) dX9_findStops_136 l_X9_398 mw_X0_hasHiccup mi_X0_hasHiccup ms_X0_hasHiccup mo_X0_hasHiccup (rcv (ci := 0) (n := 16) (r := (RX0, TX0, 16)) k_135 rfl rfl) (Nat.le_of_ble_eq_true rfl) h rfl (fun r20 μ21 h => ?_)
          refine WP_istore (L' := [(2, 0), (0, x1), (0, x2), (0, x3), (0, x4), (0, x5), (0, x6), (0, v4), (0, v6), (0, r20)]) dX9_findStops_139 (by decide) rfl ?_
          exact h

theorem s_X9_findStops_141 {d : Nat} {sc : SC} {Q : Int → Mem → Prop} {μ : Mem} {x1 x2 x3 x4 x5 x6 x7 x8 x9 : Int}
    (h : (x9 = 0 → (x9 = 0 → (-2147483648 ≤ x5 + 0 ∧ x5 + 0 < 2147483648) ∧ (∀ v4 : Int, v4 = x5 + 0 → (-2147483648 ≤ x6 + 1 ∧ x6 + 1 < 2147483648) ∧ ∀ v6 : Int, v6 = x6 + 1 → WQ mX9_findStops d sc (ZI sc Q) 31 [(2, 0), (0, x1), (0, x2), (0, x3), (0, x4), (0, v4), (0, v6), (9, 0), (9, 0), (9, 0)] [] μ)) ∧ (x9 ≠ 0 → (-2147483648 ≤ x5 + 1 ∧ x5 + 1 < 2147483648) ∧ (∀ v8 : Int, v8 = x5 + 1 → (-2147483648 ≤ x6 + 1 ∧ x6 + 1 < 2147483648) ∧ ∀ v10 : Int, v10 = x6 + 1 → WQ mX9_findStops d sc (ZI sc Q) 31 [(2, 0), (0, x1), (0, x2), (0, x3), (0, x4), (0, v8), (0, v10), (9, 0), (9, 0), (9, 0)] [] μ))) ∧ (x9 ≠ 0 → (x5 ≠ x3 → (x9 = 0 → (-2147483648 ≤ x5 + 0 ∧ x5 + 0 < 2147483648) ∧ (∀ v14 : Int, v14 = x5 + 0 → (-2147483648 ≤ x6 + 1 ∧ x6 + 1 < 2147483648) ∧ ∀ v16 : Int, v16 = x6 + 1 → WQ mX9_findStops d sc (ZI sc Q) 31 [(2, 0), (0, x1), (0, x2), (0, x3), (0, x4), (0, v14), (0, v16), (9, 0), (9, 0), (9, 0)] [] μ)) ∧ (x9 ≠ 0 → (-2147483648 ≤ x5 + 1 ∧ x5 + 1 < 2147483648) ∧ (∀ v18 : Int, v18 = x5 + 1 → (-2147483648 ≤ x6 + 1 ∧ x6 + 1 < 2147483648) ∧ ∀ v20 : Int, v20 = x6 + 1 → WQ mX9_findStops d sc (ZI sc Q) 31 [(2, 0), (0, x1), (0, x2), (0, x3), (0, x4), (0, v18), (0, v20), (9, 0), (9, 0), (9, 0)] [] μ))) ∧ (x5 = x3 → (-2147483648 ≤ x8 * 100 ∧ x8 * 100 < 2147483648) ∧ (-2147483648 ≤ (x8 * 100) + x7 ∧ (x8 * 100) + x7 < 2147483648) ∧ Q ((x8 * 100) + x7) μ))) :
    WQ mX9_findStops d sc (ZI sc Q) 141 [(2, 0), (0, x1), (0, x2), (0, x3), (0, x4), (0, x5), (0, x6), (0, x7), (0, x8), (0, x9)] [] μ := by
  refine WP_iload dX9_findStops_141 rfl ?_
  refine WQ_ifeq (tgt := 161) dX9_findStops_143 (by decide) (fun c1 => ?_) (fun c1 => ?_)
  · replace h := h.1 c1
    refine WP_iload dX9_findStops_161 rfl ?_
    refine WP_iload dX9_findStops_163 rfl ?_
    refine WQ_ifeq (tgt := 172) dX9_findStops_165 (by decide) (fun c2 => ?_) (fun c2 => ?_)
    · replace h := h.1 c2
      refine WP_iconst dX9_findStops_172 (by decide) ?_
      obtain ⟨g3, h⟩ := h
      refine WP_iadd dX9_findStops_173 g3 ?_
      refine WQ_nm0 (fun v4 e4 => ?_)
      replace h := h v4 e4
      refine WP_istore (L' := [(2, 0), (0, x1), (0, x2), (0, x3), (0, x4), (0, v4), (0, x6), (0, x7), (0, x8), (0, x9)]) dX9_findStops_174 (by decide) rfl ?_
      obtain ⟨g5, h⟩ := h
      refine WQ_iinc dX9_findStops_176 rfl (by decide) g5 (fun v6 e6 => ?_)
      refine WP_same (L' := [(2, 0), (0, x1), (0, x2), (0, x3), (0, x4), (0, v4), (0, v6), (0, x7), (0, x8), (0, x9)]) rfl ?_
      replace h := h v6 e6
      refine WP_goto (tgt := 31) dX9_findStops_179 (by decide) ?_
      refine WP_lforget (L' := [(2, 0), (0, x1), (0, x2), (0, x3), (0, x4), (0, v4), (0, v6), (9, 0), (9, 0), (9, 0)]) rfl (fun i hi => ?_) h
      match i, hi with
      | 0, _ => exact Or.inl rfl
      | 1, _ => exact Or.inl rfl
      | 2, _ => exact Or.inl rfl
      | 3, _ => exact Or.inl rfl
      | 4, _ => exact Or.inl rfl
      | 5, _ => exact Or.inl rfl
      | 6, _ => exact Or.inl rfl
      | 7, _ => exact Or.inr rfl
      | 8, _ => exact Or.inr rfl
      | 9, _ => exact Or.inr rfl
      | i + 10, hi => exact absurd hi (by simp only [List.length_cons, List.length_nil]; omega)
    · replace h := h.2 c2
      refine WP_iconst dX9_findStops_168 (by decide) ?_
      refine WP_goto (tgt := 173) dX9_findStops_169 (by decide) ?_
      obtain ⟨g7, h⟩ := h
      refine WP_iadd dX9_findStops_173 g7 ?_
      refine WQ_nm0 (fun v8 e8 => ?_)
      replace h := h v8 e8
      refine WP_istore (L' := [(2, 0), (0, x1), (0, x2), (0, x3), (0, x4), (0, v8), (0, x6), (0, x7), (0, x8), (0, x9)]) dX9_findStops_174 (by decide) rfl ?_
      obtain ⟨g9, h⟩ := h
      refine WQ_iinc dX9_findStops_176 rfl (by decide) g9 (fun v10 e10 => ?_)
      refine WP_same (L' := [(2, 0), (0, x1), (0, x2), (0, x3), (0, x4), (0, v8), (0, v10), (0, x7), (0, x8), (0, x9)]) rfl ?_
      replace h := h v10 e10
      refine WP_goto (tgt := 31) dX9_findStops_179 (by decide) ?_
      refine WP_lforget (L' := [(2, 0), (0, x1), (0, x2), (0, x3), (0, x4), (0, v8), (0, v10), (9, 0), (9, 0), (9, 0)]) rfl (fun i hi => ?_) h
      match i, hi with
      | 0, _ => exact Or.inl rfl
      | 1, _ => exact Or.inl rfl
      | 2, _ => exact Or.inl rfl
      | 3, _ => exact Or.inl rfl
      | 4, _ => exact Or.inl rfl
      | 5, _ => exact Or.inl rfl
      | 6, _ => exact Or.inl rfl
      | 7, _ => exact Or.inr rfl
      | 8, _ => exact Or.inr rfl
      | 9, _ => exact Or.inr rfl
      | i + 10, hi => exact absurd hi (by simp only [List.length_cons, List.length_nil]; omega)
  · replace h := h.2 c1
    refine WP_iload dX9_findStops_146 rfl ?_
    refine WP_iload_n dX9_findStops_148 rfl rfl ?_
    refine WQ_icmp_ne (tgt := 161) dX9_findStops_149 (by decide) (fun c11 => ?_) (fun c11 => ?_)
    · replace h := h.1 c11
      refine WP_iload dX9_findStops_161 rfl ?_
      refine WP_iload dX9_findStops_163 rfl ?_
      refine WQ_ifeq (tgt := 172) dX9_findStops_165 (by decide) (fun c12 => ?_) (fun c12 => ?_)
      · replace h := h.1 c12
        refine WP_iconst dX9_findStops_172 (by decide) ?_
        obtain ⟨g13, h⟩ := h
        refine WP_iadd dX9_findStops_173 g13 ?_
        refine WQ_nm0 (fun v14 e14 => ?_)
        replace h := h v14 e14
        refine WP_istore (L' := [(2, 0), (0, x1), (0, x2), (0, x3), (0, x4), (0, v14), (0, x6), (0, x7), (0, x8), (0, x9)]) dX9_findStops_174 (by decide) rfl ?_
        obtain ⟨g15, h⟩ := h
        refine WQ_iinc dX9_findStops_176 rfl (by decide) g15 (fun v16 e16 => ?_)
        refine WP_same (L' := [(2, 0), (0, x1), (0, x2), (0, x3), (0, x4), (0, v14), (0, v16), (0, x7), (0, x8), (0, x9)]) rfl ?_
        replace h := h v16 e16
        refine WP_goto (tgt := 31) dX9_findStops_179 (by decide) ?_
        refine WP_lforget (L' := [(2, 0), (0, x1), (0, x2), (0, x3), (0, x4), (0, v14), (0, v16), (9, 0), (9, 0), (9, 0)]) rfl (fun i hi => ?_) h
        match i, hi with
        | 0, _ => exact Or.inl rfl
        | 1, _ => exact Or.inl rfl
        | 2, _ => exact Or.inl rfl
        | 3, _ => exact Or.inl rfl
        | 4, _ => exact Or.inl rfl
        | 5, _ => exact Or.inl rfl
        | 6, _ => exact Or.inl rfl
        | 7, _ => exact Or.inr rfl
        | 8, _ => exact Or.inr rfl
        | 9, _ => exact Or.inr rfl
        | i + 10, hi => exact absurd hi (by simp only [List.length_cons, List.length_nil]; omega)
      · replace h := h.2 c12
        refine WP_iconst dX9_findStops_168 (by decide) ?_
        refine WP_goto (tgt := 173) dX9_findStops_169 (by decide) ?_
        obtain ⟨g17, h⟩ := h
        refine WP_iadd dX9_findStops_173 g17 ?_
        refine WQ_nm0 (fun v18 e18 => ?_)
        replace h := h v18 e18
        refine WP_istore (L' := [(2, 0), (0, x1), (0, x2), (0, x3), (0, x4), (0, v18), (0, x6), (0, x7), (0, x8), (0, x9)]) dX9_findStops_174 (by decide) rfl ?_
        obtain ⟨g19, h⟩ := h
        refine WQ_iinc dX9_findStops_176 rfl (by decide) g19 (fun v20 e20 => ?_)
        refine WP_same (L' := [(2, 0), (0, x1), (0, x2), (0, x3), (0, x4), (0, v18), (0, v20), (0, x7), (0, x8), (0, x9)]) rfl ?_
        replace h := h v20 e20
        refine WP_goto (tgt := 31) dX9_findStops_179 (by decide) ?_
        refine WP_lforget (L' := [(2, 0), (0, x1), (0, x2), (0, x3), (0, x4), (0, v18), (0, v20), (9, 0), (9, 0), (9, 0)]) rfl (fun i hi => ?_) h
        match i, hi with
        | 0, _ => exact Or.inl rfl
        | 1, _ => exact Or.inl rfl
        | 2, _ => exact Or.inl rfl
        | 3, _ => exact Or.inl rfl
        | 4, _ => exact Or.inl rfl
        | 5, _ => exact Or.inl rfl
        | 6, _ => exact Or.inl rfl
        | 7, _ => exact Or.inr rfl
        | 8, _ => exact Or.inr rfl
        | 9, _ => exact Or.inr rfl
        | i + 10, hi => exact absurd hi (by simp only [List.length_cons, List.length_nil]; omega)
    · replace h := h.2 c11
      refine WP_iload dX9_findStops_152 rfl ?_
      refine WP_bipush dX9_findStops_154 (by decide +kernel) (by decide) ?_
      obtain ⟨g21, h⟩ := h
      refine WP_imul dX9_findStops_156 g21 ?_
      refine WP_iload dX9_findStops_157 rfl ?_
      obtain ⟨g22, h⟩ := h
      refine WP_iadd dX9_findStops_159 g22 ?_
      exact WQ_ireturn dX9_findStops_160 rfl h

theorem s_X9_forgetAnswers_0 {d : Nat} {sc : SC} {Q : Mem → Prop} {μ : Mem}
    (h : ∀ μ1, μ1 = mup μ 0 9 0 → ∀ μ2, μ2 = mup μ1 117 0 0 → ∀ μ3, μ3 = mup μ2 120 0 (-1) → Q μ3) :
    WQ mX9_forgetAnswers d sc (ZV sc Q) 0 [(2, 0)] [] μ := by
  refine WP_aload_n dX9_forgetAnswers_0 rfl rfl ⟨Nat.le_of_ble_eq_true rfl, Nat.le_of_ble_eq_true rfl⟩ ?_
  refine WP_iconst dX9_forgetAnswers_1 (by decide) ?_
  refine WQ_putz (ci := 9) (j := 9) (n := 20) dX9_forgetAnswers_2 f_X9_374 k_0 rfl ⟨by decide, by decide⟩ (fun μ1 eμ1 => ?_)
  replace h := h μ1 eμ1
  refine WP_aload_n dX9_forgetAnswers_5 rfl rfl ⟨Nat.le_of_ble_eq_true rfl, Nat.le_of_ble_eq_true rfl⟩ ?_
  refine WP_getfield (ci := 9) (j := 12) (n := 20) (t := 2) (x := 117) dX9_forgetAnswers_6 f_X9_68 k_0 rfl rfl ?_
  refine WP_iconst dX9_forgetAnswers_9 (by decide) ?_
  refine WQ_putz (ci := 4) (j := 0) (n := 4) dX9_forgetAnswers_10 f_X9_377 k_117 rfl ⟨by decide, by decide⟩ (fun μ2 eμ2 => ?_)
  replace h := h μ2 eμ2
  refine WP_aload_n dX9_forgetAnswers_13 rfl rfl ⟨Nat.le_of_ble_eq_true rfl, Nat.le_of_ble_eq_true rfl⟩ ?_
  refine WP_getfield (ci := 9) (j := 13) (n := 20) (t := 2) (x := 120) dX9_forgetAnswers_14 f_X9_75 k_0 rfl rfl ?_
  refine WP_iconst dX9_forgetAnswers_17 (by decide) ?_
  refine WQ_put (ci := 2) (j := 0) (n := 11) dX9_forgetAnswers_18 f_X9_288 k_120 rfl (fun μ3 eμ3 => ?_)
  replace h := h μ3 eμ3
  exact WQ_return dX9_forgetAnswers_21 rfl h

theorem s_X9_heard_0 {d : Nat} {sc : SC} {Q : Int → Mem → Prop} {μ : Mem} {a1 a2 : Int}
    (h : CAi mX9_refuseHeard d sc [(2, 0), (0, a1), (0, a2)] μ (fun r1 μ2 => (r1 = 0 → (0 ≤ a1 ∧ a1 < 4) ∧ CAi mX9_findHeard d sc [(2, 0), (2, μ2 96 a1), (0, a2)] μ2 (fun r5 μ6 => Q r5 μ6)) ∧ (r1 ≠ 0 → Q r1 μ2))) :
    WQ mX9_heard d sc (ZI sc Q) 0 [(2, 0), (0, a1), (0, a2), (9, 0)] [] μ := by
  refine WP_aload_n dX9_heard_0 rfl rfl ⟨Nat.le_of_ble_eq_true rfl, Nat.le_of_ble_eq_true rfl⟩ ?_
  refine WP_iload_n dX9_heard_1 rfl rfl ?_
  refine WP_iload_n dX9_heard_2 rfl rfl ?_
  refine WQ_invVi (v := (2, 0)) (as := [(0, a1), (0, a2)]) dX9_heard_3 l_X9_310 mw_X9_refuseHeard mi_X9_refuseHeard ms_X9_refuseHeard mo_X9_refuseHeard (rcv (ci := 9) (n := 20) (r := (RX9, TX9, 20)) k_0 rfl rfl) (Nat.le_of_ble_eq_true rfl) h rfl (fun r1 μ2 h => ?_)
  refine WP_istore_n (L' := [(2, 0), (0, a1), (0, a2), (0, r1)]) dX9_heard_6 rfl (by decide) rfl ?_
  refine WP_iload_n dX9_heard_7 rfl rfl ?_
  refine WQ_ifeq (tgt := 15) dX9_heard_8 (by decide) (fun c3 => ?_) (fun c3 => ?_)
  · replace h := h.1 c3
    refine WP_aload_n dX9_heard_15 rfl rfl ⟨Nat.le_of_ble_eq_true rfl, Nat.le_of_ble_eq_true rfl⟩ ?_
    refine WP_aload_n dX9_heard_16 rfl rfl ⟨Nat.le_of_ble_eq_true rfl, Nat.le_of_ble_eq_true rfl⟩ ?_
    refine WP_getfield (ci := 9) (j := 8) (n := 20) (t := 2) (x := 96) dX9_heard_17 f_X9_47 k_0 rfl rfl ?_
    refine WP_iload_n dX9_heard_20 rfl rfl ?_
    obtain ⟨g4, h⟩ := h
    refine WP_aaload (n := 4) (ci := 8) dX9_heard_21 k_96 (by decide) g4 ?_
    refine WP_iload_n dX9_heard_22 rfl rfl ?_
    refine WQ_invVi (v := (2, 0)) (as := [(2, μ2 96 a1), (0, a2)]) dX9_heard_23 l_X9_314 mw_X9_findHeard mi_X9_findHeard ms_X9_findHeard mo_X9_findHeard (rcv (ci := 9) (n := 20) (r := (RX9, TX9, 20)) k_0 rfl rfl) (Nat.le_of_ble_eq_true rfl) h rfl (fun r5 μ6 h => ?_)
    exact WQ_ireturn dX9_heard_26 rfl h
  · replace h := h.2 c3
    refine WP_iload_n dX9_heard_11 rfl rfl ?_
    refine WP_goto (tgt := 26) dX9_heard_12 (by decide) ?_
    exact WQ_ireturn dX9_heard_26 rfl h

theorem s_X9_heardAt_0 {d : Nat} {sc : SC} {Q : Int → Mem → Prop} {μ : Mem} {a1 a2 a3 : Int}
    (h : CAi mX9_refuseHeard d sc [(2, 0), (0, a1), (0, a2)] μ (fun r1 μ2 => (r1 = 0 → (0 ≤ a3 → (0 ≤ a1 ∧ a1 < 4) ∧ CAi mX9_findHeard d sc [(2, 0), (2, μ2 96 a1), (0, a2)] μ2 (fun r6 μ7 => (r6 ≤ a3 → Q (-1) μ7) ∧ (a3 < r6 → (0 ≤ a3 ∧ a3 < 64) ∧ Q (μ7 147 a3) μ7))) ∧ (a3 < 0 → Q (-3) μ2)) ∧ (r1 ≠ 0 → Q r1 μ2))) :
    WQ mX9_heardAt d sc (ZI sc Q) 0 [(2, 0), (0, a1), (0, a2), (0, a3), (9, 0), (9, 0)] [] μ := by
  refine WP_aload_n dX9_heardAt_0 rfl rfl ⟨Nat.le_of_ble_eq_true rfl, Nat.le_of_ble_eq_true rfl⟩ ?_
  refine WP_iload_n dX9_heardAt_1 rfl rfl ?_
  refine WP_iload_n dX9_heardAt_2 rfl rfl ?_
  refine WQ_invVi (v := (2, 0)) (as := [(0, a1), (0, a2)]) dX9_heardAt_3 l_X9_310 mw_X9_refuseHeard mi_X9_refuseHeard ms_X9_refuseHeard mo_X9_refuseHeard (rcv (ci := 9) (n := 20) (r := (RX9, TX9, 20)) k_0 rfl rfl) (Nat.le_of_ble_eq_true rfl) h rfl (fun r1 μ2 h => ?_)
  refine WP_istore (L' := [(2, 0), (0, a1), (0, a2), (0, a3), (0, r1), (9, 0)]) dX9_heardAt_6 (by decide) rfl ?_
  refine WP_iload dX9_heardAt_8 rfl ?_
  refine WQ_ifeq (tgt := 16) dX9_heardAt_10 (by decide) (fun c3 => ?_) (fun c3 => ?_)
  · replace h := h.1 c3
    refine WP_iload_n dX9_heardAt_16 rfl rfl ?_
    refine WQ_ifge (tgt := 23) dX9_heardAt_17 (by decide) (fun c4 => ?_) (fun c4 => ?_)
    · replace h := h.1 c4
      refine WP_aload_n dX9_heardAt_23 rfl rfl ⟨Nat.le_of_ble_eq_true rfl, Nat.le_of_ble_eq_true rfl⟩ ?_
      refine WP_aload_n dX9_heardAt_24 rfl rfl ⟨Nat.le_of_ble_eq_true rfl, Nat.le_of_ble_eq_true rfl⟩ ?_
      refine WP_getfield (ci := 9) (j := 8) (n := 20) (t := 2) (x := 96) dX9_heardAt_25 f_X9_47 k_0 rfl rfl ?_
      refine WP_iload_n dX9_heardAt_28 rfl rfl ?_
      obtain ⟨g5, h⟩ := h
      refine WP_aaload (n := 4) (ci := 8) dX9_heardAt_29 k_96 (by decide) g5 ?_
      refine WP_iload_n dX9_heardAt_30 rfl rfl ?_
      refine WQ_invVi (v := (2, 0)) (as := [(2, μ2 96 a1), (0, a2)]) dX9_heardAt_31 l_X9_314 mw_X9_findHeard mi_X9_findHeard ms_X9_findHeard mo_X9_findHeard (rcv (ci := 9) (n := 20) (r := (RX9, TX9, 20)) k_0 rfl rfl) (Nat.le_of_ble_eq_true rfl) h rfl (fun r6 μ7 h => ?_)
      refine WP_istore (L' := [(2, 0), (0, a1), (0, a2), (0, a3), (0, r1), (0, r6)]) dX9_heardAt_34 (by decide) rfl ?_
      refine WP_iload_n dX9_heardAt_36 rfl rfl ?_
      refine WP_iload dX9_heardAt_37 rfl ?_
      refine WQ_icmp_ge (tgt := 51) dX9_heardAt_39 (by decide) (fun c8 => ?_) (fun c8 => ?_)
      · replace h := h.1 c8
        refine WP_iconst dX9_heardAt_51 (by decide) ?_
        exact WQ_ireturn dX9_heardAt_52 rfl h
      · replace h := h.2 c8
        refine WP_aload_n dX9_heardAt_42 rfl rfl ⟨Nat.le_of_ble_eq_true rfl, Nat.le_of_ble_eq_true rfl⟩ ?_
        refine WP_getfield (ci := 9) (j := 17) (n := 20) (t := 2) (x := 147) dX9_heardAt_43 f_X9_92 k_0 rfl rfl ?_
        refine WP_iload_n dX9_heardAt_46 rfl rfl ?_
        obtain ⟨g9, h⟩ := h
        refine WP_iaload (n := 64) dX9_heardAt_47 k_147 g9 ?_
        refine WP_goto (tgt := 52) dX9_heardAt_48 (by decide) ?_
        exact WQ_ireturn dX9_heardAt_52 rfl h
    · replace h := h.2 c4
      refine WP_bipush dX9_heardAt_20 (by decide +kernel) (by decide) ?_
      exact WQ_ireturn dX9_heardAt_22 rfl h
  · replace h := h.2 c3
    refine WP_iload dX9_heardAt_13 rfl ?_
    exact WQ_ireturn dX9_heardAt_15 rfl h

theorem s_X9_hiccup_0 {d : Nat} {sc : SC} {Q : Int → Mem → Prop} {μ : Mem} {a1 a2 : Int}
    (h : (a2 < 0 → Q (-2) μ) ∧ (0 ≤ a2 → (a2 ≤ 4 → (0 ≤ a1 → CAv mX9_know d sc [(2, 0)] μ (fun μ5 => (a1 < μ5 105 0 → (0 ≤ a1 ∧ a1 < 512) ∧ (∀ v8 : Int, v8 = μ5 106 a1 → (a2 = 0 → 0 ≤ v8 ∧ Q (v8 % 6) μ5) ∧ (a2 = 1 → (0 ≤ a1 ∧ a1 < 512) ∧ Q (μ5 107 a1) μ5) ∧ (a2 = 2 → 0 ≤ v8 ∧ Q (v8 / 6) μ5) ∧ (a2 = 3 → (0 ≤ v8 ∧ v8 < 36) ∧ Q (μ5 100 v8) μ5) ∧ ((a2 ≠ 0 ∧ a2 ≠ 1 ∧ a2 ≠ 2 ∧ a2 ≠ 3) → (0 ≤ v8 ∧ v8 < 36) ∧ Q (μ5 99 v8) μ5))) ∧ (μ5 105 0 ≤ a1 → Q (-1) μ5))) ∧ (a1 < 0 → Q (-3) μ)) ∧ (4 < a2 → Q (-2) μ))) :
    WQ mX9_hiccup d sc (ZI sc Q) 0 [(2, 0), (0, a1), (0, a2), (9, 0)] [] μ := by
  refine WP_iload_n dX9_hiccup_0 rfl rfl ?_
  refine WQ_iflt (tgt := 9) dX9_hiccup_1 (by decide) (fun c1 => ?_) (fun c1 => ?_)
  · replace h := h.1 c1
    refine WP_bipush dX9_hiccup_9 (by decide +kernel) (by decide) ?_
    exact WQ_ireturn dX9_hiccup_11 rfl h
  · replace h := h.2 c1
    refine WP_iload_n dX9_hiccup_4 rfl rfl ?_
    refine WP_iconst dX9_hiccup_5 (by decide) ?_
    refine WQ_icmp_le (tgt := 12) dX9_hiccup_6 (by decide) (fun c2 => ?_) (fun c2 => ?_)
    · replace h := h.1 c2
      refine WP_iload_n dX9_hiccup_12 rfl rfl ?_
      refine WQ_ifge (tgt := 19) dX9_hiccup_13 (by decide) (fun c3 => ?_) (fun c3 => ?_)
      · replace h := h.1 c3
        refine WP_aload_n dX9_hiccup_19 rfl rfl ⟨Nat.le_of_ble_eq_true rfl, Nat.le_of_ble_eq_true rfl⟩ ?_
        refine WQ_invVv (v := (2, 0)) (as := []) dX9_hiccup_20 l_X9_161 mw_X9_know mi_X9_know ms_X9_know mo_X9_know (rcv (ci := 9) (n := 20) (r := (RX9, TX9, 20)) k_0 rfl rfl) (Nat.le_of_ble_eq_true rfl) h rfl (fun μ5 h => ?_)
        refine WP_iload_n dX9_hiccup_23 rfl rfl ?_
        refine WP_aload_n dX9_hiccup_24 rfl rfl ⟨Nat.le_of_ble_eq_true rfl, Nat.le_of_ble_eq_true rfl⟩ ?_
        refine WP_getfield (ci := 9) (j := 11) (n := 20) (t := 2) (x := 105) dX9_hiccup_25 f_X9_61 k_0 rfl rfl ?_
        refine WP_getfield (ci := 0) (j := 0) (n := 16) (t := 0) (x := μ5 105 0) dX9_hiccup_28 f_X9_238 k_105 rfl rfl ?_
        refine WQ_icmp_lt (tgt := 36) dX9_hiccup_31 (by decide) (fun c6 => ?_) (fun c6 => ?_)
        · replace h := h.1 c6
          refine WP_aload_n dX9_hiccup_36 rfl rfl ⟨Nat.le_of_ble_eq_true rfl, Nat.le_of_ble_eq_true rfl⟩ ?_
          refine WP_getfield (ci := 9) (j := 11) (n := 20) (t := 2) (x := 105) dX9_hiccup_37 f_X9_61 k_0 rfl rfl ?_
          refine WP_getfield (ci := 0) (j := 1) (n := 16) (t := 2) (x := 106) dX9_hiccup_40 f_X9_258 k_105 rfl rfl ?_
          refine WP_iload_n dX9_hiccup_43 rfl rfl ?_
          obtain ⟨g7, h⟩ := h
          refine WP_iaload (n := 512) dX9_hiccup_44 k_106 g7 ?_
          refine WQ_nm0 (fun v8 e8 => ?_)
          replace h := h v8 e8
          refine WP_istore_n (L' := [(2, 0), (0, a1), (0, a2), (0, v8)]) dX9_hiccup_45 rfl (by decide) rfl ?_
          refine WP_iload_n dX9_hiccup_46 rfl rfl ?_
          have hD : (a2 ≠ 0 ∧ a2 ≠ 1 ∧ a2 ≠ 2 ∧ a2 ≠ 3) → WQ mX9_hiccup d sc (ZI sc Q) 106 [(2, 0), (0, a1), (0, a2), (0, v8)] [] μ5 := by
            intro c9
            replace h := h.2.2.2.2 c9
            refine WP_aload_n dX9_hiccup_106 rfl rfl ⟨Nat.le_of_ble_eq_true rfl, Nat.le_of_ble_eq_true rfl⟩ ?_
            refine WP_getfield (ci := 9) (j := 10) (n := 20) (t := 2) (x := 97) dX9_hiccup_107 f_X9_54 k_0 rfl rfl ?_
            refine WP_getfield (ci := 3) (j := 1) (n := 9) (t := 2) (x := 99) dX9_hiccup_110 f_X9_167 k_97 rfl rfl ?_
            refine WP_iload_n dX9_hiccup_113 rfl rfl ?_
            obtain ⟨g14, h⟩ := h
            refine WP_iaload (n := 36) dX9_hiccup_114 k_99 g14 ?_
            exact WQ_ireturn dX9_hiccup_115 rfl h
          rcases (show (a2 < 0 ∨ 3 < a2) ∨ a2 = 0 ∨ a2 = 1 ∨ a2 = 2 ∨ a2 = 3 by omega) with c9 | c9 | c9 | c9 | c9
          · exact WP_tableOut (tgt := 106) dX9_hiccup_47 c9 (by decide) (hD (by omega))
          · refine WP_tableIn (tgt := 76) dX9_hiccup_47 (by omega) (by omega) (by rw [c9]; rfl) (by decide) ?_
            replace h := h.1 c9
            refine WP_iload_n dX9_hiccup_76 rfl rfl ?_
            refine WP_bipush dX9_hiccup_77 (by decide +kernel) (by decide) ?_
            obtain ⟨g10, h⟩ := h
            refine WP_irem dX9_hiccup_79 ⟨g10, by decide⟩ ?_
            exact WQ_ireturn dX9_hiccup_80 rfl h
          · refine WP_tableIn (tgt := 81) dX9_hiccup_47 (by omega) (by omega) (by rw [c9]; rfl) (by decide) ?_
            replace h := h.2.1 c9
            refine WP_aload_n dX9_hiccup_81 rfl rfl ⟨Nat.le_of_ble_eq_true rfl, Nat.le_of_ble_eq_true rfl⟩ ?_
            refine WP_getfield (ci := 9) (j := 11) (n := 20) (t := 2) (x := 105) dX9_hiccup_82 f_X9_61 k_0 rfl rfl ?_
            refine WP_getfield (ci := 0) (j := 2) (n := 16) (t := 2) (x := 107) dX9_hiccup_85 f_X9_261 k_105 rfl rfl ?_
            refine WP_iload_n dX9_hiccup_88 rfl rfl ?_
            obtain ⟨g11, h⟩ := h
            refine WP_iaload (n := 512) dX9_hiccup_89 k_107 g11 ?_
            exact WQ_ireturn dX9_hiccup_90 rfl h
          · refine WP_tableIn (tgt := 91) dX9_hiccup_47 (by omega) (by omega) (by rw [c9]; rfl) (by decide) ?_
            replace h := h.2.2.1 c9
            refine WP_iload_n dX9_hiccup_91 rfl rfl ?_
            refine WP_bipush dX9_hiccup_92 (by decide +kernel) (by decide) ?_
            obtain ⟨g12, h⟩ := h
            refine WP_idiv dX9_hiccup_94 ⟨g12, by decide⟩ ?_
            exact WQ_ireturn dX9_hiccup_95 rfl h
          · refine WP_tableIn (tgt := 96) dX9_hiccup_47 (by omega) (by omega) (by rw [c9]; rfl) (by decide) ?_
            replace h := h.2.2.2.1 c9
            refine WP_aload_n dX9_hiccup_96 rfl rfl ⟨Nat.le_of_ble_eq_true rfl, Nat.le_of_ble_eq_true rfl⟩ ?_
            refine WP_getfield (ci := 9) (j := 10) (n := 20) (t := 2) (x := 97) dX9_hiccup_97 f_X9_54 k_0 rfl rfl ?_
            refine WP_getfield (ci := 3) (j := 2) (n := 9) (t := 2) (x := 100) dX9_hiccup_100 f_X9_170 k_97 rfl rfl ?_
            refine WP_iload_n dX9_hiccup_103 rfl rfl ?_
            obtain ⟨g13, h⟩ := h
            refine WP_iaload (n := 36) dX9_hiccup_104 k_100 g13 ?_
            exact WQ_ireturn dX9_hiccup_105 rfl h
        · replace h := h.2 c6
          refine WP_iconst dX9_hiccup_34 (by decide) ?_
          exact WQ_ireturn dX9_hiccup_35 rfl h
      · replace h := h.2 c3
        refine WP_bipush dX9_hiccup_16 (by decide +kernel) (by decide) ?_
        exact WQ_ireturn dX9_hiccup_18 rfl h
    · replace h := h.2 c2
      refine WP_bipush dX9_hiccup_9 (by decide +kernel) (by decide) ?_
      exact WQ_ireturn dX9_hiccup_11 rfl h

theorem s_X9_hiccups_0 {d : Nat} {sc : SC} {Q : Int → Mem → Prop} {μ : Mem} {a1 : Int}
    (h : (a1 = (-1) → CAv mX9_know d sc [(2, 0)] μ (fun μ3 => (a1 ≠ (-1) → (0 ≤ a1 ∧ a1 < 6) ∧ Q (μ3 108 a1) μ3) ∧ (a1 = (-1) → Q (μ3 105 0) μ3))) ∧ (a1 ≠ (-1) → CAi mX9_isPerson d sc [(2, 0), (0, a1)] μ (fun r6 μ7 => (r6 ≠ 0 → CAv mX9_know d sc [(2, 0)] μ7 (fun μ10 => (a1 ≠ (-1) → (0 ≤ a1 ∧ a1 < 6) ∧ Q (μ10 108 a1) μ10) ∧ (a1 = (-1) → Q (μ10 105 0) μ10))) ∧ (r6 = 0 → Q (-2) μ7)))) :
    WQ mX9_hiccups d sc (ZI sc Q) 0 [(2, 0), (0, a1)] [] μ := by
  refine WP_iload_n dX9_hiccups_0 rfl rfl ?_
  refine WP_iconst dX9_hiccups_1 (by decide) ?_
  refine WQ_icmp_eq (tgt := 16) dX9_hiccups_2 (by decide) (fun c1 => ?_) (fun c1 => ?_)
  · replace h := h.1 c1
    refine WP_aload_n dX9_hiccups_16 rfl rfl ⟨Nat.le_of_ble_eq_true rfl, Nat.le_of_ble_eq_true rfl⟩ ?_
    refine WQ_invVv (v := (2, 0)) (as := []) dX9_hiccups_17 l_X9_161 mw_X9_know mi_X9_know ms_X9_know mo_X9_know (rcv (ci := 9) (n := 20) (r := (RX9, TX9, 20)) k_0 rfl rfl) (Nat.le_of_ble_eq_true rfl) h rfl (fun μ3 h => ?_)
    refine WP_iload_n dX9_hiccups_20 rfl rfl ?_
    refine WP_iconst dX9_hiccups_21 (by decide) ?_
    refine WQ_icmp_ne (tgt := 35) dX9_hiccups_22 (by decide) (fun c4 => ?_) (fun c4 => ?_)
    · replace h := h.1 c4
      refine WP_aload_n dX9_hiccups_35 rfl rfl ⟨Nat.le_of_ble_eq_true rfl, Nat.le_of_ble_eq_true rfl⟩ ?_
      refine WP_getfield (ci := 9) (j := 11) (n := 20) (t := 2) (x := 105) dX9_hiccups_36 f_X9_61 k_0 rfl rfl ?_
      refine WP_getfield (ci := 0) (j := 3) (n := 16) (t := 2) (x := 108) dX9_hiccups_39 f_X9_255 k_105 rfl rfl ?_
      refine WP_iload_n dX9_hiccups_42 rfl rfl ?_
      obtain ⟨g5, h⟩ := h
      refine WP_iaload (n := 6) dX9_hiccups_43 k_108 g5 ?_
      exact WQ_ireturn dX9_hiccups_44 rfl h
    · replace h := h.2 c4
      refine WP_aload_n dX9_hiccups_25 rfl rfl ⟨Nat.le_of_ble_eq_true rfl, Nat.le_of_ble_eq_true rfl⟩ ?_
      refine WP_getfield (ci := 9) (j := 11) (n := 20) (t := 2) (x := 105) dX9_hiccups_26 f_X9_61 k_0 rfl rfl ?_
      refine WP_getfield (ci := 0) (j := 0) (n := 16) (t := 0) (x := μ3 105 0) dX9_hiccups_29 f_X9_238 k_105 rfl rfl ?_
      refine WP_goto (tgt := 44) dX9_hiccups_32 (by decide) ?_
      exact WQ_ireturn dX9_hiccups_44 rfl h
  · replace h := h.2 c1
    refine WP_aload_n dX9_hiccups_5 rfl rfl ⟨Nat.le_of_ble_eq_true rfl, Nat.le_of_ble_eq_true rfl⟩ ?_
    refine WP_iload_n dX9_hiccups_6 rfl rfl ?_
    refine WQ_invVi (v := (2, 0)) (as := [(0, a1)]) dX9_hiccups_7 l_X9_127 mw_X9_isPerson mi_X9_isPerson ms_X9_isPerson mo_X9_isPerson (rcv (ci := 9) (n := 20) (r := (RX9, TX9, 20)) k_0 rfl rfl) (Nat.le_of_ble_eq_true rfl) h rfl (fun r6 μ7 h => ?_)
    refine WQ_ifne (tgt := 16) dX9_hiccups_10 (by decide) (fun c8 => ?_) (fun c8 => ?_)
    · replace h := h.1 c8
      refine WP_aload_n dX9_hiccups_16 rfl rfl ⟨Nat.le_of_ble_eq_true rfl, Nat.le_of_ble_eq_true rfl⟩ ?_
      refine WQ_invVv (v := (2, 0)) (as := []) dX9_hiccups_17 l_X9_161 mw_X9_know mi_X9_know ms_X9_know mo_X9_know (rcv (ci := 9) (n := 20) (r := (RX9, TX9, 20)) k_0 rfl rfl) (Nat.le_of_ble_eq_true rfl) h rfl (fun μ10 h => ?_)
      refine WP_iload_n dX9_hiccups_20 rfl rfl ?_
      refine WP_iconst dX9_hiccups_21 (by decide) ?_
      refine WQ_icmp_ne (tgt := 35) dX9_hiccups_22 (by decide) (fun c11 => ?_) (fun c11 => ?_)
      · replace h := h.1 c11
        refine WP_aload_n dX9_hiccups_35 rfl rfl ⟨Nat.le_of_ble_eq_true rfl, Nat.le_of_ble_eq_true rfl⟩ ?_
        refine WP_getfield (ci := 9) (j := 11) (n := 20) (t := 2) (x := 105) dX9_hiccups_36 f_X9_61 k_0 rfl rfl ?_
        refine WP_getfield (ci := 0) (j := 3) (n := 16) (t := 2) (x := 108) dX9_hiccups_39 f_X9_255 k_105 rfl rfl ?_
        refine WP_iload_n dX9_hiccups_42 rfl rfl ?_
        obtain ⟨g12, h⟩ := h
        refine WP_iaload (n := 6) dX9_hiccups_43 k_108 g12 ?_
        exact WQ_ireturn dX9_hiccups_44 rfl h
      · replace h := h.2 c11
        refine WP_aload_n dX9_hiccups_25 rfl rfl ⟨Nat.le_of_ble_eq_true rfl, Nat.le_of_ble_eq_true rfl⟩ ?_
        refine WP_getfield (ci := 9) (j := 11) (n := 20) (t := 2) (x := 105) dX9_hiccups_26 f_X9_61 k_0 rfl rfl ?_
        refine WP_getfield (ci := 0) (j := 0) (n := 16) (t := 0) (x := μ10 105 0) dX9_hiccups_29 f_X9_238 k_105 rfl rfl ?_
        refine WP_goto (tgt := 44) dX9_hiccups_32 (by decide) ?_
        exact WQ_ireturn dX9_hiccups_44 rfl h
    · replace h := h.2 c8
      refine WP_bipush dX9_hiccups_13 (by decide +kernel) (by decide) ?_
      exact WQ_ireturn dX9_hiccups_15 rfl h

theorem s_X9_hill_0 {d : Nat} {sc : SC} {Q : Int → Mem → Prop} {μ : Mem} {a1 : Int}
    (h : (a1 < 0 → Q (-3) μ) ∧ (0 ≤ a1 → (a1 ≤ μ 0 1 → ∀ μ3, μ3 = mup μ 0 1 0 → CAi mX7_read d sc [(2, 28), (2, 1), (0, a1), (2, μ3 0 3)] μ3 (fun r4 μ5 => (r4 ≠ 0 → ∀ μ7, μ7 = mup μ5 0 3 (μ5 0 2) → ∀ μ8, μ8 = mup μ7 0 2 (μ5 0 3) → CAv mX5_forget d sc [(2, 34)] μ8 (fun μ10 => CAv mX9_forgetAnswers d sc [(2, 0)] μ10 (fun μ12 => isK 1 (μ12 0 2) ∧ Q (μ12 (μ12 0 2) 2) μ12))) ∧ (r4 = 0 → (-2147483648 ≤ (-30) - (μ5 28 0) ∧ (-30) - (μ5 28 0) < 2147483648) ∧ Q ((-30) - (μ5 28 0)) μ5))) ∧ (μ 0 1 < a1 → Q (-3) μ))) :
    WQ mX9_hill d sc (ZI sc Q) 0 [(2, 0), (0, a1), (9, 0)] [] μ := by
  refine WP_iload_n dX9_hill_0 rfl rfl ?_
  refine WQ_iflt (tgt := 12) dX9_hill_1 (by decide) (fun c1 => ?_) (fun c1 => ?_)
  · replace h := h.1 c1
    refine WP_bipush dX9_hill_12 (by decide +kernel) (by decide) ?_
    exact WQ_ireturn dX9_hill_14 rfl h
  · replace h := h.2 c1
    refine WP_iload_n dX9_hill_4 rfl rfl ?_
    refine WP_aload_n dX9_hill_5 rfl rfl ⟨Nat.le_of_ble_eq_true rfl, Nat.le_of_ble_eq_true rfl⟩ ?_
    refine WP_getfield (ci := 9) (j := 1) (n := 20) (t := 0) (x := μ 0 1) dX9_hill_6 f_X9_100 k_0 rfl rfl ?_
    refine WQ_icmp_le (tgt := 15) dX9_hill_9 (by decide) (fun c2 => ?_) (fun c2 => ?_)
    · replace h := h.1 c2
      refine WP_aload_n dX9_hill_15 rfl rfl ⟨Nat.le_of_ble_eq_true rfl, Nat.le_of_ble_eq_true rfl⟩ ?_
      refine WP_iconst dX9_hill_16 (by decide) ?_
      refine WQ_put (ci := 9) (j := 1) (n := 20) dX9_hill_17 f_X9_100 k_0 rfl (fun μ3 eμ3 => ?_)
      replace h := h μ3 eμ3
      refine WP_aload_n dX9_hill_20 rfl rfl ⟨Nat.le_of_ble_eq_true rfl, Nat.le_of_ble_eq_true rfl⟩ ?_
      refine WP_getfield (ci := 9) (j := 4) (n := 20) (t := 2) (x := 28) dX9_hill_21 f_X9_26 k_0 rfl rfl ?_
      refine WP_aload_n dX9_hill_24 rfl rfl ⟨Nat.le_of_ble_eq_true rfl, Nat.le_of_ble_eq_true rfl⟩ ?_
      refine WP_getfield (ci := 9) (j := 0) (n := 20) (t := 2) (x := 1) dX9_hill_25 f_X9_9 k_0 rfl rfl ?_
      refine WP_iload_n dX9_hill_28 rfl rfl ?_
      refine WP_aload_n dX9_hill_29 rfl rfl ⟨Nat.le_of_ble_eq_true rfl, Nat.le_of_ble_eq_true rfl⟩ ?_
      refine WP_getfield (ci := 9) (j := 3) (n := 20) (t := 2) (x := μ3 0 3) dX9_hill_30 f_X9_20 k_0 rfl rfl ?_
      refine WQ_invVi (v := (2, 28)) (as := [(2, 1), (0, a1), (2, μ3 0 3)]) dX9_hill_33 l_X9_108 mw_X7_read mi_X7_read ms_X7_read mo_X7_read (rcv (ci := 7) (n := 11) (r := (RX7, TX7, 11)) k_28 rfl rfl) (Nat.le_of_ble_eq_true rfl) h rfl (fun r4 μ5 h => ?_)
      refine WQ_ifne (tgt := 50) dX9_hill_36 (by decide) (fun c6 => ?_) (fun c6 => ?_)
      · replace h := h.1 c6
        refine WP_aload_n dX9_hill_50 rfl rfl ⟨Nat.le_of_ble_eq_true rfl, Nat.le_of_ble_eq_true rfl⟩ ?_
        refine WP_getfield (ci := 9) (j := 3) (n := 20) (t := 2) (x := μ5 0 3) dX9_hill_51 f_X9_20 k_0 rfl rfl ?_
        refine WP_astore_n (L' := [(2, 0), (0, a1), (2, μ5 0 3)]) dX9_hill_54 rfl (by decide) (Nat.le_of_ble_eq_true rfl) rfl ?_
        refine WP_aload_n dX9_hill_55 rfl rfl ⟨Nat.le_of_ble_eq_true rfl, Nat.le_of_ble_eq_true rfl⟩ ?_
        refine WP_aload_n dX9_hill_56 rfl rfl ⟨Nat.le_of_ble_eq_true rfl, Nat.le_of_ble_eq_true rfl⟩ ?_
        refine WP_getfield (ci := 9) (j := 2) (n := 20) (t := 2) (x := μ5 0 2) dX9_hill_57 f_X9_16 k_0 rfl rfl ?_
        refine WQ_put (ci := 9) (j := 3) (n := 20) dX9_hill_60 f_X9_20 k_0 rfl (fun μ7 eμ7 => ?_)
        replace h := h μ7 eμ7
        refine WP_aload_n dX9_hill_63 rfl rfl ⟨Nat.le_of_ble_eq_true rfl, Nat.le_of_ble_eq_true rfl⟩ ?_
        refine WP_aload_n dX9_hill_64 rfl rfl ⟨Nat.le_of_ble_eq_true rfl, Nat.le_of_ble_eq_true rfl⟩ ?_
        refine WQ_put (ci := 9) (j := 2) (n := 20) dX9_hill_65 f_X9_16 k_0 rfl (fun μ8 eμ8 => ?_)
        replace h := h μ8 eμ8
        refine WP_aload_n dX9_hill_68 rfl rfl ⟨Nat.le_of_ble_eq_true rfl, Nat.le_of_ble_eq_true rfl⟩ ?_
        refine WP_getfield (ci := 9) (j := 7) (n := 20) (t := 2) (x := 34) dX9_hill_69 f_X9_41 k_0 rfl rfl ?_
        refine WQ_invVv (v := (2, 34)) (as := []) dX9_hill_72 l_X9_115 mw_X5_forget mi_X5_forget ms_X5_forget mo_X5_forget (rcv (ci := 5) (n := 2) (r := (RX5, TX5, 2)) k_34 rfl rfl) (Nat.le_of_ble_eq_true rfl) h rfl (fun μ10 h => ?_)
        refine WP_aload_n dX9_hill_75 rfl rfl ⟨Nat.le_of_ble_eq_true rfl, Nat.le_of_ble_eq_true rfl⟩ ?_
        refine WQ_invVv (v := (2, 0)) (as := []) dX9_hill_76 l_X9_118 mw_X9_forgetAnswers mi_X9_forgetAnswers ms_X9_forgetAnswers mo_X9_forgetAnswers (rcv (ci := 9) (n := 20) (r := (RX9, TX9, 20)) k_0 rfl rfl) (Nat.le_of_ble_eq_true rfl) h rfl (fun μ12 h => ?_)
        refine WP_aload_n dX9_hill_79 rfl rfl ⟨Nat.le_of_ble_eq_true rfl, Nat.le_of_ble_eq_true rfl⟩ ?_
        refine WP_getfield (ci := 9) (j := 2) (n := 20) (t := 2) (x := μ12 0 2) dX9_hill_80 f_X9_16 k_0 rfl rfl ?_
        obtain ⟨g13, h⟩ := h
        refine WP_getfield (ci := 1) (j := 2) (n := 11) (t := 0) (x := μ12 (μ12 0 2) 2) dX9_hill_83 f_X9_121 g13 rfl rfl ?_
        exact WQ_ireturn dX9_hill_86 rfl h
      · replace h := h.2 c6
        refine WP_bipush dX9_hill_39 (by decide +kernel) (by decide) ?_
        refine WP_aload_n dX9_hill_41 rfl rfl ⟨Nat.le_of_ble_eq_true rfl, Nat.le_of_ble_eq_true rfl⟩ ?_
        refine WP_getfield (ci := 9) (j := 4) (n := 20) (t := 2) (x := 28) dX9_hill_42 f_X9_26 k_0 rfl rfl ?_
        refine WP_getfield (ci := 7) (j := 0) (n := 11) (t := 0) (x := μ5 28 0) dX9_hill_45 f_X9_112 k_28 rfl rfl ?_
        obtain ⟨g14, h⟩ := h
        refine WP_isub dX9_hill_48 g14 ?_
        exact WQ_ireturn dX9_hill_49 rfl h
    · replace h := h.2 c2
      refine WP_bipush dX9_hill_12 (by decide +kernel) (by decide) ?_
      exact WQ_ireturn dX9_hill_14 rfl h

theorem s_X9_image_0 {d : Nat} {sc : SC} {Q : Int → Mem → Prop} {μ : Mem} {a1 : Int}
    (h : CAi mX9_isImage d sc [(0, a1)] μ (fun r1 μ2 => (r1 ≠ 0 → (0 ≤ a1 ∧ a1 < 2) ∧ isK 1 (μ2 32 a1) ∧ CAv mX1_copyFrom d sc [(2, μ2 32 a1), (2, μ2 0 2)] μ2 (fun μ7 => (0 ≤ a1 ∧ a1 < 2) ∧ (∀ μ9, μ9 = mup μ7 33 a1 1 → Q 0 μ9))) ∧ (r1 = 0 → Q (-2) μ2))) :
    WQ mX9_image d sc (ZI sc Q) 0 [(2, 0), (0, a1)] [] μ := by
  refine WP_iload_n dX9_image_0 rfl rfl ?_
  refine WQ_invSi (as := [(0, a1)]) dX9_image_1 l_X9_360 mw_X9_isImage mt_X9_isImage mo_X9_isImage (Nat.le_of_ble_eq_true rfl) h rfl (fun r1 μ2 h => ?_)
  refine WQ_ifne (tgt := 10) dX9_image_4 (by decide) (fun c3 => ?_) (fun c3 => ?_)
  · replace h := h.1 c3
    refine WP_aload_n dX9_image_10 rfl rfl ⟨Nat.le_of_ble_eq_true rfl, Nat.le_of_ble_eq_true rfl⟩ ?_
    refine WP_getfield (ci := 9) (j := 5) (n := 20) (t := 2) (x := 32) dX9_image_11 f_X9_30 k_0 rfl rfl ?_
    refine WP_iload_n dX9_image_14 rfl rfl ?_
    obtain ⟨g4, h⟩ := h
    refine WP_aaload (n := 2) (ci := 1) dX9_image_15 k_32 (by decide) g4 ?_
    refine WP_aload_n dX9_image_16 rfl rfl ⟨Nat.le_of_ble_eq_true rfl, Nat.le_of_ble_eq_true rfl⟩ ?_
    refine WP_getfield (ci := 9) (j := 2) (n := 20) (t := 2) (x := μ2 0 2) dX9_image_17 f_X9_16 k_0 rfl rfl ?_
    obtain ⟨g5, h⟩ := h
    refine WQ_invVv (v := (2, μ2 32 a1)) (as := [(2, μ2 0 2)]) dX9_image_20 l_X9_363 mw_X1_copyFrom mi_X1_copyFrom ms_X1_copyFrom mo_X1_copyFrom (rcv (ci := 1) (n := 11) (r := (RX1, TX1, 11)) g5 rfl rfl) (Nat.le_of_ble_eq_true rfl) h rfl (fun μ7 h => ?_)
    refine WP_aload_n dX9_image_23 rfl rfl ⟨Nat.le_of_ble_eq_true rfl, Nat.le_of_ble_eq_true rfl⟩ ?_
    refine WP_getfield (ci := 9) (j := 6) (n := 20) (t := 2) (x := 33) dX9_image_24 f_X9_34 k_0 rfl rfl ?_
    refine WP_iload_n dX9_image_27 rfl rfl ?_
    refine WP_iconst dX9_image_28 (by decide) ?_
    obtain ⟨g8, h⟩ := h
    refine WQ_zast (n := 2) dX9_image_29 k_33 g8 ⟨by decide, by decide⟩ (fun μ9 eμ9 => ?_)
    replace h := h μ9 eμ9
    refine WP_iconst dX9_image_30 (by decide) ?_
    exact WQ_ireturn dX9_image_31 rfl h
  · replace h := h.2 c3
    refine WP_bipush dX9_image_7 (by decide +kernel) (by decide) ?_
    exact WQ_ireturn dX9_image_9 rfl h

theorem s_X9_isGap_0 {d : Nat} {sc : SC} {Q : Int → Mem → Prop} {μ : Mem} {a0 : Int}
    (h : (a0 < 1 → Q 0 μ) ∧ (1 ≤ a0 → (20 < a0 → Q 0 μ) ∧ (a0 ≤ 20 → Q 1 μ))) :
    WQ mX9_isGap d sc (ZI sc Q) 0 [(1, a0), (9, 0)] [] μ := by
  refine WP_lload_n dX9_isGap_0 rfl rfl ?_
  refine WP_lconst dX9_isGap_1 rfl ?_
  refine WQ_liflt (tgt := 18) dX9_isGap_2 dX9_isGap_3 (by decide) (fun c1 => ?_) (fun c1 => ?_)
  · replace h := h.1 c1
    refine WP_iconst dX9_isGap_18 (by decide) ?_
    exact WQ_zreturn dX9_isGap_19 rfl ⟨by decide, by decide⟩ h
  · replace h := h.2 c1
    refine WP_lload_n dX9_isGap_6 rfl rfl ?_
    refine WP_ldc2 dX9_isGap_7 c_X9_372 (by decide) ?_
    refine WQ_lifgt (tgt := 18) dX9_isGap_10 dX9_isGap_11 (by decide) (fun c2 => ?_) (fun c2 => ?_)
    · replace h := h.1 c2
      refine WP_iconst dX9_isGap_18 (by decide) ?_
      exact WQ_zreturn dX9_isGap_19 rfl ⟨by decide, by decide⟩ h
    · replace h := h.2 c2
      refine WP_iconst dX9_isGap_14 (by decide) ?_
      refine WP_goto (tgt := 19) dX9_isGap_15 (by decide) ?_
      exact WQ_zreturn dX9_isGap_19 rfl ⟨by decide, by decide⟩ h

theorem s_X9_isImage_0 {d : Nat} {sc : SC} {Q : Int → Mem → Prop} {μ : Mem} {a0 : Int}
    (h : (a0 < 0 → Q 0 μ) ∧ (0 ≤ a0 → (2 ≤ a0 → Q 0 μ) ∧ (a0 < 2 → Q 1 μ))) :
    WQ mX9_isImage d sc (ZI sc Q) 0 [(0, a0)] [] μ := by
  refine WP_iload_n dX9_isImage_0 rfl rfl ?_
  refine WQ_iflt (tgt := 13) dX9_isImage_1 (by decide) (fun c1 => ?_) (fun c1 => ?_)
  · replace h := h.1 c1
    refine WP_iconst dX9_isImage_13 (by decide) ?_
    exact WQ_zreturn dX9_isImage_14 rfl ⟨by decide, by decide⟩ h
  · replace h := h.2 c1
    refine WP_iload_n dX9_isImage_4 rfl rfl ?_
    refine WP_iconst dX9_isImage_5 (by decide) ?_
    refine WQ_icmp_ge (tgt := 13) dX9_isImage_6 (by decide) (fun c2 => ?_) (fun c2 => ?_)
    · replace h := h.1 c2
      refine WP_iconst dX9_isImage_13 (by decide) ?_
      exact WQ_zreturn dX9_isImage_14 rfl ⟨by decide, by decide⟩ h
    · replace h := h.2 c2
      refine WP_iconst dX9_isImage_9 (by decide) ?_
      refine WP_goto (tgt := 14) dX9_isImage_10 (by decide) ?_
      exact WQ_zreturn dX9_isImage_14 rfl ⟨by decide, by decide⟩ h

theorem s_X9_isMinute_0 {d : Nat} {sc : SC} {Q : Int → Mem → Prop} {μ : Mem} {a0 : Int}
    (h : (a0 < 0 → Q 0 μ) ∧ (0 ≤ a0 → (100 ≤ a0 → Q 0 μ) ∧ (a0 < 100 → Q 1 μ))) :
    WQ mX9_isMinute d sc (ZI sc Q) 0 [(0, a0)] [] μ := by
  refine WP_iload_n dX9_isMinute_0 rfl rfl ?_
  refine WQ_iflt (tgt := 14) dX9_isMinute_1 (by decide) (fun c1 => ?_) (fun c1 => ?_)
  · replace h := h.1 c1
    refine WP_iconst dX9_isMinute_14 (by decide) ?_
    exact WQ_zreturn dX9_isMinute_15 rfl ⟨by decide, by decide⟩ h
  · replace h := h.2 c1
    refine WP_iload_n dX9_isMinute_4 rfl rfl ?_
    refine WP_bipush dX9_isMinute_5 (by decide +kernel) (by decide) ?_
    refine WQ_icmp_ge (tgt := 14) dX9_isMinute_7 (by decide) (fun c2 => ?_) (fun c2 => ?_)
    · replace h := h.1 c2
      refine WP_iconst dX9_isMinute_14 (by decide) ?_
      exact WQ_zreturn dX9_isMinute_15 rfl ⟨by decide, by decide⟩ h
    · replace h := h.2 c2
      refine WP_iconst dX9_isMinute_10 (by decide) ?_
      refine WP_goto (tgt := 15) dX9_isMinute_11 (by decide) ?_
      exact WQ_zreturn dX9_isMinute_15 rfl ⟨by decide, by decide⟩ h

theorem s_X9_isPerson_0 {d : Nat} {sc : SC} {Q : Int → Mem → Prop} {μ : Mem} {a1 : Int}
    (h : (a1 < 0 → Q 0 μ) ∧ (0 ≤ a1 → isK 1 (μ 0 2) ∧ (μ (μ 0 2) 3 ≤ a1 → Q 0 μ) ∧ (a1 < μ (μ 0 2) 3 → Q 1 μ))) :
    WQ mX9_isPerson d sc (ZI sc Q) 0 [(2, 0), (0, a1)] [] μ := by
  refine WP_iload_n dX9_isPerson_0 rfl rfl ?_
  refine WQ_iflt (tgt := 19) dX9_isPerson_1 (by decide) (fun c1 => ?_) (fun c1 => ?_)
  · replace h := h.1 c1
    refine WP_iconst dX9_isPerson_19 (by decide) ?_
    exact WQ_zreturn dX9_isPerson_20 rfl ⟨by decide, by decide⟩ h
  · replace h := h.2 c1
    refine WP_iload_n dX9_isPerson_4 rfl rfl ?_
    refine WP_aload_n dX9_isPerson_5 rfl rfl ⟨Nat.le_of_ble_eq_true rfl, Nat.le_of_ble_eq_true rfl⟩ ?_
    refine WP_getfield (ci := 9) (j := 2) (n := 20) (t := 2) (x := μ 0 2) dX9_isPerson_6 f_X9_16 k_0 rfl rfl ?_
    obtain ⟨g2, h⟩ := h
    refine WP_getfield (ci := 1) (j := 3) (n := 11) (t := 0) (x := μ (μ 0 2) 3) dX9_isPerson_9 f_X9_241 g2 rfl rfl ?_
    refine WQ_icmp_ge (tgt := 19) dX9_isPerson_12 (by decide) (fun c3 => ?_) (fun c3 => ?_)
    · replace h := h.1 c3
      refine WP_iconst dX9_isPerson_19 (by decide) ?_
      exact WQ_zreturn dX9_isPerson_20 rfl ⟨by decide, by decide⟩ h
    · replace h := h.2 c3
      refine WP_iconst dX9_isPerson_15 (by decide) ?_
      refine WP_goto (tgt := 20) dX9_isPerson_16 (by decide) ?_
      exact WQ_zreturn dX9_isPerson_20 rfl ⟨by decide, by decide⟩ h

theorem s_X9_isTray_0 {d : Nat} {sc : SC} {Q : Int → Mem → Prop} {μ : Mem} {a0 : Int}
    (h : (a0 < 0 → Q 0 μ) ∧ (0 ≤ a0 → (4 ≤ a0 → Q 0 μ) ∧ (a0 < 4 → Q 1 μ))) :
    WQ mX9_isTray d sc (ZI sc Q) 0 [(0, a0)] [] μ := by
  refine WP_iload_n dX9_isTray_0 rfl rfl ?_
  refine WQ_iflt (tgt := 13) dX9_isTray_1 (by decide) (fun c1 => ?_) (fun c1 => ?_)
  · replace h := h.1 c1
    refine WP_iconst dX9_isTray_13 (by decide) ?_
    exact WQ_zreturn dX9_isTray_14 rfl ⟨by decide, by decide⟩ h
  · replace h := h.2 c1
    refine WP_iload_n dX9_isTray_4 rfl rfl ?_
    refine WP_iconst dX9_isTray_5 (by decide) ?_
    refine WQ_icmp_ge (tgt := 13) dX9_isTray_6 (by decide) (fun c2 => ?_) (fun c2 => ?_)
    · replace h := h.1 c2
      refine WP_iconst dX9_isTray_13 (by decide) ?_
      exact WQ_zreturn dX9_isTray_14 rfl ⟨by decide, by decide⟩ h
    · replace h := h.2 c2
      refine WP_iconst dX9_isTray_9 (by decide) ?_
      refine WP_goto (tgt := 14) dX9_isTray_10 (by decide) ?_
      exact WQ_zreturn dX9_isTray_14 rfl ⟨by decide, by decide⟩ h

theorem s_X9_judge_0 {d : Nat} {sc : SC} {Q : Int → Mem → Prop} {μ : Mem} {a1 a2 : Int}
    (h : CAi mX9_isTray d sc [(0, a1)] μ (fun r1 μ2 => (r1 = 0 → Q (-2) μ2) ∧ (r1 ≠ 0 → (a2 < 0 → Q (-2) μ2) ∧ (0 ≤ a2 → (a2 ≤ 3 → (0 ≤ a1 ∧ a1 < 4) ∧ isK 8 (μ2 96 a1) ∧ (μ2 (μ2 96 a1) 0 ≠ 0 → CAi mX9_tryDeeds d sc [(2, 0), (2, μ2 96 a1)] μ2 (fun r9 μ10 => (r9 < μ10 (μ2 96 a1) 2 → WQ mX9_judge d sc (ZI sc Q) 57 [(2, 0), (9, 0), (0, a2), (2, μ2 96 a1), (0, r9), (9, 0)] [(0, 0)] μ10) ∧ (μ10 (μ2 96 a1) 2 ≤ r9 → WQ mX9_judge d sc (ZI sc Q) 57 [(2, 0), (9, 0), (0, a2), (2, μ2 96 a1), (0, r9), (9, 0)] [(0, 1)] μ10))) ∧ (μ2 (μ2 96 a1) 0 = 0 → Q (-6) μ2)) ∧ (3 < a2 → Q (-2) μ2))))) :
    WQ mX9_judge d sc (ZI sc Q) 0 [(2, 0), (0, a1), (0, a2), (9, 0), (9, 0), (9, 0)] [] μ := by
  refine WP_iload_n dX9_judge_0 rfl rfl ?_
  refine WQ_invSi (as := [(0, a1)]) dX9_judge_1 l_X9_208 mw_X9_isTray mt_X9_isTray mo_X9_isTray (Nat.le_of_ble_eq_true rfl) h rfl (fun r1 μ2 h => ?_)
  refine WQ_ifeq (tgt := 16) dX9_judge_4 (by decide) (fun c3 => ?_) (fun c3 => ?_)
  · replace h := h.1 c3
    refine WP_bipush dX9_judge_16 (by decide +kernel) (by decide) ?_
    exact WQ_ireturn dX9_judge_18 rfl h
  · replace h := h.2 c3
    refine WP_iload_n dX9_judge_7 rfl rfl ?_
    refine WQ_iflt (tgt := 16) dX9_judge_8 (by decide) (fun c4 => ?_) (fun c4 => ?_)
    · replace h := h.1 c4
      refine WP_bipush dX9_judge_16 (by decide +kernel) (by decide) ?_
      exact WQ_ireturn dX9_judge_18 rfl h
    · replace h := h.2 c4
      refine WP_iload_n dX9_judge_11 rfl rfl ?_
      refine WP_iconst dX9_judge_12 (by decide) ?_
      refine WQ_icmp_le (tgt := 19) dX9_judge_13 (by decide) (fun c5 => ?_) (fun c5 => ?_)
      · replace h := h.1 c5
        refine WP_aload_n dX9_judge_19 rfl rfl ⟨Nat.le_of_ble_eq_true rfl, Nat.le_of_ble_eq_true rfl⟩ ?_
        refine WP_getfield (ci := 9) (j := 8) (n := 20) (t := 2) (x := 96) dX9_judge_20 f_X9_47 k_0 rfl rfl ?_
        refine WP_iload_n dX9_judge_23 rfl rfl ?_
        obtain ⟨g6, h⟩ := h
        refine WP_aaload (n := 4) (ci := 8) dX9_judge_24 k_96 (by decide) g6 ?_
        refine WP_astore_n (L' := [(2, 0), (0, a1), (0, a2), (2, μ2 96 a1), (9, 0), (9, 0)]) dX9_judge_25 rfl (by decide) (Nat.le_of_ble_eq_true rfl) rfl ?_
        refine WP_aload_n dX9_judge_26 rfl rfl ⟨Nat.le_of_ble_eq_true rfl, Nat.le_of_ble_eq_true rfl⟩ ?_
        obtain ⟨g7, h⟩ := h
        refine WP_getfield (ci := 8) (j := 0) (n := 4) (t := 0) (x := μ2 (μ2 96 a1) 0) dX9_judge_27 f_X9_211 g7 rfl rfl ?_
        refine WQ_ifne (tgt := 36) dX9_judge_30 (by decide) (fun c8 => ?_) (fun c8 => ?_)
        · replace h := h.1 c8
          refine WP_aload_n dX9_judge_36 rfl rfl ⟨Nat.le_of_ble_eq_true rfl, Nat.le_of_ble_eq_true rfl⟩ ?_
          refine WP_aload_n dX9_judge_37 rfl rfl ⟨Nat.le_of_ble_eq_true rfl, Nat.le_of_ble_eq_true rfl⟩ ?_
          refine WQ_invVi (v := (2, 0)) (as := [(2, μ2 96 a1)]) dX9_judge_38 l_X9_215 mw_X9_tryDeeds mi_X9_tryDeeds ms_X9_tryDeeds mo_X9_tryDeeds (rcv (ci := 9) (n := 20) (r := (RX9, TX9, 20)) k_0 rfl rfl) (Nat.le_of_ble_eq_true rfl) h rfl (fun r9 μ10 h => ?_)
          refine WP_istore (L' := [(2, 0), (0, a1), (0, a2), (2, μ2 96 a1), (0, r9), (9, 0)]) dX9_judge_41 (by decide) rfl ?_
          refine WP_iload dX9_judge_43 rfl ?_
          refine WP_aload_n dX9_judge_45 rfl rfl ⟨Nat.le_of_ble_eq_true rfl, Nat.le_of_ble_eq_true rfl⟩ ?_
          refine WP_getfield (ci := 8) (j := 2) (n := 4) (t := 0) (x := μ10 (μ2 96 a1) 2) dX9_judge_46 f_X9_219 g7 rfl rfl ?_
          refine WQ_icmp_lt (tgt := 56) dX9_judge_49 (by decide) (fun c11 => ?_) (fun c11 => ?_)
          · replace h := h.1 c11
            refine WP_iconst dX9_judge_56 (by decide) ?_
            refine WP_lforget (L' := [(2, 0), (9, 0), (0, a2), (2, μ2 96 a1), (0, r9), (9, 0)]) rfl (fun i hi => ?_) h
            match i, hi with
            | 0, _ => exact Or.inl rfl
            | 1, _ => exact Or.inr rfl
            | 2, _ => exact Or.inl rfl
            | 3, _ => exact Or.inl rfl
            | 4, _ => exact Or.inl rfl
            | 5, _ => exact Or.inl rfl
            | i + 6, hi => exact absurd hi (by simp only [List.length_cons, List.length_nil]; omega)
          · replace h := h.2 c11
            refine WP_iconst dX9_judge_52 (by decide) ?_
            refine WP_goto (tgt := 57) dX9_judge_53 (by decide) ?_
            refine WP_lforget (L' := [(2, 0), (9, 0), (0, a2), (2, μ2 96 a1), (0, r9), (9, 0)]) rfl (fun i hi => ?_) h
            match i, hi with
            | 0, _ => exact Or.inl rfl
            | 1, _ => exact Or.inr rfl
            | 2, _ => exact Or.inl rfl
            | 3, _ => exact Or.inl rfl
            | 4, _ => exact Or.inl rfl
            | 5, _ => exact Or.inl rfl
            | i + 6, hi => exact absurd hi (by simp only [List.length_cons, List.length_nil]; omega)
        · replace h := h.2 c8
          refine WP_bipush dX9_judge_33 (by decide +kernel) (by decide) ?_
          exact WQ_ireturn dX9_judge_35 rfl h
      · replace h := h.2 c5
        refine WP_bipush dX9_judge_16 (by decide +kernel) (by decide) ?_
        exact WQ_ireturn dX9_judge_18 rfl h

theorem s_X9_judge_57 {d : Nat} {sc : SC} {Q : Int → Mem → Prop} {μ : Mem} {x2 x3 x4 y0 : Int} (hx3 : isK 8 x3)
    (h : (x2 ≠ 0 → (x2 ≠ 1 → CAv mX3_learn d sc [(2, 127), (2, μ 0 2), (2, 121)] μ (fun μ4 => CAi mX0_run d sc [(2, 135), (2, 121), (2, 127), (0, 99), (0, (-1))] μ4 (fun r5 μ6 => (x2 ≠ 2 → isK 1 (μ6 0 2) ∧ CAi mX0_nobodies d sc [(2, 135), (0, μ6 (μ6 0 2) 3)] μ6 (fun r9 μ10 => Q r9 μ10)) ∧ (x2 = 2 → Q (μ6 135 0) μ6)))) ∧ (x2 = 1 → (y0 = 0 → (0 ≤ x4 ∧ x4 < 40) ∧ CAi mX9_deed d sc [(2, 0), (2, 121), (1, μ (x3 + 1) x4)] μ (fun r13 μ14 => Q r13 μ14)) ∧ (y0 ≠ 0 → Q 0 μ))) ∧ (x2 = 0 → (y0 = 0 → Q x4 μ) ∧ (y0 ≠ 0 → Q (-1) μ))) :
    WQ mX9_judge d sc (ZI sc Q) 57 [(2, 0), (9, 0), (0, x2), (2, x3), (0, x4), (9, 0)] [(0, y0)] μ := by
  refine WP_istore (L' := [(2, 0), (9, 0), (0, x2), (2, x3), (0, x4), (0, y0)]) dX9_judge_57 (by decide) rfl ?_
  refine WP_iload_n dX9_judge_59 rfl rfl ?_
  refine WQ_ifne (tgt := 75) dX9_judge_60 (by decide) (fun c1 => ?_) (fun c1 => ?_)
  · replace h := h.1 c1
    refine WP_iload_n dX9_judge_75 rfl rfl ?_
    refine WP_iconst dX9_judge_76 (by decide) ?_
    refine WQ_icmp_ne (tgt := 105) dX9_judge_77 (by decide) (fun c2 => ?_) (fun c2 => ?_)
    · replace h := h.1 c2
      refine WP_aload_n dX9_judge_105 rfl rfl ⟨Nat.le_of_ble_eq_true rfl, Nat.le_of_ble_eq_true rfl⟩ ?_
      refine WP_getfield (ci := 9) (j := 15) (n := 20) (t := 2) (x := 127) dX9_judge_106 f_X9_86 k_0 rfl rfl ?_
      refine WP_aload_n dX9_judge_109 rfl rfl ⟨Nat.le_of_ble_eq_true rfl, Nat.le_of_ble_eq_true rfl⟩ ?_
      refine WP_getfield (ci := 9) (j := 2) (n := 20) (t := 2) (x := μ 0 2) dX9_judge_110 f_X9_16 k_0 rfl rfl ?_
      refine WP_aload_n dX9_judge_113 rfl rfl ⟨Nat.le_of_ble_eq_true rfl, Nat.le_of_ble_eq_true rfl⟩ ?_
      refine WP_getfield (ci := 9) (j := 14) (n := 20) (t := 2) (x := 121) dX9_judge_114 f_X9_82 k_0 rfl rfl ?_
      refine WQ_invVv (v := (2, 127)) (as := [(2, μ 0 2), (2, 121)]) dX9_judge_117 l_X9_230 mw_X3_learn mi_X3_learn ms_X3_learn mo_X3_learn (rcv (ci := 3) (n := 9) (r := (RX3, TX3, 9)) k_127 rfl rfl) (Nat.le_of_ble_eq_true rfl) h rfl (fun μ4 h => ?_)
      refine WP_aload_n dX9_judge_120 rfl rfl ⟨Nat.le_of_ble_eq_true rfl, Nat.le_of_ble_eq_true rfl⟩ ?_
      refine WP_getfield (ci := 9) (j := 16) (n := 20) (t := 2) (x := 135) dX9_judge_121 f_X9_89 k_0 rfl rfl ?_
      refine WP_aload_n dX9_judge_124 rfl rfl ⟨Nat.le_of_ble_eq_true rfl, Nat.le_of_ble_eq_true rfl⟩ ?_
      refine WP_getfield (ci := 9) (j := 14) (n := 20) (t := 2) (x := 121) dX9_judge_125 f_X9_82 k_0 rfl rfl ?_
      refine WP_aload_n dX9_judge_128 rfl rfl ⟨Nat.le_of_ble_eq_true rfl, Nat.le_of_ble_eq_true rfl⟩ ?_
      refine WP_getfield (ci := 9) (j := 15) (n := 20) (t := 2) (x := 127) dX9_judge_129 f_X9_86 k_0 rfl rfl ?_
      refine WP_bipush dX9_judge_132 (by decide +kernel) (by decide) ?_
      refine WP_iconst dX9_judge_134 (by decide) ?_
      refine WQ_invVi (v := (2, 135)) (as := [(2, 121), (2, 127), (0, 99), (0, (-1))]) dX9_judge_135 l_X9_234 mw_X0_run mi_X0_run ms_X0_run mo_X0_run (rcv (ci := 0) (n := 16) (r := (RX0, TX0, 16)) k_135 rfl rfl) (Nat.le_of_ble_eq_true rfl) h rfl (fun r5 μ6 h => ?_)
      refine WP_pop dX9_judge_138 (by simp) ?_
      refine WP_iload_n dX9_judge_139 rfl rfl ?_
      refine WP_iconst dX9_judge_140 (by decide) ?_
      refine WQ_icmp_ne (tgt := 154) dX9_judge_141 (by decide) (fun c7 => ?_) (fun c7 => ?_)
      · replace h := h.1 c7
        refine WP_aload_n dX9_judge_154 rfl rfl ⟨Nat.le_of_ble_eq_true rfl, Nat.le_of_ble_eq_true rfl⟩ ?_
        refine WP_getfield (ci := 9) (j := 16) (n := 20) (t := 2) (x := 135) dX9_judge_155 f_X9_89 k_0 rfl rfl ?_
        refine WP_aload_n dX9_judge_158 rfl rfl ⟨Nat.le_of_ble_eq_true rfl, Nat.le_of_ble_eq_true rfl⟩ ?_
        refine WP_getfield (ci := 9) (j := 2) (n := 20) (t := 2) (x := μ6 0 2) dX9_judge_159 f_X9_16 k_0 rfl rfl ?_
        obtain ⟨g8, h⟩ := h
        refine WP_getfield (ci := 1) (j := 3) (n := 11) (t := 0) (x := μ6 (μ6 0 2) 3) dX9_judge_162 f_X9_241 g8 rfl rfl ?_
        refine WQ_invVi (v := (2, 135)) (as := [(0, μ6 (μ6 0 2) 3)]) dX9_judge_165 l_X9_244 mw_X0_nobodies mi_X0_nobodies ms_X0_nobodies mo_X0_nobodies (rcv (ci := 0) (n := 16) (r := (RX0, TX0, 16)) k_135 rfl rfl) (Nat.le_of_ble_eq_true rfl) h rfl (fun r9 μ10 h => ?_)
        exact WQ_ireturn dX9_judge_168 rfl h
      · replace h := h.2 c7
        refine WP_aload_n dX9_judge_144 rfl rfl ⟨Nat.le_of_ble_eq_true rfl, Nat.le_of_ble_eq_true rfl⟩ ?_
        refine WP_getfield (ci := 9) (j := 16) (n := 20) (t := 2) (x := 135) dX9_judge_145 f_X9_89 k_0 rfl rfl ?_
        refine WP_getfield (ci := 0) (j := 0) (n := 16) (t := 0) (x := μ6 135 0) dX9_judge_148 f_X9_238 k_135 rfl rfl ?_
        refine WP_goto (tgt := 168) dX9_judge_151 (by decide) ?_
        exact WQ_ireturn dX9_judge_168 rfl h
    · replace h := h.2 c2
      refine WP_iload dX9_judge_80 rfl ?_
      refine WQ_ifeq (tgt := 89) dX9_judge_82 (by decide) (fun c11 => ?_) (fun c11 => ?_)
      · replace h := h.1 c11
        refine WP_aload_n dX9_judge_89 rfl rfl ⟨Nat.le_of_ble_eq_true rfl, Nat.le_of_ble_eq_true rfl⟩ ?_
        refine WP_aload_n dX9_judge_90 rfl rfl ⟨Nat.le_of_ble_eq_true rfl, Nat.le_of_ble_eq_true rfl⟩ ?_
        refine WP_getfield (ci := 9) (j := 14) (n := 20) (t := 2) (x := 121) dX9_judge_91 f_X9_82 k_0 rfl rfl ?_
        refine WP_aload_n dX9_judge_94 rfl rfl ⟨Nat.le_of_ble_eq_true rfl, Nat.le_of_ble_eq_true rfl⟩ ?_
        refine WP_getfield (ci := 8) (j := 3) (n := 4) (t := 2) (x := x3 + 1) dX9_judge_95 f_X9_222 hx3 rfl rfl ?_
        refine WP_iload dX9_judge_98 rfl ?_
        obtain ⟨g12, h⟩ := h
        refine WP_laload (n := 40) dX9_judge_100 (kf_8_3 hx3) g12 ?_
        refine WQ_invVi (v := (2, 0)) (as := [(2, 121), (1, μ (x3 + 1) x4)]) dX9_judge_101 l_X9_226 mw_X9_deed mi_X9_deed ms_X9_deed mo_X9_deed (rcv (ci := 9) (n := 20) (r := (RX9, TX9, 20)) k_0 rfl rfl) (Nat.le_of_ble_eq_true rfl) h rfl (fun r13 μ14 h => ?_)
        exact WQ_ireturn dX9_judge_104 rfl h
      · replace h := h.2 c11
        refine WP_iconst dX9_judge_85 (by decide) ?_
        refine WP_goto (tgt := 104) dX9_judge_86 (by decide) ?_
        exact WQ_ireturn dX9_judge_104 rfl h
  · replace h := h.2 c1
    refine WP_iload dX9_judge_63 rfl ?_
    refine WQ_ifeq (tgt := 72) dX9_judge_65 (by decide) (fun c15 => ?_) (fun c15 => ?_)
    · replace h := h.1 c15
      refine WP_iload dX9_judge_72 rfl ?_
      exact WQ_ireturn dX9_judge_74 rfl h
    · replace h := h.2 c15
      refine WP_iconst dX9_judge_68 (by decide) ?_
      refine WP_goto (tgt := 74) dX9_judge_69 (by decide) ?_
      exact WQ_ireturn dX9_judge_74 rfl h

theorem s_X9_know_0 {d : Nat} {sc : SC} {Q : Mem → Prop} {μ : Mem}
    (h : (μ 0 9 ≠ 0 → Q μ) ∧ (μ 0 9 = 0 → isK 1 (μ 0 2) ∧ CAv mX3_learn d sc [(2, 97), (2, μ 0 2), (2, μ 0 2 + 7)] μ (fun μ4 => isK 1 (μ4 0 2) ∧ CAi mX0_run d sc [(2, 105), (2, μ4 0 2 + 7), (2, 97), (0, 99), (0, (-1))] μ4 (fun r6 μ7 => ∀ μ8, μ8 = mup μ7 0 9 1 → Q μ8)))) :
    WQ mX9_know d sc (ZV sc Q) 0 [(2, 0)] [] μ := by
  refine WP_aload_n dX9_know_0 rfl rfl ⟨Nat.le_of_ble_eq_true rfl, Nat.le_of_ble_eq_true rfl⟩ ?_
  refine WP_getfield (ci := 9) (j := 9) (n := 20) (t := 0) (x := μ 0 9) dX9_know_1 f_X9_374 k_0 rfl rfl ?_
  refine WQ_ifne (tgt := 52) dX9_know_4 (by decide) (fun c1 => ?_) (fun c1 => ?_)
  · replace h := h.1 c1
    exact WQ_return dX9_know_52 rfl h
  · replace h := h.2 c1
    refine WP_aload_n dX9_know_7 rfl rfl ⟨Nat.le_of_ble_eq_true rfl, Nat.le_of_ble_eq_true rfl⟩ ?_
    refine WP_getfield (ci := 9) (j := 10) (n := 20) (t := 2) (x := 97) dX9_know_8 f_X9_54 k_0 rfl rfl ?_
    refine WP_aload_n dX9_know_11 rfl rfl ⟨Nat.le_of_ble_eq_true rfl, Nat.le_of_ble_eq_true rfl⟩ ?_
    refine WP_getfield (ci := 9) (j := 2) (n := 20) (t := 2) (x := μ 0 2) dX9_know_12 f_X9_16 k_0 rfl rfl ?_
    refine WP_aload_n dX9_know_15 rfl rfl ⟨Nat.le_of_ble_eq_true rfl, Nat.le_of_ble_eq_true rfl⟩ ?_
    refine WP_getfield (ci := 9) (j := 2) (n := 20) (t := 2) (x := μ 0 2) dX9_know_16 f_X9_16 k_0 rfl rfl ?_
    obtain ⟨g2, h⟩ := h
    refine WP_getfield (ci := 1) (j := 10) (n := 11) (t := 2) (x := μ 0 2 + 7) dX9_know_19 f_X9_131 g2 rfl rfl ?_
    refine WQ_invVv (v := (2, 97)) (as := [(2, μ 0 2), (2, μ 0 2 + 7)]) dX9_know_22 l_X9_230 mw_X3_learn mi_X3_learn ms_X3_learn mo_X3_learn (rcv (ci := 3) (n := 9) (r := (RX3, TX3, 9)) k_97 rfl rfl) (Nat.le_of_ble_eq_true rfl) h rfl (fun μ4 h => ?_)
    refine WP_aload_n dX9_know_25 rfl rfl ⟨Nat.le_of_ble_eq_true rfl, Nat.le_of_ble_eq_true rfl⟩ ?_
    refine WP_getfield (ci := 9) (j := 11) (n := 20) (t := 2) (x := 105) dX9_know_26 f_X9_61 k_0 rfl rfl ?_
    refine WP_aload_n dX9_know_29 rfl rfl ⟨Nat.le_of_ble_eq_true rfl, Nat.le_of_ble_eq_true rfl⟩ ?_
    refine WP_getfield (ci := 9) (j := 2) (n := 20) (t := 2) (x := μ4 0 2) dX9_know_30 f_X9_16 k_0 rfl rfl ?_
    obtain ⟨g5, h⟩ := h
    refine WP_getfield (ci := 1) (j := 10) (n := 11) (t := 2) (x := μ4 0 2 + 7) dX9_know_33 f_X9_131 g5 rfl rfl ?_
    refine WP_aload_n dX9_know_36 rfl rfl ⟨Nat.le_of_ble_eq_true rfl, Nat.le_of_ble_eq_true rfl⟩ ?_
    refine WP_getfield (ci := 9) (j := 10) (n := 20) (t := 2) (x := 97) dX9_know_37 f_X9_54 k_0 rfl rfl ?_
    refine WP_bipush dX9_know_40 (by decide +kernel) (by decide) ?_
    refine WP_iconst dX9_know_42 (by decide) ?_
    refine WQ_invVi (v := (2, 105)) (as := [(2, μ4 0 2 + 7), (2, 97), (0, 99), (0, (-1))]) dX9_know_43 l_X9_234 mw_X0_run mi_X0_run ms_X0_run mo_X0_run (rcv (ci := 0) (n := 16) (r := (RX0, TX0, 16)) k_105 rfl rfl) (Nat.le_of_ble_eq_true rfl) h rfl (fun r6 μ7 h => ?_)
    refine WP_pop dX9_know_46 (by simp) ?_
    refine WP_aload_n dX9_know_47 rfl rfl ⟨Nat.le_of_ble_eq_true rfl, Nat.le_of_ble_eq_true rfl⟩ ?_
    refine WP_iconst dX9_know_48 (by decide) ?_
    refine WQ_putz (ci := 9) (j := 9) (n := 20) dX9_know_49 f_X9_374 k_0 rfl ⟨by decide, by decide⟩ (fun μ8 eμ8 => ?_)
    replace h := h μ8 eμ8
    exact WQ_return dX9_know_52 rfl h

theorem s_X9_knowOdds_0 {d : Nat} {sc : SC} {Q : Mem → Prop} {μ : Mem}
    (h : CAv mX9_know d sc [(2, 0)] μ (fun μ2 => (μ2 117 0 ≠ 0 → Q μ2) ∧ (μ2 117 0 = 0 → CAv mX4_reckon d sc [(2, 117), (2, μ2 0 2), (2, 97), (2, 121), (2, 135)] μ2 (fun μ5 => Q μ5)))) :
    WQ mX9_knowOdds d sc (ZV sc Q) 0 [(2, 0)] [] μ := by
  refine WP_aload_n dX9_knowOdds_0 rfl rfl ⟨Nat.le_of_ble_eq_true rfl, Nat.le_of_ble_eq_true rfl⟩ ?_
  refine WQ_invVv (v := (2, 0)) (as := []) dX9_knowOdds_1 l_X9_161 mw_X9_know mi_X9_know ms_X9_know mo_X9_know (rcv (ci := 9) (n := 20) (r := (RX9, TX9, 20)) k_0 rfl rfl) (Nat.le_of_ble_eq_true rfl) h rfl (fun μ2 h => ?_)
  refine WP_aload_n dX9_knowOdds_4 rfl rfl ⟨Nat.le_of_ble_eq_true rfl, Nat.le_of_ble_eq_true rfl⟩ ?_
  refine WP_getfield (ci := 9) (j := 12) (n := 20) (t := 2) (x := 117) dX9_knowOdds_5 f_X9_68 k_0 rfl rfl ?_
  refine WP_getfield (ci := 4) (j := 0) (n := 4) (t := 0) (x := μ2 117 0) dX9_knowOdds_8 f_X9_377 k_117 rfl rfl ?_
  refine WQ_ifne (tgt := 37) dX9_knowOdds_11 (by decide) (fun c3 => ?_) (fun c3 => ?_)
  · replace h := h.1 c3
    exact WQ_return dX9_knowOdds_37 rfl h
  · replace h := h.2 c3
    refine WP_aload_n dX9_knowOdds_14 rfl rfl ⟨Nat.le_of_ble_eq_true rfl, Nat.le_of_ble_eq_true rfl⟩ ?_
    refine WP_getfield (ci := 9) (j := 12) (n := 20) (t := 2) (x := 117) dX9_knowOdds_15 f_X9_68 k_0 rfl rfl ?_
    refine WP_aload_n dX9_knowOdds_18 rfl rfl ⟨Nat.le_of_ble_eq_true rfl, Nat.le_of_ble_eq_true rfl⟩ ?_
    refine WP_getfield (ci := 9) (j := 2) (n := 20) (t := 2) (x := μ2 0 2) dX9_knowOdds_19 f_X9_16 k_0 rfl rfl ?_
    refine WP_aload_n dX9_knowOdds_22 rfl rfl ⟨Nat.le_of_ble_eq_true rfl, Nat.le_of_ble_eq_true rfl⟩ ?_
    refine WP_getfield (ci := 9) (j := 10) (n := 20) (t := 2) (x := 97) dX9_knowOdds_23 f_X9_54 k_0 rfl rfl ?_
    refine WP_aload_n dX9_knowOdds_26 rfl rfl ⟨Nat.le_of_ble_eq_true rfl, Nat.le_of_ble_eq_true rfl⟩ ?_
    refine WP_getfield (ci := 9) (j := 14) (n := 20) (t := 2) (x := 121) dX9_knowOdds_27 f_X9_82 k_0 rfl rfl ?_
    refine WP_aload_n dX9_knowOdds_30 rfl rfl ⟨Nat.le_of_ble_eq_true rfl, Nat.le_of_ble_eq_true rfl⟩ ?_
    refine WP_getfield (ci := 9) (j := 16) (n := 20) (t := 2) (x := 135) dX9_knowOdds_31 f_X9_89 k_0 rfl rfl ?_
    refine WQ_invVv (v := (2, 117)) (as := [(2, μ2 0 2), (2, 97), (2, 121), (2, 135)]) dX9_knowOdds_34 l_X9_378 mw_X4_reckon mi_X4_reckon ms_X4_reckon mo_X4_reckon (rcv (ci := 4) (n := 4) (r := (RX4, TX4, 4)) k_117 rfl rfl) (Nat.le_of_ble_eq_true rfl) h rfl (fun μ5 h => ?_)
    exact WQ_return dX9_knowOdds_37 rfl h

theorem s_X9_lists_0 {d : Nat} {sc : SC} {Q : Int → Mem → Prop} {μ : Mem} {a1 a2 : Int}
    (h : CAi mX9_isTray d sc [(0, a1)] μ (fun r1 μ2 => (r1 = 0 → Q (-2) μ2) ∧ (r1 ≠ 0 → CAi mX9_isPerson d sc [(2, 0), (0, a2)] μ2 (fun r4 μ5 => (r4 ≠ 0 → (0 ≤ a1 ∧ a1 < 4) ∧ isK 8 (μ5 96 a1) ∧ (μ5 (μ5 96 a1) 0 ≠ 0 → CAv mX9_know d sc [(2, 0)] μ5 (fun μ11 => (0 ≤ a1 ∧ a1 < 4) ∧ CAi mX0_listInto d sc [(2, 105), (2, μ11 96 a1), (0, a2)] μ11 (fun r13 μ14 => Q r13 μ14))) ∧ (μ5 (μ5 96 a1) 0 = 0 → Q (-6) μ5)) ∧ (r4 = 0 → Q (-2) μ5))))) :
    WQ mX9_lists d sc (ZI sc Q) 0 [(2, 0), (0, a1), (0, a2)] [] μ := by
  refine WP_iload_n dX9_lists_0 rfl rfl ?_
  refine WQ_invSi (as := [(0, a1)]) dX9_lists_1 l_X9_208 mw_X9_isTray mt_X9_isTray mo_X9_isTray (Nat.le_of_ble_eq_true rfl) h rfl (fun r1 μ2 h => ?_)
  refine WQ_ifeq (tgt := 15) dX9_lists_4 (by decide) (fun c3 => ?_) (fun c3 => ?_)
  · replace h := h.1 c3
    refine WP_bipush dX9_lists_15 (by decide +kernel) (by decide) ?_
    exact WQ_ireturn dX9_lists_17 rfl h
  · replace h := h.2 c3
    refine WP_aload_n dX9_lists_7 rfl rfl ⟨Nat.le_of_ble_eq_true rfl, Nat.le_of_ble_eq_true rfl⟩ ?_
    refine WP_iload_n dX9_lists_8 rfl rfl ?_
    refine WQ_invVi (v := (2, 0)) (as := [(0, a2)]) dX9_lists_9 l_X9_127 mw_X9_isPerson mi_X9_isPerson ms_X9_isPerson mo_X9_isPerson (rcv (ci := 9) (n := 20) (r := (RX9, TX9, 20)) k_0 rfl rfl) (Nat.le_of_ble_eq_true rfl) h rfl (fun r4 μ5 h => ?_)
    refine WQ_ifne (tgt := 18) dX9_lists_12 (by decide) (fun c6 => ?_) (fun c6 => ?_)
    · replace h := h.1 c6
      refine WP_aload_n dX9_lists_18 rfl rfl ⟨Nat.le_of_ble_eq_true rfl, Nat.le_of_ble_eq_true rfl⟩ ?_
      refine WP_getfield (ci := 9) (j := 8) (n := 20) (t := 2) (x := 96) dX9_lists_19 f_X9_47 k_0 rfl rfl ?_
      refine WP_iload_n dX9_lists_22 rfl rfl ?_
      obtain ⟨g7, h⟩ := h
      refine WP_aaload (n := 4) (ci := 8) dX9_lists_23 k_96 (by decide) g7 ?_
      obtain ⟨g8, h⟩ := h
      refine WP_getfield (ci := 8) (j := 0) (n := 4) (t := 0) (x := μ5 (μ5 96 a1) 0) dX9_lists_24 f_X9_211 g8 rfl rfl ?_
      refine WQ_ifne (tgt := 33) dX9_lists_27 (by decide) (fun c9 => ?_) (fun c9 => ?_)
      · replace h := h.1 c9
        refine WP_aload_n dX9_lists_33 rfl rfl ⟨Nat.le_of_ble_eq_true rfl, Nat.le_of_ble_eq_true rfl⟩ ?_
        refine WQ_invVv (v := (2, 0)) (as := []) dX9_lists_34 l_X9_161 mw_X9_know mi_X9_know ms_X9_know mo_X9_know (rcv (ci := 9) (n := 20) (r := (RX9, TX9, 20)) k_0 rfl rfl) (Nat.le_of_ble_eq_true rfl) h rfl (fun μ11 h => ?_)
        refine WP_aload_n dX9_lists_37 rfl rfl ⟨Nat.le_of_ble_eq_true rfl, Nat.le_of_ble_eq_true rfl⟩ ?_
        refine WP_getfield (ci := 9) (j := 11) (n := 20) (t := 2) (x := 105) dX9_lists_38 f_X9_61 k_0 rfl rfl ?_
        refine WP_aload_n dX9_lists_41 rfl rfl ⟨Nat.le_of_ble_eq_true rfl, Nat.le_of_ble_eq_true rfl⟩ ?_
        refine WP_getfield (ci := 9) (j := 8) (n := 20) (t := 2) (x := 96) dX9_lists_42 f_X9_47 k_0 rfl rfl ?_
        refine WP_iload_n dX9_lists_45 rfl rfl ?_
        obtain ⟨g12, h⟩ := h
        refine WP_aaload (n := 4) (ci := 8) dX9_lists_46 k_96 (by decide) g12 ?_
        refine WP_iload_n dX9_lists_47 rfl rfl ?_
        refine WQ_invVi (v := (2, 105)) (as := [(2, μ11 96 a1), (0, a2)]) dX9_lists_48 l_X9_357 mw_X0_listInto mi_X0_listInto ms_X0_listInto mo_X0_listInto (rcv (ci := 0) (n := 16) (r := (RX0, TX0, 16)) k_105 rfl rfl) (Nat.le_of_ble_eq_true rfl) h rfl (fun r13 μ14 h => ?_)
        exact WQ_ireturn dX9_lists_51 rfl h
      · replace h := h.2 c9
        refine WP_bipush dX9_lists_30 (by decide +kernel) (by decide) ?_
        exact WQ_ireturn dX9_lists_32 rfl h
    · replace h := h.2 c6
      refine WP_bipush dX9_lists_15 (by decide +kernel) (by decide) ?_
      exact WQ_ireturn dX9_lists_17 rfl h

theorem s_X9_lowestTerms_0 {d : Nat} {sc : SC} {Q : Int → Mem → Prop} {μ : Mem} {a0 a2 a4 : Int}
    (h : WQ mX9_lowestTerms d sc (ZL sc Q) 9 [(1, a0), (9, 0), (1, a2), (9, 0), (0, a4), (1, a0), (9, 0), (1, a2), (9, 0), (0, 0), (9, 0), (9, 0)] [] μ) :
    WQ mX9_lowestTerms d sc (ZL sc Q) 0 [(1, a0), (9, 0), (1, a2), (9, 0), (0, a4), (9, 0), (9, 0), (9, 0), (9, 0), (9, 0), (9, 0), (9, 0)] [] μ := by
  refine WP_lload_n dX9_lowestTerms_0 rfl rfl ?_
  refine WP_lstore (L' := [(1, a0), (9, 0), (1, a2), (9, 0), (0, a4), (1, a0), (9, 0), (9, 0), (9, 0), (9, 0), (9, 0), (9, 0)]) dX9_lowestTerms_1 (by decide) rfl ?_
  refine WP_lload_n dX9_lowestTerms_3 rfl rfl ?_
  refine WP_lstore (L' := [(1, a0), (9, 0), (1, a2), (9, 0), (0, a4), (1, a0), (9, 0), (1, a2), (9, 0), (9, 0), (9, 0), (9, 0)]) dX9_lowestTerms_4 (by decide) rfl ?_
  refine WP_iconst dX9_lowestTerms_6 (by decide) ?_
  refine WP_istore (L' := [(1, a0), (9, 0), (1, a2), (9, 0), (0, a4), (1, a0), (9, 0), (1, a2), (9, 0), (0, 0), (9, 0), (9, 0)]) dX9_lowestTerms_7 (by decide) rfl ?_
  exact h

theorem s_X9_lowestTerms_9 {d : Nat} {sc : SC} {Q : Int → Mem → Prop} {μ : Mem} {x0 x2 x4 x5 x7 x9 : Int}
    (h : (100 ≤ x9 → (x5 ≠ 0 → (x4 ≠ 0 → (0 ≤ x2 ∧ 0 < x5) ∧ Q (x2 / x5) μ) ∧ (x4 = 0 → (0 ≤ x0 ∧ 0 < x5) ∧ Q (x0 / x5) μ)) ∧ (x5 = 0 → Q 0 μ)) ∧ (x9 < 100 → (x7 = 0 → (x5 ≠ 0 → (x4 ≠ 0 → (0 ≤ x2 ∧ 0 < x5) ∧ Q (x2 / x5) μ) ∧ (x4 = 0 → (0 ≤ x0 ∧ 0 < x5) ∧ Q (x0 / x5) μ)) ∧ (x5 = 0 → Q 0 μ)) ∧ (x7 ≠ 0 → (0 ≤ x5 ∧ 0 < x7) ∧ (∀ v12 : Int, v12 = x5 % x7 → (-2147483648 ≤ x9 + 1 ∧ x9 + 1 < 2147483648) ∧ ∀ v14 : Int, v14 = x9 + 1 → WQ mX9_lowestTerms d sc (ZL sc Q) 9 [(1, x0), (9, 0), (1, x2), (9, 0), (0, x4), (1, x7), (9, 0), (1, v12), (9, 0), (0, v14), (9, 0), (9, 0)] [] μ)))) :
    WQ mX9_lowestTerms d sc (ZL sc Q) 9 [(1, x0), (9, 0), (1, x2), (9, 0), (0, x4), (1, x5), (9, 0), (1, x7), (9, 0), (0, x9), (9, 0), (9, 0)] [] μ := by
  refine WP_iload dX9_lowestTerms_9 rfl ?_
  refine WP_bipush dX9_lowestTerms_11 (by decide +kernel) (by decide) ?_
  refine WQ_icmp_ge (tgt := 44) dX9_lowestTerms_13 (by decide) (fun c1 => ?_) (fun c1 => ?_)
  · replace h := h.1 c1
    refine WP_lload dX9_lowestTerms_44 rfl ?_
    refine WP_lconst dX9_lowestTerms_46 rfl ?_
    refine WQ_lifne (tgt := 53) dX9_lowestTerms_47 dX9_lowestTerms_48 (by decide) (fun c2 => ?_) (fun c2 => ?_)
    · replace h := h.1 c2
      refine WP_iload dX9_lowestTerms_53 rfl ?_
      refine WQ_ifne (tgt := 65) dX9_lowestTerms_55 (by decide) (fun c3 => ?_) (fun c3 => ?_)
      · replace h := h.1 c3
        refine WP_lload_n dX9_lowestTerms_65 rfl rfl ?_
        refine WP_lload dX9_lowestTerms_66 rfl ?_
        obtain ⟨g4, h⟩ := h
        refine WP_ldiv dX9_lowestTerms_68 g4 ?_
        exact WQ_lreturn dX9_lowestTerms_69 rfl h
      · replace h := h.2 c3
        refine WP_lload_n dX9_lowestTerms_58 rfl rfl ?_
        refine WP_lload dX9_lowestTerms_59 rfl ?_
        obtain ⟨g5, h⟩ := h
        refine WP_ldiv dX9_lowestTerms_61 g5 ?_
        refine WP_goto (tgt := 69) dX9_lowestTerms_62 (by decide) ?_
        exact WQ_lreturn dX9_lowestTerms_69 rfl h
    · replace h := h.2 c2
      refine WP_lconst dX9_lowestTerms_51 rfl ?_
      exact WQ_lreturn dX9_lowestTerms_52 rfl h
  · replace h := h.2 c1
    refine WP_lload dX9_lowestTerms_16 rfl ?_
    refine WP_lconst dX9_lowestTerms_18 rfl ?_
    refine WQ_lifeq (tgt := 44) dX9_lowestTerms_19 dX9_lowestTerms_20 (by decide) (fun c6 => ?_) (fun c6 => ?_)
    · replace h := h.1 c6
      refine WP_lload dX9_lowestTerms_44 rfl ?_
      refine WP_lconst dX9_lowestTerms_46 rfl ?_
      refine WQ_lifne (tgt := 53) dX9_lowestTerms_47 dX9_lowestTerms_48 (by decide) (fun c7 => ?_) (fun c7 => ?_)
      · replace h := h.1 c7
        refine WP_iload dX9_lowestTerms_53 rfl ?_
        refine WQ_ifne (tgt := 65) dX9_lowestTerms_55 (by decide) (fun c8 => ?_) (fun c8 => ?_)
        · replace h := h.1 c8
          refine WP_lload_n dX9_lowestTerms_65 rfl rfl ?_
          refine WP_lload dX9_lowestTerms_66 rfl ?_
          obtain ⟨g9, h⟩ := h
          refine WP_ldiv dX9_lowestTerms_68 g9 ?_
          exact WQ_lreturn dX9_lowestTerms_69 rfl h
        · replace h := h.2 c8
          refine WP_lload_n dX9_lowestTerms_58 rfl rfl ?_
          refine WP_lload dX9_lowestTerms_59 rfl ?_
          obtain ⟨g10, h⟩ := h
          refine WP_ldiv dX9_lowestTerms_61 g10 ?_
          refine WP_goto (tgt := 69) dX9_lowestTerms_62 (by decide) ?_
          exact WQ_lreturn dX9_lowestTerms_69 rfl h
      · replace h := h.2 c7
        refine WP_lconst dX9_lowestTerms_51 rfl ?_
        exact WQ_lreturn dX9_lowestTerms_52 rfl h
    · replace h := h.2 c6
      refine WP_lload dX9_lowestTerms_23 rfl ?_
      refine WP_lload dX9_lowestTerms_25 rfl ?_
      obtain ⟨g11, h⟩ := h
      refine WP_lrem dX9_lowestTerms_27 g11 ?_
      refine WQ_nm1 (fun v12 e12 => ?_)
      replace h := h v12 e12
      refine WP_lstore (L' := [(1, x0), (9, 0), (1, x2), (9, 0), (0, x4), (1, x5), (9, 0), (1, x7), (9, 0), (0, x9), (1, v12), (9, 0)]) dX9_lowestTerms_28 (by decide) rfl ?_
      refine WP_lload dX9_lowestTerms_30 rfl ?_
      refine WP_lstore (L' := [(1, x0), (9, 0), (1, x2), (9, 0), (0, x4), (1, x7), (9, 0), (1, x7), (9, 0), (0, x9), (1, v12), (9, 0)]) dX9_lowestTerms_32 (by decide) rfl ?_
      refine WP_lload dX9_lowestTerms_34 rfl ?_
      refine WP_lstore (L' := [(1, x0), (9, 0), (1, x2), (9, 0), (0, x4), (1, x7), (9, 0), (1, v12), (9, 0), (0, x9), (1, v12), (9, 0)]) dX9_lowestTerms_36 (by decide) rfl ?_
      obtain ⟨g13, h⟩ := h
      refine WQ_iinc dX9_lowestTerms_38 rfl (by decide) g13 (fun v14 e14 => ?_)
      refine WP_same (L' := [(1, x0), (9, 0), (1, x2), (9, 0), (0, x4), (1, x7), (9, 0), (1, v12), (9, 0), (0, v14), (1, v12), (9, 0)]) rfl ?_
      replace h := h v14 e14
      refine WP_goto (tgt := 9) dX9_lowestTerms_41 (by decide) ?_
      refine WP_lforget (L' := [(1, x0), (9, 0), (1, x2), (9, 0), (0, x4), (1, x7), (9, 0), (1, v12), (9, 0), (0, v14), (9, 0), (9, 0)]) rfl (fun i hi => ?_) h
      match i, hi with
      | 0, _ => exact Or.inl rfl
      | 1, _ => exact Or.inl rfl
      | 2, _ => exact Or.inl rfl
      | 3, _ => exact Or.inl rfl
      | 4, _ => exact Or.inl rfl
      | 5, _ => exact Or.inl rfl
      | 6, _ => exact Or.inl rfl
      | 7, _ => exact Or.inl rfl
      | 8, _ => exact Or.inl rfl
      | 9, _ => exact Or.inl rfl
      | 10, _ => exact Or.inr rfl
      | 11, _ => exact Or.inl rfl
      | i + 12, hi => exact absurd hi (by simp only [List.length_cons, List.length_nil]; omega)

theorem s_X9_mean_0 {d : Nat} {sc : SC} {Q : Int → Mem → Prop} {μ : Mem} {a1 a2 : Int}
    (h : CAi mX9_isPerson d sc [(2, 0), (0, a1)] μ (fun r1 μ2 => (r1 = 0 → Q (-2) μ2) ∧ (r1 ≠ 0 → (a2 < 0 → Q (-2) μ2) ∧ (0 ≤ a2 → (a2 ≤ 1 → CAv mX9_knowOdds d sc [(2, 0)] μ2 (fun μ7 => (0 ≤ a1 ∧ a1 < 6) ∧ CAl mX9_lowestTerms d sc [(1, μ7 119 a1), (1, μ7 117 1), (0, a2)] μ7 (fun r9 μ10 => Q r9 μ10))) ∧ (1 < a2 → Q (-2) μ2))))) :
    WQ mX9_mean d sc (ZL sc Q) 0 [(2, 0), (0, a1), (0, a2)] [] μ := by
  refine WP_aload_n dX9_mean_0 rfl rfl ⟨Nat.le_of_ble_eq_true rfl, Nat.le_of_ble_eq_true rfl⟩ ?_
  refine WP_iload_n dX9_mean_1 rfl rfl ?_
  refine WQ_invVi (v := (2, 0)) (as := [(0, a1)]) dX9_mean_2 l_X9_127 mw_X9_isPerson mi_X9_isPerson ms_X9_isPerson mo_X9_isPerson (rcv (ci := 9) (n := 20) (r := (RX9, TX9, 20)) k_0 rfl rfl) (Nat.le_of_ble_eq_true rfl) h rfl (fun r1 μ2 h => ?_)
  refine WQ_ifeq (tgt := 17) dX9_mean_5 (by decide) (fun c3 => ?_) (fun c3 => ?_)
  · replace h := h.1 c3
    refine WP_ldc2 dX9_mean_17 c_X9_341 (by decide) ?_
    exact WQ_lreturn dX9_mean_20 rfl h
  · replace h := h.2 c3
    refine WP_iload_n dX9_mean_8 rfl rfl ?_
    refine WQ_iflt (tgt := 17) dX9_mean_9 (by decide) (fun c4 => ?_) (fun c4 => ?_)
    · replace h := h.1 c4
      refine WP_ldc2 dX9_mean_17 c_X9_341 (by decide) ?_
      exact WQ_lreturn dX9_mean_20 rfl h
    · replace h := h.2 c4
      refine WP_iload_n dX9_mean_12 rfl rfl ?_
      refine WP_iconst dX9_mean_13 (by decide) ?_
      refine WQ_icmp_le (tgt := 21) dX9_mean_14 (by decide) (fun c5 => ?_) (fun c5 => ?_)
      · replace h := h.1 c5
        refine WP_aload_n dX9_mean_21 rfl rfl ⟨Nat.le_of_ble_eq_true rfl, Nat.le_of_ble_eq_true rfl⟩ ?_
        refine WQ_invVv (v := (2, 0)) (as := []) dX9_mean_22 l_X9_327 mw_X9_knowOdds mi_X9_knowOdds ms_X9_knowOdds mo_X9_knowOdds (rcv (ci := 9) (n := 20) (r := (RX9, TX9, 20)) k_0 rfl rfl) (Nat.le_of_ble_eq_true rfl) h rfl (fun μ7 h => ?_)
        refine WP_aload_n dX9_mean_25 rfl rfl ⟨Nat.le_of_ble_eq_true rfl, Nat.le_of_ble_eq_true rfl⟩ ?_
        refine WP_getfield (ci := 9) (j := 12) (n := 20) (t := 2) (x := 117) dX9_mean_26 f_X9_68 k_0 rfl rfl ?_
        refine WP_getfield (ci := 4) (j := 3) (n := 4) (t := 2) (x := 119) dX9_mean_29 f_X9_343 k_117 rfl rfl ?_
        refine WP_iload_n dX9_mean_32 rfl rfl ?_
        obtain ⟨g8, h⟩ := h
        refine WP_laload (n := 6) dX9_mean_33 k_119 g8 ?_
        refine WP_aload_n dX9_mean_34 rfl rfl ⟨Nat.le_of_ble_eq_true rfl, Nat.le_of_ble_eq_true rfl⟩ ?_
        refine WP_getfield (ci := 9) (j := 12) (n := 20) (t := 2) (x := 117) dX9_mean_35 f_X9_68 k_0 rfl rfl ?_
        refine WP_getfield (ci := 4) (j := 1) (n := 4) (t := 1) (x := μ7 117 1) dX9_mean_38 f_X9_333 k_117 rfl rfl ?_
        refine WP_iload_n dX9_mean_41 rfl rfl ?_
        refine WQ_invSl (as := [(1, μ7 119 a1), (1, μ7 117 1), (0, a2)]) dX9_mean_42 l_X9_337 mw_X9_lowestTerms mt_X9_lowestTerms mo_X9_lowestTerms (Nat.le_of_ble_eq_true rfl) h rfl (fun r9 μ10 h => ?_)
        exact WQ_lreturn dX9_mean_45 rfl h
      · replace h := h.2 c5
        refine WP_ldc2 dX9_mean_17 c_X9_341 (by decide) ?_
        exact WQ_lreturn dX9_mean_20 rfl h

theorem s_X9_minute_0 {d : Nat} {sc : SC} {Q : Int → Mem → Prop} {μ : Mem} {a1 a2 : Int}
    (h : CAi mX9_isPerson d sc [(2, 0), (0, a1)] μ (fun r1 μ2 => (r1 ≠ 0 → (0 ≤ a2 → CAv mX9_know d sc [(2, 0)] μ2 (fun μ6 => WQ mX9_minute d sc (ZI sc Q) 27 [(2, 0), (0, a1), (9, 0), (0, a2), (0, 0)] [] μ6)) ∧ (a2 < 0 → Q (-3) μ2)) ∧ (r1 = 0 → Q (-2) μ2))) :
    WQ mX9_minute d sc (ZI sc Q) 0 [(2, 0), (0, a1), (0, a2), (9, 0), (9, 0)] [] μ := by
  refine WP_aload_n dX9_minute_0 rfl rfl ⟨Nat.le_of_ble_eq_true rfl, Nat.le_of_ble_eq_true rfl⟩ ?_
  refine WP_iload_n dX9_minute_1 rfl rfl ?_
  refine WQ_invVi (v := (2, 0)) (as := [(0, a1)]) dX9_minute_2 l_X9_127 mw_X9_isPerson mi_X9_isPerson ms_X9_isPerson mo_X9_isPerson (rcv (ci := 9) (n := 20) (r := (RX9, TX9, 20)) k_0 rfl rfl) (Nat.le_of_ble_eq_true rfl) h rfl (fun r1 μ2 h => ?_)
  refine WQ_ifne (tgt := 11) dX9_minute_5 (by decide) (fun c3 => ?_) (fun c3 => ?_)
  · replace h := h.1 c3
    refine WP_iload_n dX9_minute_11 rfl rfl ?_
    refine WQ_ifge (tgt := 18) dX9_minute_12 (by decide) (fun c4 => ?_) (fun c4 => ?_)
    · replace h := h.1 c4
      refine WP_aload_n dX9_minute_18 rfl rfl ⟨Nat.le_of_ble_eq_true rfl, Nat.le_of_ble_eq_true rfl⟩ ?_
      refine WQ_invVv (v := (2, 0)) (as := []) dX9_minute_19 l_X9_161 mw_X9_know mi_X9_know ms_X9_know mo_X9_know (rcv (ci := 9) (n := 20) (r := (RX9, TX9, 20)) k_0 rfl rfl) (Nat.le_of_ble_eq_true rfl) h rfl (fun μ6 h => ?_)
      refine WP_iload_n dX9_minute_22 rfl rfl ?_
      refine WP_istore_n (L' := [(2, 0), (0, a1), (0, a2), (0, a2), (9, 0)]) dX9_minute_23 rfl (by decide) rfl ?_
      refine WP_iconst dX9_minute_24 (by decide) ?_
      refine WP_istore (L' := [(2, 0), (0, a1), (0, a2), (0, a2), (0, 0)]) dX9_minute_25 (by decide) rfl ?_
      refine WP_lforget (L' := [(2, 0), (0, a1), (9, 0), (0, a2), (0, 0)]) rfl (fun i hi => ?_) h
      match i, hi with
      | 0, _ => exact Or.inl rfl
      | 1, _ => exact Or.inl rfl
      | 2, _ => exact Or.inr rfl
      | 3, _ => exact Or.inl rfl
      | 4, _ => exact Or.inl rfl
      | i + 5, hi => exact absurd hi (by simp only [List.length_cons, List.length_nil]; omega)
    · replace h := h.2 c4
      refine WP_bipush dX9_minute_15 (by decide +kernel) (by decide) ?_
      exact WQ_ireturn dX9_minute_17 rfl h
  · replace h := h.2 c3
    refine WP_bipush dX9_minute_8 (by decide +kernel) (by decide) ?_
    exact WQ_ireturn dX9_minute_10 rfl h

theorem s_X9_minute_27 {d : Nat} {sc : SC} {Q : Int → Mem → Prop} {μ : Mem} {x1 x3 x4 : Int}
    (h : (μ 105 0 ≤ x4 → Q (-1) μ) ∧ (x4 < μ 105 0 → (0 ≤ x4 ∧ x4 < 512) ∧ 0 ≤ μ 106 x4 ∧ ((μ 106 x4) % 6 ≠ x1 → (-2147483648 ≤ x4 + 1 ∧ x4 + 1 < 2147483648) ∧ ∀ v6 : Int, v6 = x4 + 1 → WQ mX9_minute d sc (ZI sc Q) 27 [(2, 0), (0, x1), (9, 0), (0, x3), (0, v6)] [] μ) ∧ ((μ 106 x4) % 6 = x1 → (x3 ≠ 0 → (-2147483648 ≤ x3 + (-1) ∧ x3 + (-1) < 2147483648) ∧ ∀ v9 : Int, v9 = x3 + (-1) → (-2147483648 ≤ x4 + 1 ∧ x4 + 1 < 2147483648) ∧ ∀ v11 : Int, v11 = x4 + 1 → WQ mX9_minute d sc (ZI sc Q) 27 [(2, 0), (0, x1), (9, 0), (0, v9), (0, v11)] [] μ) ∧ (x3 = 0 → (0 ≤ x4 ∧ x4 < 512) ∧ Q (μ 107 x4) μ)))) :
    WQ mX9_minute d sc (ZI sc Q) 27 [(2, 0), (0, x1), (9, 0), (0, x3), (0, x4)] [] μ := by
  refine WP_iload dX9_minute_27 rfl ?_
  refine WP_aload_n dX9_minute_29 rfl rfl ⟨Nat.le_of_ble_eq_true rfl, Nat.le_of_ble_eq_true rfl⟩ ?_
  refine WP_getfield (ci := 9) (j := 11) (n := 20) (t := 2) (x := 105) dX9_minute_30 f_X9_61 k_0 rfl rfl ?_
  refine WP_getfield (ci := 0) (j := 0) (n := 16) (t := 0) (x := μ 105 0) dX9_minute_33 f_X9_238 k_105 rfl rfl ?_
  refine WQ_icmp_ge (tgt := 80) dX9_minute_36 (by decide) (fun c1 => ?_) (fun c1 => ?_)
  · replace h := h.1 c1
    refine WP_iconst dX9_minute_80 (by decide) ?_
    exact WQ_ireturn dX9_minute_81 rfl h
  · replace h := h.2 c1
    refine WP_aload_n dX9_minute_39 rfl rfl ⟨Nat.le_of_ble_eq_true rfl, Nat.le_of_ble_eq_true rfl⟩ ?_
    refine WP_getfield (ci := 9) (j := 11) (n := 20) (t := 2) (x := 105) dX9_minute_40 f_X9_61 k_0 rfl rfl ?_
    refine WP_getfield (ci := 0) (j := 1) (n := 16) (t := 2) (x := 106) dX9_minute_43 f_X9_258 k_105 rfl rfl ?_
    refine WP_iload dX9_minute_46 rfl ?_
    obtain ⟨g2, h⟩ := h
    refine WP_iaload (n := 512) dX9_minute_48 k_106 g2 ?_
    refine WP_bipush dX9_minute_49 (by decide +kernel) (by decide) ?_
    obtain ⟨g3, h⟩ := h
    refine WP_irem dX9_minute_51 ⟨g3, by decide⟩ ?_
    refine WP_iload_n dX9_minute_52 rfl rfl ?_
    refine WQ_icmp_ne (tgt := 74) dX9_minute_53 (by decide) (fun c4 => ?_) (fun c4 => ?_)
    · replace h := h.1 c4
      obtain ⟨g5, h⟩ := h
      refine WQ_iinc dX9_minute_74 rfl (by decide) g5 (fun v6 e6 => ?_)
      refine WP_same (L' := [(2, 0), (0, x1), (9, 0), (0, x3), (0, v6)]) rfl ?_
      replace h := h v6 e6
      refine WP_goto (tgt := 27) dX9_minute_77 (by decide) ?_
      exact h
    · replace h := h.2 c4
      refine WP_iload_n dX9_minute_56 rfl rfl ?_
      refine WQ_ifne (tgt := 71) dX9_minute_57 (by decide) (fun c7 => ?_) (fun c7 => ?_)
      · replace h := h.1 c7
        obtain ⟨g8, h⟩ := h
        refine WQ_iinc dX9_minute_71 rfl (by decide) g8 (fun v9 e9 => ?_)
        refine WP_same (L' := [(2, 0), (0, x1), (9, 0), (0, v9), (0, x4)]) rfl ?_
        replace h := h v9 e9
        obtain ⟨g10, h⟩ := h
        refine WQ_iinc dX9_minute_74 rfl (by decide) g10 (fun v11 e11 => ?_)
        refine WP_same (L' := [(2, 0), (0, x1), (9, 0), (0, v9), (0, v11)]) rfl ?_
        replace h := h v11 e11
        refine WP_goto (tgt := 27) dX9_minute_77 (by decide) ?_
        exact h
      · replace h := h.2 c7
        refine WP_aload_n dX9_minute_60 rfl rfl ⟨Nat.le_of_ble_eq_true rfl, Nat.le_of_ble_eq_true rfl⟩ ?_
        refine WP_getfield (ci := 9) (j := 11) (n := 20) (t := 2) (x := 105) dX9_minute_61 f_X9_61 k_0 rfl rfl ?_
        refine WP_getfield (ci := 0) (j := 2) (n := 16) (t := 2) (x := 107) dX9_minute_64 f_X9_261 k_105 rfl rfl ?_
        refine WP_iload dX9_minute_67 rfl ?_
        obtain ⟨g12, h⟩ := h
        refine WP_iaload (n := 512) dX9_minute_69 k_107 g12 ?_
        exact WQ_ireturn dX9_minute_70 rfl h

theorem s_X9_mostAlike_0 {d : Nat} {sc : SC} {Q : Int → Mem → Prop} {μ : Mem} {a1 a2 a3 : Int}
    (h : CAv mJ7_fill_53178 d sc [(2, 148), (0, 0)] μ (fun μ2 => WQ mX9_mostAlike d sc (ZI sc Q) 14 [(2, 0), (0, a1), (0, a2), (0, a3), (0, 0), (0, 0), (9, 0)] [] μ2)) :
    WQ mX9_mostAlike d sc (ZI sc Q) 0 [(2, 0), (0, a1), (0, a2), (0, a3), (9, 0), (9, 0), (9, 0)] [] μ := by
  refine WP_aload_n dX9_mostAlike_0 rfl rfl ⟨Nat.le_of_ble_eq_true rfl, Nat.le_of_ble_eq_true rfl⟩ ?_
  refine WP_getfield (ci := 9) (j := 18) (n := 20) (t := 2) (x := 148) dX9_mostAlike_1 f_X9_96 k_0 rfl rfl ?_
  refine WP_iconst dX9_mostAlike_4 (by decide) ?_
  refine WQ_invSv (as := [(2, 148), (0, 0)]) dX9_mostAlike_5 l_X9_407 mw_J7_fill_53178 mt_J7_fill_53178 mo_J7_fill_53178 (Nat.le_of_ble_eq_true rfl) h rfl (fun μ2 h => ?_)
  refine WP_iconst dX9_mostAlike_8 (by decide) ?_
  refine WP_istore (L' := [(2, 0), (0, a1), (0, a2), (0, a3), (0, 0), (9, 0), (9, 0)]) dX9_mostAlike_9 (by decide) rfl ?_
  refine WP_iconst dX9_mostAlike_11 (by decide) ?_
  refine WP_istore (L' := [(2, 0), (0, a1), (0, a2), (0, a3), (0, 0), (0, 0), (9, 0)]) dX9_mostAlike_12 (by decide) rfl ?_
  exact h

theorem s_X9_mostAlike_14 {d : Nat} {sc : SC} {Q : Int → Mem → Prop} {μ : Mem} {x1 x2 x3 x4 x5 : Int} (hd2 : 2 ≤ d)
    (h : (x3 ≤ x5 → Q x4 μ) ∧ (x5 < x3 → (0 ≤ x5 ∧ x5 < 64) ∧ (0 ≤ x1 ∧ x1 < 6) ∧ (∀ μ4, μ4 = mup μ 126 x1 (μ 147 x5) → CAi mX3_gapOf d sc [(2, 127), (0, x1), (0, x2)] μ4 (fun r5 μ6 => (0 ≤ r5 ∧ r5 < 21) ∧ (-2147483648 ≤ (μ6 148 r5) + 1 ∧ (μ6 148 r5) + 1 < 2147483648) ∧ (0 ≤ r5 ∧ r5 < 21) ∧ (∀ μ10, μ10 = mup μ6 148 r5 ((μ6 148 r5) + 1) → (0 ≤ r5 ∧ r5 < 21) ∧ (∀ v12 : Int, v12 = max x4 (μ10 148 r5) → (-2147483648 ≤ x5 + 1 ∧ x5 + 1 < 2147483648) ∧ ∀ v14 : Int, v14 = x5 + 1 → WQ mX9_mostAlike d sc (ZI sc Q) 14 [(2, 0), (0, x1), (0, x2), (0, x3), (0, v12), (0, v14), (9, 0)] [] μ10)))))) :
    WQ mX9_mostAlike d sc (ZI sc Q) 14 [(2, 0), (0, x1), (0, x2), (0, x3), (0, x4), (0, x5), (9, 0)] [] μ := by
  refine WP_iload dX9_mostAlike_14 rfl ?_
  refine WP_iload_n dX9_mostAlike_16 rfl rfl ?_
  refine WQ_icmp_ge (tgt := 78) dX9_mostAlike_17 (by decide) (fun c1 => ?_) (fun c1 => ?_)
  · replace h := h.1 c1
    refine WP_iload dX9_mostAlike_78 rfl ?_
    exact WQ_ireturn dX9_mostAlike_80 rfl h
  · replace h := h.2 c1
    refine WP_aload_n dX9_mostAlike_20 rfl rfl ⟨Nat.le_of_ble_eq_true rfl, Nat.le_of_ble_eq_true rfl⟩ ?_
    refine WP_getfield (ci := 9) (j := 14) (n := 20) (t := 2) (x := 121) dX9_mostAlike_21 f_X9_82 k_0 rfl rfl ?_
    refine WP_getfield (ci := 6) (j := 5) (n := 7) (t := 2) (x := 126) dX9_mostAlike_24 f_X9_134 k_121 rfl rfl ?_
    refine WP_iload_n dX9_mostAlike_27 rfl rfl ?_
    refine WP_aload_n dX9_mostAlike_28 rfl rfl ⟨Nat.le_of_ble_eq_true rfl, Nat.le_of_ble_eq_true rfl⟩ ?_
    refine WP_getfield (ci := 9) (j := 17) (n := 20) (t := 2) (x := 147) dX9_mostAlike_29 f_X9_92 k_0 rfl rfl ?_
    refine WP_iload dX9_mostAlike_32 rfl ?_
    obtain ⟨g2, h⟩ := h
    refine WP_iaload (n := 64) dX9_mostAlike_34 k_147 g2 ?_
    obtain ⟨g3, h⟩ := h
    refine WQ_iast (n := 6) dX9_mostAlike_35 k_126 g3 (fun μ4 eμ4 => ?_)
    replace h := h μ4 eμ4
    refine WP_aload_n dX9_mostAlike_36 rfl rfl ⟨Nat.le_of_ble_eq_true rfl, Nat.le_of_ble_eq_true rfl⟩ ?_
    refine WP_getfield (ci := 9) (j := 15) (n := 20) (t := 2) (x := 127) dX9_mostAlike_37 f_X9_86 k_0 rfl rfl ?_
    refine WP_iload_n dX9_mostAlike_40 rfl rfl ?_
    refine WP_iload_n dX9_mostAlike_41 rfl rfl ?_
    refine WQ_invVi (v := (2, 127)) (as := [(0, x1), (0, x2)]) dX9_mostAlike_42 l_X9_404 mw_X3_gapOf mi_X3_gapOf ms_X3_gapOf mo_X3_gapOf (rcv (ci := 3) (n := 9) (r := (RX3, TX3, 9)) k_127 rfl rfl) (Nat.le_of_ble_eq_true rfl) h rfl (fun r5 μ6 h => ?_)
    refine WP_istore (L' := [(2, 0), (0, x1), (0, x2), (0, x3), (0, x4), (0, x5), (0, r5)]) dX9_mostAlike_45 (by decide) rfl ?_
    refine WP_aload_n dX9_mostAlike_47 rfl rfl ⟨Nat.le_of_ble_eq_true rfl, Nat.le_of_ble_eq_true rfl⟩ ?_
    refine WP_getfield (ci := 9) (j := 18) (n := 20) (t := 2) (x := 148) dX9_mostAlike_48 f_X9_96 k_0 rfl rfl ?_
    refine WP_iload dX9_mostAlike_51 rfl ?_
    refine WP_dup2 dX9_mostAlike_53 (by simp) (by simp) ?_
    obtain ⟨g7, h⟩ := h
    refine WP_iaload (n := 21) dX9_mostAlike_54 k_148 g7 ?_
    refine WP_iconst dX9_mostAlike_55 (by decide) ?_
    obtain ⟨g8, h⟩ := h
    refine WP_iadd dX9_mostAlike_56 g8 ?_
    obtain ⟨g9, h⟩ := h
    refine WQ_iast (n := 21) dX9_mostAlike_57 k_148 g9 (fun μ10 eμ10 => ?_)
    replace h := h μ10 eμ10
    refine WP_iload dX9_mostAlike_58 rfl ?_
    refine WP_aload_n dX9_mostAlike_60 rfl rfl ⟨Nat.le_of_ble_eq_true rfl, Nat.le_of_ble_eq_true rfl⟩ ?_
    refine WP_getfield (ci := 9) (j := 18) (n := 20) (t := 2) (x := 148) dX9_mostAlike_61 f_X9_96 k_0 rfl rfl ?_
    refine WP_iload dX9_mostAlike_64 rfl ?_
    obtain ⟨g11, h⟩ := h
    refine WP_iaload (n := 21) dX9_mostAlike_66 k_148 g11 ?_
    refine WQ_mmax (by omega) dX9_mostAlike_67 l_X9_413 (Nat.le_of_ble_eq_true rfl) ?_
    refine WQ_nm0 (fun v12 e12 => ?_)
    replace h := h v12 e12
    refine WP_istore (L' := [(2, 0), (0, x1), (0, x2), (0, x3), (0, v12), (0, x5), (0, r5)]) dX9_mostAlike_70 (by decide) rfl ?_
    obtain ⟨g13, h⟩ := h
    refine WQ_iinc dX9_mostAlike_72 rfl (by decide) g13 (fun v14 e14 => ?_)
    refine WP_same (L' := [(2, 0), (0, x1), (0, x2), (0, x3), (0, v12), (0, v14), (0, r5)]) rfl ?_
    replace h := h v14 e14
    refine WP_goto (tgt := 14) dX9_mostAlike_75 (by decide) ?_
    refine WP_lforget (L' := [(2, 0), (0, x1), (0, x2), (0, x3), (0, v12), (0, v14), (9, 0)]) rfl (fun i hi => ?_) h
    match i, hi with
    | 0, _ => exact Or.inl rfl
    | 1, _ => exact Or.inl rfl
    | 2, _ => exact Or.inl rfl
    | 3, _ => exact Or.inl rfl
    | 4, _ => exact Or.inl rfl
    | 5, _ => exact Or.inl rfl
    | 6, _ => exact Or.inr rfl
    | i + 7, hi => exact absurd hi (by simp only [List.length_cons, List.length_nil]; omega)

theorem s_X9_move_0 {d : Nat} {sc : SC} {Q : Int → Mem → Prop} {μ : Mem} {a1 a2 : Int}
    (h : isK 1 (μ 0 2) ∧ CAv mX6_copyFrom d sc [(2, 121), (2, μ 0 2 + 7)] μ (fun μ3 => CAi mX9_moveIn d sc [(2, 0), (2, 121), (0, a1), (0, a2)] μ3 (fun r4 μ5 => (r4 = 0 → isK 1 (μ5 0 2) ∧ (0 ≤ a1 ∧ a1 < 6) ∧ (∀ v9 : Int, v9 = μ5 (μ5 0 2 + 7 + 5) a1 → CAv mX9_acceptTrial d sc [(2, 0)] μ5 (fun μ11 => Q v9 μ11))) ∧ (r4 ≠ 0 → (-2147483648 ≤ (-10) - r4 ∧ (-10) - r4 < 2147483648) ∧ Q ((-10) - r4) μ5)))) :
    WQ mX9_move d sc (ZI sc Q) 0 [(2, 0), (0, a1), (0, a2), (9, 0), (9, 0)] [] μ := by
  refine WP_aload_n dX9_move_0 rfl rfl ⟨Nat.le_of_ble_eq_true rfl, Nat.le_of_ble_eq_true rfl⟩ ?_
  refine WP_getfield (ci := 9) (j := 14) (n := 20) (t := 2) (x := 121) dX9_move_1 f_X9_82 k_0 rfl rfl ?_
  refine WP_aload_n dX9_move_4 rfl rfl ⟨Nat.le_of_ble_eq_true rfl, Nat.le_of_ble_eq_true rfl⟩ ?_
  refine WP_getfield (ci := 9) (j := 2) (n := 20) (t := 2) (x := μ 0 2) dX9_move_5 f_X9_16 k_0 rfl rfl ?_
  obtain ⟨g1, h⟩ := h
  refine WP_getfield (ci := 1) (j := 10) (n := 11) (t := 2) (x := μ 0 2 + 7) dX9_move_8 f_X9_131 g1 rfl rfl ?_
  refine WQ_invVv (v := (2, 121)) (as := [(2, μ 0 2 + 7)]) dX9_move_11 l_X9_176 mw_X6_copyFrom mi_X6_copyFrom ms_X6_copyFrom mo_X6_copyFrom (rcv (ci := 6) (n := 7) (r := (RX6, TX6, 7)) k_121 rfl rfl) (Nat.le_of_ble_eq_true rfl) h rfl (fun μ3 h => ?_)
  refine WP_aload_n dX9_move_14 rfl rfl ⟨Nat.le_of_ble_eq_true rfl, Nat.le_of_ble_eq_true rfl⟩ ?_
  refine WP_aload_n dX9_move_15 rfl rfl ⟨Nat.le_of_ble_eq_true rfl, Nat.le_of_ble_eq_true rfl⟩ ?_
  refine WP_getfield (ci := 9) (j := 14) (n := 20) (t := 2) (x := 121) dX9_move_16 f_X9_82 k_0 rfl rfl ?_
  refine WP_iload_n dX9_move_19 rfl rfl ?_
  refine WP_iload_n dX9_move_20 rfl rfl ?_
  refine WQ_invVi (v := (2, 0)) (as := [(2, 121), (0, a1), (0, a2)]) dX9_move_21 l_X9_191 mw_X9_moveIn mi_X9_moveIn ms_X9_moveIn mo_X9_moveIn (rcv (ci := 9) (n := 20) (r := (RX9, TX9, 20)) k_0 rfl rfl) (Nat.le_of_ble_eq_true rfl) h rfl (fun r4 μ5 h => ?_)
  refine WP_istore_n (L' := [(2, 0), (0, a1), (0, a2), (0, r4), (9, 0)]) dX9_move_24 rfl (by decide) rfl ?_
  refine WP_iload_n dX9_move_25 rfl rfl ?_
  refine WQ_ifeq (tgt := 34) dX9_move_26 (by decide) (fun c6 => ?_) (fun c6 => ?_)
  · replace h := h.1 c6
    refine WP_aload_n dX9_move_34 rfl rfl ⟨Nat.le_of_ble_eq_true rfl, Nat.le_of_ble_eq_true rfl⟩ ?_
    refine WP_getfield (ci := 9) (j := 2) (n := 20) (t := 2) (x := μ5 0 2) dX9_move_35 f_X9_16 k_0 rfl rfl ?_
    obtain ⟨g7, h⟩ := h
    refine WP_getfield (ci := 1) (j := 10) (n := 11) (t := 2) (x := μ5 0 2 + 7) dX9_move_38 f_X9_131 g7 rfl rfl ?_
    refine WP_getfield (ci := 6) (j := 5) (n := 7) (t := 2) (x := μ5 0 2 + 7 + 5) dX9_move_41 f_X9_134 (kf_1_10 g7) rfl rfl ?_
    refine WP_iload_n dX9_move_44 rfl rfl ?_
    obtain ⟨g8, h⟩ := h
    refine WP_iaload (n := 6) dX9_move_45 (kf_6_5 (kf_1_10 g7)) g8 ?_
    refine WQ_nm0 (fun v9 e9 => ?_)
    replace h := h v9 e9
    refine WP_istore (L' := [(2, 0), (0, a1), (0, a2), (0, r4), (0, v9)]) dX9_move_46 (by decide) rfl ?_
    refine WP_aload_n dX9_move_48 rfl rfl ⟨Nat.le_of_ble_eq_true rfl, Nat.le_of_ble_eq_true rfl⟩ ?_
    refine WQ_invVv (v := (2, 0)) (as := []) dX9_move_49 l_X9_184 mw_X9_acceptTrial mi_X9_acceptTrial ms_X9_acceptTrial mo_X9_acceptTrial (rcv (ci := 9) (n := 20) (r := (RX9, TX9, 20)) k_0 rfl rfl) (Nat.le_of_ble_eq_true rfl) h rfl (fun μ11 h => ?_)
    refine WP_iload dX9_move_52 rfl ?_
    exact WQ_ireturn dX9_move_54 rfl h
  · replace h := h.2 c6
    refine WP_bipush dX9_move_29 (by decide +kernel) (by decide) ?_
    refine WP_iload_n dX9_move_31 rfl rfl ?_
    obtain ⟨g12, h⟩ := h
    refine WP_isub dX9_move_32 g12 ?_
    exact WQ_ireturn dX9_move_33 rfl h

theorem s_X9_moveIn_0 {d : Nat} {sc : SC} {Q : Int → Mem → Prop} {μ : Mem} {a1 a2 a3 : Int} (ha1 : isK 6 a1)
    (h : CAi mX9_isPerson d sc [(2, 0), (0, a2)] μ (fun r1 μ2 => (r1 = 0 → Q 1 μ2) ∧ (r1 ≠ 0 → (a3 < 0 → Q 1 μ2) ∧ (0 ≤ a3 → isK 1 (μ2 0 2) ∧ CAi mX1_cells d sc [(2, μ2 0 2)] μ2 (fun r6 μ7 => (a3 < r6 → (0 ≤ a2 ∧ a2 < 6) ∧ (∀ μ10, μ10 = mup μ7 (a1 + 5) a2 a3 → Q 0 μ10)) ∧ (r6 ≤ a3 → Q 1 μ7)))))) :
    WQ mX9_moveIn d sc (ZI sc Q) 0 [(2, 0), (2, a1), (0, a2), (0, a3)] [] μ := by
  refine WP_aload_n dX9_moveIn_0 rfl rfl ⟨Nat.le_of_ble_eq_true rfl, Nat.le_of_ble_eq_true rfl⟩ ?_
  refine WP_iload_n dX9_moveIn_1 rfl rfl ?_
  refine WQ_invVi (v := (2, 0)) (as := [(0, a2)]) dX9_moveIn_2 l_X9_127 mw_X9_isPerson mi_X9_isPerson ms_X9_isPerson mo_X9_isPerson (rcv (ci := 9) (n := 20) (r := (RX9, TX9, 20)) k_0 rfl rfl) (Nat.le_of_ble_eq_true rfl) h rfl (fun r1 μ2 h => ?_)
  refine WQ_ifeq (tgt := 23) dX9_moveIn_5 (by decide) (fun c3 => ?_) (fun c3 => ?_)
  · replace h := h.1 c3
    refine WP_iconst dX9_moveIn_23 (by decide) ?_
    exact WQ_ireturn dX9_moveIn_24 rfl h
  · replace h := h.2 c3
    refine WP_iload_n dX9_moveIn_8 rfl rfl ?_
    refine WQ_iflt (tgt := 23) dX9_moveIn_9 (by decide) (fun c4 => ?_) (fun c4 => ?_)
    · replace h := h.1 c4
      refine WP_iconst dX9_moveIn_23 (by decide) ?_
      exact WQ_ireturn dX9_moveIn_24 rfl h
    · replace h := h.2 c4
      refine WP_iload_n dX9_moveIn_12 rfl rfl ?_
      refine WP_aload_n dX9_moveIn_13 rfl rfl ⟨Nat.le_of_ble_eq_true rfl, Nat.le_of_ble_eq_true rfl⟩ ?_
      refine WP_getfield (ci := 9) (j := 2) (n := 20) (t := 2) (x := μ2 0 2) dX9_moveIn_14 f_X9_16 k_0 rfl rfl ?_
      obtain ⟨g5, h⟩ := h
      refine WQ_invVi (v := (2, μ2 0 2)) (as := []) dX9_moveIn_17 l_X9_278 mw_X1_cells mi_X1_cells ms_X1_cells mo_X1_cells (rcv (ci := 1) (n := 11) (r := (RX1, TX1, 11)) g5 rfl rfl) (Nat.le_of_ble_eq_true rfl) h rfl (fun r6 μ7 h => ?_)
      refine WQ_icmp_lt (tgt := 25) dX9_moveIn_20 (by decide) (fun c8 => ?_) (fun c8 => ?_)
      · replace h := h.1 c8
        refine WP_aload_n dX9_moveIn_25 rfl rfl ⟨Nat.le_of_ble_eq_true rfl, Nat.le_of_ble_eq_true rfl⟩ ?_
        refine WP_getfield (ci := 6) (j := 5) (n := 7) (t := 2) (x := a1 + 5) dX9_moveIn_26 f_X9_134 ha1 rfl rfl ?_
        refine WP_iload_n dX9_moveIn_29 rfl rfl ?_
        refine WP_iload_n dX9_moveIn_30 rfl rfl ?_
        obtain ⟨g9, h⟩ := h
        refine WQ_iast (n := 6) dX9_moveIn_31 (kf_6_5 ha1) g9 (fun μ10 eμ10 => ?_)
        replace h := h μ10 eμ10
        refine WP_iconst dX9_moveIn_32 (by decide) ?_
        exact WQ_ireturn dX9_moveIn_33 rfl h
      · replace h := h.2 c8
        refine WP_iconst dX9_moveIn_23 (by decide) ?_
        exact WQ_ireturn dX9_moveIn_24 rfl h

theorem s_X9_namesAtOnce_0 {d : Nat} {sc : SC} {Q : Int → Mem → Prop} {μ : Mem} {a1 a2 : Int}
    (h : WQ mX9_namesAtOnce d sc (ZI sc Q) 5 [(2, 0), (0, a1), (0, a2), (0, 0), (0, 0), (9, 0)] [] μ) :
    WQ mX9_namesAtOnce d sc (ZI sc Q) 0 [(2, 0), (0, a1), (0, a2), (9, 0), (9, 0), (9, 0)] [] μ := by
  refine WP_iconst dX9_namesAtOnce_0 (by decide) ?_
  refine WP_istore_n (L' := [(2, 0), (0, a1), (0, a2), (0, 0), (9, 0), (9, 0)]) dX9_namesAtOnce_1 rfl (by decide) rfl ?_
  refine WP_iconst dX9_namesAtOnce_2 (by decide) ?_
  refine WP_istore (L' := [(2, 0), (0, a1), (0, a2), (0, 0), (0, 0), (9, 0)]) dX9_namesAtOnce_3 (by decide) rfl ?_
  exact h

theorem s_X9_namesAtOnce_5 {d : Nat} {sc : SC} {Q : Int → Mem → Prop} {μ : Mem} {x1 x2 x3 x4 : Int}
    (h : isK 1 (μ 0 2) ∧ (μ (μ 0 2) 3 ≤ x4 → Q 1 μ) ∧ (x4 < μ (μ 0 2) 3 → (iAnd (iShr x2 x4) 1 = 0 → (-2147483648 ≤ x4 + 1 ∧ x4 + 1 < 2147483648) ∧ ∀ v5 : Int, v5 = x4 + 1 → WQ mX9_namesAtOnce d sc (ZI sc Q) 5 [(2, 0), (0, x1), (0, x2), (0, x3), (0, v5), (9, 0)] [] μ) ∧ (iAnd (iShr x2 x4) 1 ≠ 0 → CAi mX3_gapOf d sc [(2, 127), (0, x1), (0, x4)] μ (fun r6 μ7 => (x3 = 0 → (-2147483648 ≤ x4 + 1 ∧ x4 + 1 < 2147483648) ∧ ∀ v10 : Int, v10 = x4 + 1 → WQ mX9_namesAtOnce d sc (ZI sc Q) 5 [(2, 0), (0, x1), (0, x2), (0, r6), (0, v10), (9, 0)] [] μ7) ∧ (x3 ≠ 0 → (r6 = x3 → (-2147483648 ≤ x4 + 1 ∧ x4 + 1 < 2147483648) ∧ ∀ v13 : Int, v13 = x4 + 1 → WQ mX9_namesAtOnce d sc (ZI sc Q) 5 [(2, 0), (0, x1), (0, x2), (0, r6), (0, v13), (9, 0)] [] μ7) ∧ (r6 ≠ x3 → Q 0 μ7)))))) :
    WQ mX9_namesAtOnce d sc (ZI sc Q) 5 [(2, 0), (0, x1), (0, x2), (0, x3), (0, x4), (9, 0)] [] μ := by
  refine WP_iload dX9_namesAtOnce_5 rfl ?_
  refine WP_aload_n dX9_namesAtOnce_7 rfl rfl ⟨Nat.le_of_ble_eq_true rfl, Nat.le_of_ble_eq_true rfl⟩ ?_
  refine WP_getfield (ci := 9) (j := 2) (n := 20) (t := 2) (x := μ 0 2) dX9_namesAtOnce_8 f_X9_16 k_0 rfl rfl ?_
  obtain ⟨g1, h⟩ := h
  refine WP_getfield (ci := 1) (j := 3) (n := 11) (t := 0) (x := μ (μ 0 2) 3) dX9_namesAtOnce_11 f_X9_241 g1 rfl rfl ?_
  refine WQ_icmp_ge (tgt := 59) dX9_namesAtOnce_14 (by decide) (fun c2 => ?_) (fun c2 => ?_)
  · replace h := h.1 c2
    refine WP_iconst dX9_namesAtOnce_59 (by decide) ?_
    exact WQ_zreturn dX9_namesAtOnce_60 rfl ⟨by decide, by decide⟩ h
  · replace h := h.2 c2
    refine WP_iload_n dX9_namesAtOnce_17 rfl rfl ?_
    refine WP_iload dX9_namesAtOnce_18 rfl ?_
    refine WP_ishr dX9_namesAtOnce_20 ?_
    refine WP_iconst dX9_namesAtOnce_21 (by decide) ?_
    refine WP_iand dX9_namesAtOnce_22 ?_
    refine WQ_ifeq (tgt := 53) dX9_namesAtOnce_23 (by decide) (fun c3 => ?_) (fun c3 => ?_)
    · replace h := h.1 c3
      obtain ⟨g4, h⟩ := h
      refine WQ_iinc dX9_namesAtOnce_53 rfl (by decide) g4 (fun v5 e5 => ?_)
      refine WP_same (L' := [(2, 0), (0, x1), (0, x2), (0, x3), (0, v5), (9, 0)]) rfl ?_
      replace h := h v5 e5
      refine WP_goto (tgt := 5) dX9_namesAtOnce_56 (by decide) ?_
      exact h
    · replace h := h.2 c3
      refine WP_aload_n dX9_namesAtOnce_26 rfl rfl ⟨Nat.le_of_ble_eq_true rfl, Nat.le_of_ble_eq_true rfl⟩ ?_
      refine WP_getfield (ci := 9) (j := 15) (n := 20) (t := 2) (x := 127) dX9_namesAtOnce_27 f_X9_86 k_0 rfl rfl ?_
      refine WP_iload_n dX9_namesAtOnce_30 rfl rfl ?_
      refine WP_iload dX9_namesAtOnce_31 rfl ?_
      refine WQ_invVi (v := (2, 127)) (as := [(0, x1), (0, x4)]) dX9_namesAtOnce_33 l_X9_404 mw_X3_gapOf mi_X3_gapOf ms_X3_gapOf mo_X3_gapOf (rcv (ci := 3) (n := 9) (r := (RX3, TX3, 9)) k_127 rfl rfl) (Nat.le_of_ble_eq_true rfl) h rfl (fun r6 μ7 h => ?_)
      refine WP_istore (L' := [(2, 0), (0, x1), (0, x2), (0, x3), (0, x4), (0, r6)]) dX9_namesAtOnce_36 (by decide) rfl ?_
      refine WP_iload_n dX9_namesAtOnce_38 rfl rfl ?_
      refine WQ_ifeq (tgt := 50) dX9_namesAtOnce_39 (by decide) (fun c8 => ?_) (fun c8 => ?_)
      · replace h := h.1 c8
        refine WP_iload dX9_namesAtOnce_50 rfl ?_
        refine WP_istore_n (L' := [(2, 0), (0, x1), (0, x2), (0, r6), (0, x4), (0, r6)]) dX9_namesAtOnce_52 rfl (by decide) rfl ?_
        obtain ⟨g9, h⟩ := h
        refine WQ_iinc dX9_namesAtOnce_53 rfl (by decide) g9 (fun v10 e10 => ?_)
        refine WP_same (L' := [(2, 0), (0, x1), (0, x2), (0, r6), (0, v10), (0, r6)]) rfl ?_
        replace h := h v10 e10
        refine WP_goto (tgt := 5) dX9_namesAtOnce_56 (by decide) ?_
        refine WP_lforget (L' := [(2, 0), (0, x1), (0, x2), (0, r6), (0, v10), (9, 0)]) rfl (fun i hi => ?_) h
        match i, hi with
        | 0, _ => exact Or.inl rfl
        | 1, _ => exact Or.inl rfl
        | 2, _ => exact Or.inl rfl
        | 3, _ => exact Or.inl rfl
        | 4, _ => exact Or.inl rfl
        | 5, _ => exact Or.inr rfl
        | i + 6, hi => exact absurd hi (by simp only [List.length_cons, List.length_nil]; omega)
      · replace h := h.2 c8
        refine WP_iload dX9_namesAtOnce_42 rfl ?_
        refine WP_iload_n dX9_namesAtOnce_44 rfl rfl ?_
        refine WQ_icmp_eq (tgt := 50) dX9_namesAtOnce_45 (by decide) (fun c11 => ?_) (fun c11 => ?_)
        · replace h := h.1 c11
          refine WP_iload dX9_namesAtOnce_50 rfl ?_
          refine WP_istore_n (L' := [(2, 0), (0, x1), (0, x2), (0, r6), (0, x4), (0, r6)]) dX9_namesAtOnce_52 rfl (by decide) rfl ?_
          obtain ⟨g12, h⟩ := h
          refine WQ_iinc dX9_namesAtOnce_53 rfl (by decide) g12 (fun v13 e13 => ?_)
          refine WP_same (L' := [(2, 0), (0, x1), (0, x2), (0, r6), (0, v13), (0, r6)]) rfl ?_
          replace h := h v13 e13
          refine WP_goto (tgt := 5) dX9_namesAtOnce_56 (by decide) ?_
          refine WP_lforget (L' := [(2, 0), (0, x1), (0, x2), (0, r6), (0, v13), (9, 0)]) rfl (fun i hi => ?_) h
          match i, hi with
          | 0, _ => exact Or.inl rfl
          | 1, _ => exact Or.inl rfl
          | 2, _ => exact Or.inl rfl
          | 3, _ => exact Or.inl rfl
          | 4, _ => exact Or.inl rfl
          | 5, _ => exact Or.inr rfl
          | i + 6, hi => exact absurd hi (by simp only [List.length_cons, List.length_nil]; omega)
        · replace h := h.2 c11
          refine WP_iconst dX9_namesAtOnce_48 (by decide) ?_
          exact WQ_zreturn dX9_namesAtOnce_49 rfl ⟨by decide, by decide⟩ h

theorem s_X9_naming_0 {d : Nat} {sc : SC} {Q : Int → Mem → Prop} {μ : Mem} {a1 a2 : Int}
    (h : isK 1 (μ 0 2) ∧ (a1 < 0 → Q (-2) μ) ∧ (0 ≤ a1 → (a1 < μ (μ 0 2 + 7) 0 → (a2 = 0 → (0 ≤ a1 ∧ a1 < 10) ∧ Q (μ (μ 0 2 + 7 + 1) a1) μ) ∧ (a2 = 1 → (0 ≤ a1 ∧ a1 < 10) ∧ Q (μ (μ 0 2 + 7 + 2) a1) μ) ∧ (a2 = 2 → (0 ≤ a1 ∧ a1 < 10) ∧ Q (μ (μ 0 2 + 7 + 3) a1) μ) ∧ (a2 = 3 → (0 ≤ a1 ∧ a1 < 10) ∧ Q (μ (μ 0 2 + 7 + 4) a1) μ) ∧ (a2 = 4 → CAv mX9_know d sc [(2, 0)] μ (fun μ10 => (0 ≤ a1 ∧ a1 < 10) ∧ Q (μ10 110 a1) μ10)) ∧ ((a2 ≠ 0 ∧ a2 ≠ 1 ∧ a2 ≠ 2 ∧ a2 ≠ 3 ∧ a2 ≠ 4) → Q (-2) μ)) ∧ (μ (μ 0 2 + 7) 0 ≤ a1 → Q (-2) μ))) :
    WQ mX9_naming d sc (ZI sc Q) 0 [(2, 0), (0, a1), (0, a2), (9, 0)] [] μ := by
  refine WP_aload_n dX9_naming_0 rfl rfl ⟨Nat.le_of_ble_eq_true rfl, Nat.le_of_ble_eq_true rfl⟩ ?_
  refine WP_getfield (ci := 9) (j := 2) (n := 20) (t := 2) (x := μ 0 2) dX9_naming_1 f_X9_16 k_0 rfl rfl ?_
  obtain ⟨g1, h⟩ := h
  refine WP_getfield (ci := 1) (j := 10) (n := 11) (t := 2) (x := μ 0 2 + 7) dX9_naming_4 f_X9_131 g1 rfl rfl ?_
  refine WP_astore_n (L' := [(2, 0), (0, a1), (0, a2), (2, μ 0 2 + 7)]) dX9_naming_7 rfl (by decide) (Nat.le_of_ble_eq_true rfl) rfl ?_
  refine WP_iload_n dX9_naming_8 rfl rfl ?_
  refine WQ_iflt (tgt := 20) dX9_naming_9 (by decide) (fun c2 => ?_) (fun c2 => ?_)
  · replace h := h.1 c2
    refine WP_bipush dX9_naming_20 (by decide +kernel) (by decide) ?_
    exact WQ_ireturn dX9_naming_22 rfl h
  · replace h := h.2 c2
    refine WP_iload_n dX9_naming_12 rfl rfl ?_
    refine WP_aload_n dX9_naming_13 rfl rfl ⟨Nat.le_of_ble_eq_true rfl, Nat.le_of_ble_eq_true rfl⟩ ?_
    refine WP_getfield (ci := 6) (j := 0) (n := 7) (t := 0) (x := μ (μ 0 2 + 7) 0) dX9_naming_14 f_X9_146 (kf_1_10 g1) rfl rfl ?_
    refine WQ_icmp_lt (tgt := 23) dX9_naming_17 (by decide) (fun c3 => ?_) (fun c3 => ?_)
    · replace h := h.1 c3
      refine WP_iload_n dX9_naming_23 rfl rfl ?_
      have hD : (a2 ≠ 0 ∧ a2 ≠ 1 ∧ a2 ≠ 2 ∧ a2 ≠ 3 ∧ a2 ≠ 4) → WQ mX9_naming d sc (ZI sc Q) 102 [(2, 0), (0, a1), (0, a2), (2, μ 0 2 + 7)] [] μ := by
        intro c4
        replace h := h.2.2.2.2.2 c4
        refine WP_bipush dX9_naming_102 (by decide +kernel) (by decide) ?_
        exact WQ_ireturn dX9_naming_104 rfl h
      rcases (show (a2 < 0 ∨ 4 < a2) ∨ a2 = 0 ∨ a2 = 1 ∨ a2 = 2 ∨ a2 = 3 ∨ a2 = 4 by omega) with c4 | c4 | c4 | c4 | c4 | c4
      · exact WP_tableOut (tgt := 102) dX9_naming_24 c4 (by decide) (hD (by omega))
      · refine WP_tableIn (tgt := 60) dX9_naming_24 (by omega) (by omega) (by rw [c4]; rfl) (by decide) ?_
        replace h := h.1 c4
        refine WP_aload_n dX9_naming_60 rfl rfl ⟨Nat.le_of_ble_eq_true rfl, Nat.le_of_ble_eq_true rfl⟩ ?_
        refine WP_getfield (ci := 6) (j := 1) (n := 7) (t := 2) (x := μ 0 2 + 7 + 1) dX9_naming_61 f_X9_149 (kf_1_10 g1) rfl rfl ?_
        refine WP_iload_n dX9_naming_64 rfl rfl ?_
        obtain ⟨g5, h⟩ := h
        refine WP_iaload (n := 10) dX9_naming_65 (kf_6_1 (kf_1_10 g1)) g5 ?_
        exact WQ_ireturn dX9_naming_66 rfl h
      · refine WP_tableIn (tgt := 67) dX9_naming_24 (by omega) (by omega) (by rw [c4]; rfl) (by decide) ?_
        replace h := h.2.1 c4
        refine WP_aload_n dX9_naming_67 rfl rfl ⟨Nat.le_of_ble_eq_true rfl, Nat.le_of_ble_eq_true rfl⟩ ?_
        refine WP_getfield (ci := 6) (j := 2) (n := 7) (t := 2) (x := μ 0 2 + 7 + 2) dX9_naming_68 f_X9_152 (kf_1_10 g1) rfl rfl ?_
        refine WP_iload_n dX9_naming_71 rfl rfl ?_
        obtain ⟨g6, h⟩ := h
        refine WP_iaload (n := 10) dX9_naming_72 (kf_6_2 (kf_1_10 g1)) g6 ?_
        exact WQ_ireturn dX9_naming_73 rfl h
      · refine WP_tableIn (tgt := 74) dX9_naming_24 (by omega) (by omega) (by rw [c4]; rfl) (by decide) ?_
        replace h := h.2.2.1 c4
        refine WP_aload_n dX9_naming_74 rfl rfl ⟨Nat.le_of_ble_eq_true rfl, Nat.le_of_ble_eq_true rfl⟩ ?_
        refine WP_getfield (ci := 6) (j := 3) (n := 7) (t := 2) (x := μ 0 2 + 7 + 3) dX9_naming_75 f_X9_155 (kf_1_10 g1) rfl rfl ?_
        refine WP_iload_n dX9_naming_78 rfl rfl ?_
        obtain ⟨g7, h⟩ := h
        refine WP_iaload (n := 10) dX9_naming_79 (kf_6_3 (kf_1_10 g1)) g7 ?_
        exact WQ_ireturn dX9_naming_80 rfl h
      · refine WP_tableIn (tgt := 81) dX9_naming_24 (by omega) (by omega) (by rw [c4]; rfl) (by decide) ?_
        replace h := h.2.2.2.1 c4
        refine WP_aload_n dX9_naming_81 rfl rfl ⟨Nat.le_of_ble_eq_true rfl, Nat.le_of_ble_eq_true rfl⟩ ?_
        refine WP_getfield (ci := 6) (j := 4) (n := 7) (t := 2) (x := μ 0 2 + 7 + 4) dX9_naming_82 f_X9_158 (kf_1_10 g1) rfl rfl ?_
        refine WP_iload_n dX9_naming_85 rfl rfl ?_
        obtain ⟨g8, h⟩ := h
        refine WP_iaload (n := 10) dX9_naming_86 (kf_6_4 (kf_1_10 g1)) g8 ?_
        exact WQ_ireturn dX9_naming_87 rfl h
      · refine WP_tableIn (tgt := 88) dX9_naming_24 (by omega) (by omega) (by rw [c4]; rfl) (by decide) ?_
        replace h := h.2.2.2.2.1 c4
        refine WP_aload_n dX9_naming_88 rfl rfl ⟨Nat.le_of_ble_eq_true rfl, Nat.le_of_ble_eq_true rfl⟩ ?_
        refine WQ_invVv (v := (2, 0)) (as := []) dX9_naming_89 l_X9_161 mw_X9_know mi_X9_know ms_X9_know mo_X9_know (rcv (ci := 9) (n := 20) (r := (RX9, TX9, 20)) k_0 rfl rfl) (Nat.le_of_ble_eq_true rfl) h rfl (fun μ10 h => ?_)
        refine WP_aload_n dX9_naming_92 rfl rfl ⟨Nat.le_of_ble_eq_true rfl, Nat.le_of_ble_eq_true rfl⟩ ?_
        refine WP_getfield (ci := 9) (j := 11) (n := 20) (t := 2) (x := 105) dX9_naming_93 f_X9_61 k_0 rfl rfl ?_
        refine WP_getfield (ci := 0) (j := 5) (n := 16) (t := 2) (x := 110) dX9_naming_96 f_X9_164 k_105 rfl rfl ?_
        refine WP_iload_n dX9_naming_99 rfl rfl ?_
        obtain ⟨g11, h⟩ := h
        refine WP_iaload (n := 10) dX9_naming_100 k_110 g11 ?_
        exact WQ_ireturn dX9_naming_101 rfl h
    · replace h := h.2 c3
      refine WP_bipush dX9_naming_20 (by decide +kernel) (by decide) ?_
      exact WQ_ireturn dX9_naming_22 rfl h

theorem s_X9_nobody_0 {d : Nat} {sc : SC} {Q : Int → Mem → Prop} {μ : Mem}
    (h : CAv mX9_know d sc [(2, 0)] μ (fun μ2 => isK 1 (μ2 0 2) ∧ CAi mX0_nobodies d sc [(2, 105), (0, μ2 (μ2 0 2) 3)] μ2 (fun r4 μ5 => Q r4 μ5))) :
    WQ mX9_nobody d sc (ZI sc Q) 0 [(2, 0)] [] μ := by
  refine WP_aload_n dX9_nobody_0 rfl rfl ⟨Nat.le_of_ble_eq_true rfl, Nat.le_of_ble_eq_true rfl⟩ ?_
  refine WQ_invVv (v := (2, 0)) (as := []) dX9_nobody_1 l_X9_161 mw_X9_know mi_X9_know ms_X9_know mo_X9_know (rcv (ci := 9) (n := 20) (r := (RX9, TX9, 20)) k_0 rfl rfl) (Nat.le_of_ble_eq_true rfl) h rfl (fun μ2 h => ?_)
  refine WP_aload_n dX9_nobody_4 rfl rfl ⟨Nat.le_of_ble_eq_true rfl, Nat.le_of_ble_eq_true rfl⟩ ?_
  refine WP_getfield (ci := 9) (j := 11) (n := 20) (t := 2) (x := 105) dX9_nobody_5 f_X9_61 k_0 rfl rfl ?_
  refine WP_aload_n dX9_nobody_8 rfl rfl ⟨Nat.le_of_ble_eq_true rfl, Nat.le_of_ble_eq_true rfl⟩ ?_
  refine WP_getfield (ci := 9) (j := 2) (n := 20) (t := 2) (x := μ2 0 2) dX9_nobody_9 f_X9_16 k_0 rfl rfl ?_
  obtain ⟨g3, h⟩ := h
  refine WP_getfield (ci := 1) (j := 3) (n := 11) (t := 0) (x := μ2 (μ2 0 2) 3) dX9_nobody_12 f_X9_241 g3 rfl rfl ?_
  refine WQ_invVi (v := (2, 105)) (as := [(0, μ2 (μ2 0 2) 3)]) dX9_nobody_15 l_X9_244 mw_X0_nobodies mi_X0_nobodies ms_X0_nobodies mo_X0_nobodies (rcv (ci := 0) (n := 16) (r := (RX0, TX0, 16)) k_105 rfl rfl) (Nat.le_of_ble_eq_true rfl) h rfl (fun r4 μ5 h => ?_)
  exact WQ_ireturn dX9_nobody_18 rfl h

theorem s_X9_numbers_0 {d : Nat} {sc : SC} {Q : Int → Mem → Prop} {μ : Mem} {a1 a2 a3 : Int}
    (h : CAi mX9_isTray d sc [(0, a1)] μ (fun r1 μ2 => (r1 = 0 → Q (-2) μ2) ∧ (r1 ≠ 0 → (a2 < 0 → Q (-2) μ2) ∧ (0 ≤ a2 → (a2 ≤ 3 → (a3 < 0 → Q (-3) μ2) ∧ (0 ≤ a3 → (a3 ≤ 40 → (0 ≤ a1 ∧ a1 < 4) ∧ isK 8 (μ2 96 a1) ∧ CAv mX8_lay d sc [(2, μ2 96 a1), (0, a2), (0, a3)] μ2 (fun μ11 => Q 0 μ11)) ∧ (40 < a3 → Q (-3) μ2))) ∧ (3 < a2 → Q (-2) μ2))))) :
    WQ mX9_numbers d sc (ZI sc Q) 0 [(2, 0), (0, a1), (0, a2), (0, a3)] [] μ := by
  refine WP_iload_n dX9_numbers_0 rfl rfl ?_
  refine WQ_invSi (as := [(0, a1)]) dX9_numbers_1 l_X9_208 mw_X9_isTray mt_X9_isTray mo_X9_isTray (Nat.le_of_ble_eq_true rfl) h rfl (fun r1 μ2 h => ?_)
  refine WQ_ifeq (tgt := 16) dX9_numbers_4 (by decide) (fun c3 => ?_) (fun c3 => ?_)
  · replace h := h.1 c3
    refine WP_bipush dX9_numbers_16 (by decide +kernel) (by decide) ?_
    exact WQ_ireturn dX9_numbers_18 rfl h
  · replace h := h.2 c3
    refine WP_iload_n dX9_numbers_7 rfl rfl ?_
    refine WQ_iflt (tgt := 16) dX9_numbers_8 (by decide) (fun c4 => ?_) (fun c4 => ?_)
    · replace h := h.1 c4
      refine WP_bipush dX9_numbers_16 (by decide +kernel) (by decide) ?_
      exact WQ_ireturn dX9_numbers_18 rfl h
    · replace h := h.2 c4
      refine WP_iload_n dX9_numbers_11 rfl rfl ?_
      refine WP_iconst dX9_numbers_12 (by decide) ?_
      refine WQ_icmp_le (tgt := 19) dX9_numbers_13 (by decide) (fun c5 => ?_) (fun c5 => ?_)
      · replace h := h.1 c5
        refine WP_iload_n dX9_numbers_19 rfl rfl ?_
        refine WQ_iflt (tgt := 29) dX9_numbers_20 (by decide) (fun c6 => ?_) (fun c6 => ?_)
        · replace h := h.1 c6
          refine WP_bipush dX9_numbers_29 (by decide +kernel) (by decide) ?_
          exact WQ_ireturn dX9_numbers_31 rfl h
        · replace h := h.2 c6
          refine WP_iload_n dX9_numbers_23 rfl rfl ?_
          refine WP_bipush dX9_numbers_24 (by decide +kernel) (by decide) ?_
          refine WQ_icmp_le (tgt := 32) dX9_numbers_26 (by decide) (fun c7 => ?_) (fun c7 => ?_)
          · replace h := h.1 c7
            refine WP_aload_n dX9_numbers_32 rfl rfl ⟨Nat.le_of_ble_eq_true rfl, Nat.le_of_ble_eq_true rfl⟩ ?_
            refine WP_getfield (ci := 9) (j := 8) (n := 20) (t := 2) (x := 96) dX9_numbers_33 f_X9_47 k_0 rfl rfl ?_
            refine WP_iload_n dX9_numbers_36 rfl rfl ?_
            obtain ⟨g8, h⟩ := h
            refine WP_aaload (n := 4) (ci := 8) dX9_numbers_37 k_96 (by decide) g8 ?_
            refine WP_iload_n dX9_numbers_38 rfl rfl ?_
            refine WP_iload_n dX9_numbers_39 rfl rfl ?_
            obtain ⟨g9, h⟩ := h
            refine WQ_invVv (v := (2, μ2 96 a1)) (as := [(0, a2), (0, a3)]) dX9_numbers_40 l_X9_345 mw_X8_lay mi_X8_lay ms_X8_lay mo_X8_lay (rcv (ci := 8) (n := 4) (r := (RX8, TX8, 4)) g9 rfl rfl) (Nat.le_of_ble_eq_true rfl) h rfl (fun μ11 h => ?_)
            refine WP_iconst dX9_numbers_43 (by decide) ?_
            exact WQ_ireturn dX9_numbers_44 rfl h
          · replace h := h.2 c7
            refine WP_bipush dX9_numbers_29 (by decide +kernel) (by decide) ?_
            exact WQ_ireturn dX9_numbers_31 rfl h
      · replace h := h.2 c5
        refine WP_bipush dX9_numbers_16 (by decide +kernel) (by decide) ?_
        exact WQ_ireturn dX9_numbers_18 rfl h

theorem s_X9_perform_0 {d : Nat} {sc : SC} {Q : Int → Mem → Prop} {μ : Mem} {a1 : Int}
    (h : CAi mX9_isTray d sc [(0, a1)] μ (fun r1 μ2 => (r1 ≠ 0 → (0 ≤ a1 ∧ a1 < 4) ∧ isK 8 (μ2 96 a1) ∧ (μ2 (μ2 96 a1) 0 ≠ 0 → (0 ≤ a1 ∧ a1 < 4) ∧ CAi mX9_tryDeeds d sc [(2, 0), (2, μ2 96 a1)] μ2 (fun r8 μ9 => (r8 ≤ 0 → Q r8 μ9) ∧ (0 < r8 → CAv mX9_acceptTrial d sc [(2, 0)] μ9 (fun μ12 => Q r8 μ12)))) ∧ (μ2 (μ2 96 a1) 0 = 0 → Q (-6) μ2)) ∧ (r1 = 0 → Q (-2) μ2))) :
    WQ mX9_perform d sc (ZI sc Q) 0 [(2, 0), (0, a1), (9, 0)] [] μ := by
  refine WP_iload_n dX9_perform_0 rfl rfl ?_
  refine WQ_invSi (as := [(0, a1)]) dX9_perform_1 l_X9_208 mw_X9_isTray mt_X9_isTray mo_X9_isTray (Nat.le_of_ble_eq_true rfl) h rfl (fun r1 μ2 h => ?_)
  refine WQ_ifne (tgt := 10) dX9_perform_4 (by decide) (fun c3 => ?_) (fun c3 => ?_)
  · replace h := h.1 c3
    refine WP_aload_n dX9_perform_10 rfl rfl ⟨Nat.le_of_ble_eq_true rfl, Nat.le_of_ble_eq_true rfl⟩ ?_
    refine WP_getfield (ci := 9) (j := 8) (n := 20) (t := 2) (x := 96) dX9_perform_11 f_X9_47 k_0 rfl rfl ?_
    refine WP_iload_n dX9_perform_14 rfl rfl ?_
    obtain ⟨g4, h⟩ := h
    refine WP_aaload (n := 4) (ci := 8) dX9_perform_15 k_96 (by decide) g4 ?_
    obtain ⟨g5, h⟩ := h
    refine WP_getfield (ci := 8) (j := 0) (n := 4) (t := 0) (x := μ2 (μ2 96 a1) 0) dX9_perform_16 f_X9_211 g5 rfl rfl ?_
    refine WQ_ifne (tgt := 25) dX9_perform_19 (by decide) (fun c6 => ?_) (fun c6 => ?_)
    · replace h := h.1 c6
      refine WP_aload_n dX9_perform_25 rfl rfl ⟨Nat.le_of_ble_eq_true rfl, Nat.le_of_ble_eq_true rfl⟩ ?_
      refine WP_aload_n dX9_perform_26 rfl rfl ⟨Nat.le_of_ble_eq_true rfl, Nat.le_of_ble_eq_true rfl⟩ ?_
      refine WP_getfield (ci := 9) (j := 8) (n := 20) (t := 2) (x := 96) dX9_perform_27 f_X9_47 k_0 rfl rfl ?_
      refine WP_iload_n dX9_perform_30 rfl rfl ?_
      obtain ⟨g7, h⟩ := h
      refine WP_aaload (n := 4) (ci := 8) dX9_perform_31 k_96 (by decide) g7 ?_
      refine WQ_invVi (v := (2, 0)) (as := [(2, μ2 96 a1)]) dX9_perform_32 l_X9_215 mw_X9_tryDeeds mi_X9_tryDeeds ms_X9_tryDeeds mo_X9_tryDeeds (rcv (ci := 9) (n := 20) (r := (RX9, TX9, 20)) k_0 rfl rfl) (Nat.le_of_ble_eq_true rfl) h rfl (fun r8 μ9 h => ?_)
      refine WP_istore_n (L' := [(2, 0), (0, a1), (0, r8)]) dX9_perform_35 rfl (by decide) rfl ?_
      refine WP_iload_n dX9_perform_36 rfl rfl ?_
      refine WQ_ifle (tgt := 44) dX9_perform_37 (by decide) (fun c10 => ?_) (fun c10 => ?_)
      · replace h := h.1 c10
        refine WP_iload_n dX9_perform_44 rfl rfl ?_
        exact WQ_ireturn dX9_perform_45 rfl h
      · replace h := h.2 c10
        refine WP_aload_n dX9_perform_40 rfl rfl ⟨Nat.le_of_ble_eq_true rfl, Nat.le_of_ble_eq_true rfl⟩ ?_
        refine WQ_invVv (v := (2, 0)) (as := []) dX9_perform_41 l_X9_184 mw_X9_acceptTrial mi_X9_acceptTrial ms_X9_acceptTrial mo_X9_acceptTrial (rcv (ci := 9) (n := 20) (r := (RX9, TX9, 20)) k_0 rfl rfl) (Nat.le_of_ble_eq_true rfl) h rfl (fun μ12 h => ?_)
        refine WP_iload_n dX9_perform_44 rfl rfl ?_
        exact WQ_ireturn dX9_perform_45 rfl h
    · replace h := h.2 c6
      refine WP_bipush dX9_perform_22 (by decide +kernel) (by decide) ?_
      exact WQ_ireturn dX9_perform_24 rfl h
  · replace h := h.2 c3
    refine WP_bipush dX9_perform_7 (by decide +kernel) (by decide) ?_
    exact WQ_ireturn dX9_perform_9 rfl h

theorem s_X9_person_0 {d : Nat} {sc : SC} {Q : Int → Mem → Prop} {μ : Mem} {a1 a2 : Int}
    (h : CAi mX9_isPerson d sc [(2, 0), (0, a1)] μ (fun r1 μ2 => (r1 ≠ 0 → (a2 = 0 → isK 1 (μ2 0 2) ∧ (0 ≤ a1 ∧ a1 < 6) ∧ Q (μ2 (μ2 0 2 + 7 + 5) a1) μ2) ∧ (a2 = 1 → isK 1 (μ2 0 2) ∧ (0 ≤ a1 ∧ a1 < 6) ∧ Q (μ2 (μ2 0 2 + 1) a1) μ2) ∧ (a2 = 2 → isK 1 (μ2 0 2) ∧ (0 ≤ a1 ∧ a1 < 6) ∧ Q (μ2 (μ2 0 2 + 2) a1) μ2) ∧ (a2 = 3 → isK 1 (μ2 0 2) ∧ (0 ≤ a1 ∧ a1 < 6) ∧ Q (μ2 (μ2 0 2 + 3) a1) μ2) ∧ ((a2 ≠ 0 ∧ a2 ≠ 1 ∧ a2 ≠ 2 ∧ a2 ≠ 3) → Q (-2) μ2)) ∧ (r1 = 0 → Q (-2) μ2))) :
    WQ mX9_person d sc (ZI sc Q) 0 [(2, 0), (0, a1), (0, a2)] [] μ := by
  refine WP_aload_n dX9_person_0 rfl rfl ⟨Nat.le_of_ble_eq_true rfl, Nat.le_of_ble_eq_true rfl⟩ ?_
  refine WP_iload_n dX9_person_1 rfl rfl ?_
  refine WQ_invVi (v := (2, 0)) (as := [(0, a1)]) dX9_person_2 l_X9_127 mw_X9_isPerson mi_X9_isPerson ms_X9_isPerson mo_X9_isPerson (rcv (ci := 9) (n := 20) (r := (RX9, TX9, 20)) k_0 rfl rfl) (Nat.le_of_ble_eq_true rfl) h rfl (fun r1 μ2 h => ?_)
  refine WQ_ifne (tgt := 11) dX9_person_5 (by decide) (fun c3 => ?_) (fun c3 => ?_)
  · replace h := h.1 c3
    refine WP_iload_n dX9_person_11 rfl rfl ?_
    have hD : (a2 ≠ 0 ∧ a2 ≠ 1 ∧ a2 ≠ 2 ∧ a2 ≠ 3) → WQ mX9_person d sc (ZI sc Q) 87 [(2, 0), (0, a1), (0, a2)] [] μ2 := by
      intro c4
      replace h := h.2.2.2.2 c4
      refine WP_bipush dX9_person_87 (by decide +kernel) (by decide) ?_
      exact WQ_ireturn dX9_person_89 rfl h
    rcases (show (a2 < 0 ∨ 3 < a2) ∨ a2 = 0 ∨ a2 = 1 ∨ a2 = 2 ∨ a2 = 3 by omega) with c4 | c4 | c4 | c4 | c4
    · exact WP_tableOut (tgt := 87) dX9_person_12 c4 (by decide) (hD (by omega))
    · refine WP_tableIn (tgt := 44) dX9_person_12 (by omega) (by omega) (by rw [c4]; rfl) (by decide) ?_
      replace h := h.1 c4
      refine WP_aload_n dX9_person_44 rfl rfl ⟨Nat.le_of_ble_eq_true rfl, Nat.le_of_ble_eq_true rfl⟩ ?_
      refine WP_getfield (ci := 9) (j := 2) (n := 20) (t := 2) (x := μ2 0 2) dX9_person_45 f_X9_16 k_0 rfl rfl ?_
      obtain ⟨g5, h⟩ := h
      refine WP_getfield (ci := 1) (j := 10) (n := 11) (t := 2) (x := μ2 0 2 + 7) dX9_person_48 f_X9_131 g5 rfl rfl ?_
      refine WP_getfield (ci := 6) (j := 5) (n := 7) (t := 2) (x := μ2 0 2 + 7 + 5) dX9_person_51 f_X9_134 (kf_1_10 g5) rfl rfl ?_
      refine WP_iload_n dX9_person_54 rfl rfl ?_
      obtain ⟨g6, h⟩ := h
      refine WP_iaload (n := 6) dX9_person_55 (kf_6_5 (kf_1_10 g5)) g6 ?_
      exact WQ_ireturn dX9_person_56 rfl h
    · refine WP_tableIn (tgt := 57) dX9_person_12 (by omega) (by omega) (by rw [c4]; rfl) (by decide) ?_
      replace h := h.2.1 c4
      refine WP_aload_n dX9_person_57 rfl rfl ⟨Nat.le_of_ble_eq_true rfl, Nat.le_of_ble_eq_true rfl⟩ ?_
      refine WP_getfield (ci := 9) (j := 2) (n := 20) (t := 2) (x := μ2 0 2) dX9_person_58 f_X9_16 k_0 rfl rfl ?_
      obtain ⟨g7, h⟩ := h
      refine WP_getfield (ci := 1) (j := 4) (n := 11) (t := 2) (x := μ2 0 2 + 1) dX9_person_61 f_X9_137 g7 rfl rfl ?_
      refine WP_iload_n dX9_person_64 rfl rfl ?_
      obtain ⟨g8, h⟩ := h
      refine WP_iaload (n := 6) dX9_person_65 (kf_1_4 g7) g8 ?_
      exact WQ_ireturn dX9_person_66 rfl h
    · refine WP_tableIn (tgt := 67) dX9_person_12 (by omega) (by omega) (by rw [c4]; rfl) (by decide) ?_
      replace h := h.2.2.1 c4
      refine WP_aload_n dX9_person_67 rfl rfl ⟨Nat.le_of_ble_eq_true rfl, Nat.le_of_ble_eq_true rfl⟩ ?_
      refine WP_getfield (ci := 9) (j := 2) (n := 20) (t := 2) (x := μ2 0 2) dX9_person_68 f_X9_16 k_0 rfl rfl ?_
      obtain ⟨g9, h⟩ := h
      refine WP_getfield (ci := 1) (j := 5) (n := 11) (t := 2) (x := μ2 0 2 + 2) dX9_person_71 f_X9_140 g9 rfl rfl ?_
      refine WP_iload_n dX9_person_74 rfl rfl ?_
      obtain ⟨g10, h⟩ := h
      refine WP_iaload (n := 6) dX9_person_75 (kf_1_5 g9) g10 ?_
      exact WQ_ireturn dX9_person_76 rfl h
    · refine WP_tableIn (tgt := 77) dX9_person_12 (by omega) (by omega) (by rw [c4]; rfl) (by decide) ?_
      replace h := h.2.2.2.1 c4
      refine WP_aload_n dX9_person_77 rfl rfl ⟨Nat.le_of_ble_eq_true rfl, Nat.le_of_ble_eq_true rfl⟩ ?_
      refine WP_getfield (ci := 9) (j := 2) (n := 20) (t := 2) (x := μ2 0 2) dX9_person_78 f_X9_16 k_0 rfl rfl ?_
      obtain ⟨g11, h⟩ := h
      refine WP_getfield (ci := 1) (j := 6) (n := 11) (t := 2) (x := μ2 0 2 + 3) dX9_person_81 f_X9_143 g11 rfl rfl ?_
      refine WP_iload_n dX9_person_84 rfl rfl ?_
      obtain ⟨g12, h⟩ := h
      refine WP_iaload (n := 6) dX9_person_85 (kf_1_6 g11) g12 ?_
      exact WQ_ireturn dX9_person_86 rfl h
  · replace h := h.2 c3
    refine WP_bipush dX9_person_8 (by decide +kernel) (by decide) ?_
    exact WQ_ireturn dX9_person_10 rfl h

theorem s_X9_quiet_0 {d : Nat} {sc : SC} {Q : Int → Mem → Prop} {μ : Mem} {a1 a2 : Int}
    (h : CAi mX9_isPerson d sc [(2, 0), (0, a1)] μ (fun r1 μ2 => (r1 = 0 → Q (-2) μ2) ∧ (r1 ≠ 0 → (a2 < 0 → Q (-2) μ2) ∧ (0 ≤ a2 → (a2 ≤ 1 → isK 1 (μ2 0 2) ∧ CAv mX6_copyFrom d sc [(2, 121), (2, μ2 0 2 + 7)] μ2 (fun μ8 => WQ mX9_quiet d sc (ZI sc Q) 44 [(2, 0), (0, a1), (0, a2), (0, 0), (0, 513), (0, 0)] [] μ8)) ∧ (1 < a2 → Q (-2) μ2))))) :
    WQ mX9_quiet d sc (ZI sc Q) 0 [(2, 0), (0, a1), (0, a2), (9, 0), (9, 0), (9, 0)] [] μ := by
  refine WP_aload_n dX9_quiet_0 rfl rfl ⟨Nat.le_of_ble_eq_true rfl, Nat.le_of_ble_eq_true rfl⟩ ?_
  refine WP_iload_n dX9_quiet_1 rfl rfl ?_
  refine WQ_invVi (v := (2, 0)) (as := [(0, a1)]) dX9_quiet_2 l_X9_127 mw_X9_isPerson mi_X9_isPerson ms_X9_isPerson mo_X9_isPerson (rcv (ci := 9) (n := 20) (r := (RX9, TX9, 20)) k_0 rfl rfl) (Nat.le_of_ble_eq_true rfl) h rfl (fun r1 μ2 h => ?_)
  refine WQ_ifeq (tgt := 17) dX9_quiet_5 (by decide) (fun c3 => ?_) (fun c3 => ?_)
  · replace h := h.1 c3
    refine WP_bipush dX9_quiet_17 (by decide +kernel) (by decide) ?_
    exact WQ_ireturn dX9_quiet_19 rfl h
  · replace h := h.2 c3
    refine WP_iload_n dX9_quiet_8 rfl rfl ?_
    refine WQ_iflt (tgt := 17) dX9_quiet_9 (by decide) (fun c4 => ?_) (fun c4 => ?_)
    · replace h := h.1 c4
      refine WP_bipush dX9_quiet_17 (by decide +kernel) (by decide) ?_
      exact WQ_ireturn dX9_quiet_19 rfl h
    · replace h := h.2 c4
      refine WP_iload_n dX9_quiet_12 rfl rfl ?_
      refine WP_iconst dX9_quiet_13 (by decide) ?_
      refine WQ_icmp_le (tgt := 20) dX9_quiet_14 (by decide) (fun c5 => ?_) (fun c5 => ?_)
      · replace h := h.1 c5
        refine WP_aload_n dX9_quiet_20 rfl rfl ⟨Nat.le_of_ble_eq_true rfl, Nat.le_of_ble_eq_true rfl⟩ ?_
        refine WP_getfield (ci := 9) (j := 14) (n := 20) (t := 2) (x := 121) dX9_quiet_21 f_X9_82 k_0 rfl rfl ?_
        refine WP_aload_n dX9_quiet_24 rfl rfl ⟨Nat.le_of_ble_eq_true rfl, Nat.le_of_ble_eq_true rfl⟩ ?_
        refine WP_getfield (ci := 9) (j := 2) (n := 20) (t := 2) (x := μ2 0 2) dX9_quiet_25 f_X9_16 k_0 rfl rfl ?_
        obtain ⟨g6, h⟩ := h
        refine WP_getfield (ci := 1) (j := 10) (n := 11) (t := 2) (x := μ2 0 2 + 7) dX9_quiet_28 f_X9_131 g6 rfl rfl ?_
        refine WQ_invVv (v := (2, 121)) (as := [(2, μ2 0 2 + 7)]) dX9_quiet_31 l_X9_176 mw_X6_copyFrom mi_X6_copyFrom ms_X6_copyFrom mo_X6_copyFrom (rcv (ci := 6) (n := 7) (r := (RX6, TX6, 7)) k_121 rfl rfl) (Nat.le_of_ble_eq_true rfl) h rfl (fun μ8 h => ?_)
        refine WP_iconst dX9_quiet_34 (by decide) ?_
        refine WP_istore_n (L' := [(2, 0), (0, a1), (0, a2), (0, 0), (9, 0), (9, 0)]) dX9_quiet_35 rfl (by decide) rfl ?_
        refine WP_sipush dX9_quiet_36 (by decide +kernel) (by decide) ?_
        refine WP_istore (L' := [(2, 0), (0, a1), (0, a2), (0, 0), (0, 513), (9, 0)]) dX9_quiet_39 (by decide) rfl ?_
        refine WP_iconst dX9_quiet_41 (by decide) ?_
        refine WP_istore (L' := [(2, 0), (0, a1), (0, a2), (0, 0), (0, 513), (0, 0)]) dX9_quiet_42 (by decide) rfl ?_
        exact h
      · replace h := h.2 c5
        refine WP_bipush dX9_quiet_17 (by decide +kernel) (by decide) ?_
        exact WQ_ireturn dX9_quiet_19 rfl h

theorem s_X9_quiet_44 {d : Nat} {sc : SC} {Q : Int → Mem → Prop} {μ : Mem} {x1 x2 x3 x4 x5 : Int}
    (h : isK 1 (μ 0 2) ∧ CAi mX1_cells d sc [(2, μ 0 2)] μ (fun r2 μ3 => (r2 ≤ x5 → (x2 ≠ 0 → Q x4 μ3) ∧ (x2 = 0 → Q x3 μ3)) ∧ (x5 < r2 → (0 ≤ x1 ∧ x1 < 6) ∧ (∀ μ7, μ7 = mup μ3 126 x1 x5 → CAv mX3_learn d sc [(2, 127), (2, μ7 0 2), (2, 121)] μ7 (fun μ9 => CAi mX0_run d sc [(2, 135), (2, 121), (2, 127), (0, 99), (0, (-1))] μ9 (fun r10 μ11 => (0 ≤ x1 ∧ x1 < 6) ∧ (x4 ≤ μ11 138 x1 → (-2147483648 ≤ x5 + 1 ∧ x5 + 1 < 2147483648) ∧ ∀ v15 : Int, v15 = x5 + 1 → WQ mX9_quiet d sc (ZI sc Q) 44 [(2, 0), (0, x1), (0, x2), (0, x3), (0, x4), (0, v15)] [] μ11) ∧ (μ11 138 x1 < x4 → (0 ≤ x1 ∧ x1 < 6) ∧ (∀ v17 : Int, v17 = μ11 138 x1 → (-2147483648 ≤ x5 + 1 ∧ x5 + 1 < 2147483648) ∧ ∀ v19 : Int, v19 = x5 + 1 → WQ mX9_quiet d sc (ZI sc Q) 44 [(2, 0), (0, x1), (0, x2), (0, x5), (0, v17), (0, v19)] [] μ11)))))))) :
    WQ mX9_quiet d sc (ZI sc Q) 44 [(2, 0), (0, x1), (0, x2), (0, x3), (0, x4), (0, x5)] [] μ := by
  refine WP_iload dX9_quiet_44 rfl ?_
  refine WP_aload_n dX9_quiet_46 rfl rfl ⟨Nat.le_of_ble_eq_true rfl, Nat.le_of_ble_eq_true rfl⟩ ?_
  refine WP_getfield (ci := 9) (j := 2) (n := 20) (t := 2) (x := μ 0 2) dX9_quiet_47 f_X9_16 k_0 rfl rfl ?_
  obtain ⟨g1, h⟩ := h
  refine WQ_invVi (v := (2, μ 0 2)) (as := []) dX9_quiet_50 l_X9_278 mw_X1_cells mi_X1_cells ms_X1_cells mo_X1_cells (rcv (ci := 1) (n := 11) (r := (RX1, TX1, 11)) g1 rfl rfl) (Nat.le_of_ble_eq_true rfl) h rfl (fun r2 μ3 h => ?_)
  refine WQ_icmp_ge (tgt := 135) dX9_quiet_53 (by decide) (fun c4 => ?_) (fun c4 => ?_)
  · replace h := h.1 c4
    refine WP_iload_n dX9_quiet_135 rfl rfl ?_
    refine WQ_ifne (tgt := 143) dX9_quiet_136 (by decide) (fun c5 => ?_) (fun c5 => ?_)
    · replace h := h.1 c5
      refine WP_iload dX9_quiet_143 rfl ?_
      exact WQ_ireturn dX9_quiet_145 rfl h
    · replace h := h.2 c5
      refine WP_iload_n dX9_quiet_139 rfl rfl ?_
      refine WP_goto (tgt := 145) dX9_quiet_140 (by decide) ?_
      exact WQ_ireturn dX9_quiet_145 rfl h
  · replace h := h.2 c4
    refine WP_aload_n dX9_quiet_56 rfl rfl ⟨Nat.le_of_ble_eq_true rfl, Nat.le_of_ble_eq_true rfl⟩ ?_
    refine WP_getfield (ci := 9) (j := 14) (n := 20) (t := 2) (x := 121) dX9_quiet_57 f_X9_82 k_0 rfl rfl ?_
    refine WP_getfield (ci := 6) (j := 5) (n := 7) (t := 2) (x := 126) dX9_quiet_60 f_X9_134 k_121 rfl rfl ?_
    refine WP_iload_n dX9_quiet_63 rfl rfl ?_
    refine WP_iload dX9_quiet_64 rfl ?_
    obtain ⟨g6, h⟩ := h
    refine WQ_iast (n := 6) dX9_quiet_66 k_126 g6 (fun μ7 eμ7 => ?_)
    replace h := h μ7 eμ7
    refine WP_aload_n dX9_quiet_67 rfl rfl ⟨Nat.le_of_ble_eq_true rfl, Nat.le_of_ble_eq_true rfl⟩ ?_
    refine WP_getfield (ci := 9) (j := 15) (n := 20) (t := 2) (x := 127) dX9_quiet_68 f_X9_86 k_0 rfl rfl ?_
    refine WP_aload_n dX9_quiet_71 rfl rfl ⟨Nat.le_of_ble_eq_true rfl, Nat.le_of_ble_eq_true rfl⟩ ?_
    refine WP_getfield (ci := 9) (j := 2) (n := 20) (t := 2) (x := μ7 0 2) dX9_quiet_72 f_X9_16 k_0 rfl rfl ?_
    refine WP_aload_n dX9_quiet_75 rfl rfl ⟨Nat.le_of_ble_eq_true rfl, Nat.le_of_ble_eq_true rfl⟩ ?_
    refine WP_getfield (ci := 9) (j := 14) (n := 20) (t := 2) (x := 121) dX9_quiet_76 f_X9_82 k_0 rfl rfl ?_
    refine WQ_invVv (v := (2, 127)) (as := [(2, μ7 0 2), (2, 121)]) dX9_quiet_79 l_X9_230 mw_X3_learn mi_X3_learn ms_X3_learn mo_X3_learn (rcv (ci := 3) (n := 9) (r := (RX3, TX3, 9)) k_127 rfl rfl) (Nat.le_of_ble_eq_true rfl) h rfl (fun μ9 h => ?_)
    refine WP_aload_n dX9_quiet_82 rfl rfl ⟨Nat.le_of_ble_eq_true rfl, Nat.le_of_ble_eq_true rfl⟩ ?_
    refine WP_getfield (ci := 9) (j := 16) (n := 20) (t := 2) (x := 135) dX9_quiet_83 f_X9_89 k_0 rfl rfl ?_
    refine WP_aload_n dX9_quiet_86 rfl rfl ⟨Nat.le_of_ble_eq_true rfl, Nat.le_of_ble_eq_true rfl⟩ ?_
    refine WP_getfield (ci := 9) (j := 14) (n := 20) (t := 2) (x := 121) dX9_quiet_87 f_X9_82 k_0 rfl rfl ?_
    refine WP_aload_n dX9_quiet_90 rfl rfl ⟨Nat.le_of_ble_eq_true rfl, Nat.le_of_ble_eq_true rfl⟩ ?_
    refine WP_getfield (ci := 9) (j := 15) (n := 20) (t := 2) (x := 127) dX9_quiet_91 f_X9_86 k_0 rfl rfl ?_
    refine WP_bipush dX9_quiet_94 (by decide +kernel) (by decide) ?_
    refine WP_iconst dX9_quiet_96 (by decide) ?_
    refine WQ_invVi (v := (2, 135)) (as := [(2, 121), (2, 127), (0, 99), (0, (-1))]) dX9_quiet_97 l_X9_234 mw_X0_run mi_X0_run ms_X0_run mo_X0_run (rcv (ci := 0) (n := 16) (r := (RX0, TX0, 16)) k_135 rfl rfl) (Nat.le_of_ble_eq_true rfl) h rfl (fun r10 μ11 h => ?_)
    refine WP_pop dX9_quiet_100 (by simp) ?_
    refine WP_aload_n dX9_quiet_101 rfl rfl ⟨Nat.le_of_ble_eq_true rfl, Nat.le_of_ble_eq_true rfl⟩ ?_
    refine WP_getfield (ci := 9) (j := 16) (n := 20) (t := 2) (x := 135) dX9_quiet_102 f_X9_89 k_0 rfl rfl ?_
    refine WP_getfield (ci := 0) (j := 3) (n := 16) (t := 2) (x := 138) dX9_quiet_105 f_X9_255 k_135 rfl rfl ?_
    refine WP_iload_n dX9_quiet_108 rfl rfl ?_
    obtain ⟨g12, h⟩ := h
    refine WP_iaload (n := 6) dX9_quiet_109 k_138 g12 ?_
    refine WP_iload dX9_quiet_110 rfl ?_
    refine WQ_icmp_ge (tgt := 129) dX9_quiet_112 (by decide) (fun c13 => ?_) (fun c13 => ?_)
    · replace h := h.1 c13
      obtain ⟨g14, h⟩ := h
      refine WQ_iinc dX9_quiet_129 rfl (by decide) g14 (fun v15 e15 => ?_)
      refine WP_same (L' := [(2, 0), (0, x1), (0, x2), (0, x3), (0, x4), (0, v15)]) rfl ?_
      replace h := h v15 e15
      refine WP_goto (tgt := 44) dX9_quiet_132 (by decide) ?_
      exact h
    · replace h := h.2 c13
      refine WP_aload_n dX9_quiet_115 rfl rfl ⟨Nat.le_of_ble_eq_true rfl, Nat.le_of_ble_eq_true rfl⟩ ?_
      refine WP_getfield (ci := 9) (j := 16) (n := 20) (t := 2) (x := 135) dX9_quiet_116 f_X9_89 k_0 rfl rfl ?_
      refine WP_getfield (ci := 0) (j := 3) (n := 16) (t := 2) (x := 138) dX9_quiet_119 f_X9_255 k_135 rfl rfl ?_
      refine WP_iload_n dX9_quiet_122 rfl rfl ?_
      obtain ⟨g16, h⟩ := h
      refine WP_iaload (n := 6) dX9_quiet_123 k_138 g16 ?_
      refine WQ_nm0 (fun v17 e17 => ?_)
      replace h := h v17 e17
      refine WP_istore (L' := [(2, 0), (0, x1), (0, x2), (0, x3), (0, v17), (0, x5)]) dX9_quiet_124 (by decide) rfl ?_
      refine WP_iload dX9_quiet_126 rfl ?_
      refine WP_istore_n (L' := [(2, 0), (0, x1), (0, x2), (0, x5), (0, v17), (0, x5)]) dX9_quiet_128 rfl (by decide) rfl ?_
      obtain ⟨g18, h⟩ := h
      refine WQ_iinc dX9_quiet_129 rfl (by decide) g18 (fun v19 e19 => ?_)
      refine WP_same (L' := [(2, 0), (0, x1), (0, x2), (0, x5), (0, v17), (0, v19)]) rfl ?_
      replace h := h v19 e19
      refine WP_goto (tgt := 44) dX9_quiet_132 (by decide) ?_
      exact h

theorem s_X9_refuseHeard_0 {d : Nat} {sc : SC} {Q : Int → Mem → Prop} {μ : Mem} {a1 a2 : Int}
    (h : CAi mX9_isTray d sc [(0, a1)] μ (fun r1 μ2 => (r1 = 0 → Q (-2) μ2) ∧ (r1 ≠ 0 → CAi mX9_isPerson d sc [(2, 0), (0, a2)] μ2 (fun r4 μ5 => (r4 ≠ 0 → (0 ≤ a1 ∧ a1 < 4) ∧ isK 8 (μ5 96 a1) ∧ (μ5 (μ5 96 a1) 0 ≠ 0 → (μ5 (μ5 96 a1) 2 < 1 → Q (-4) μ5) ∧ (1 ≤ μ5 (μ5 96 a1) 2 → (μ5 (μ5 96 a1) 2 ≤ 6 → WQ mX9_refuseHeard d sc (ZI sc Q) 58 [(2, 0), (9, 0), (0, a2), (2, μ5 96 a1), (0, 0), (9, 0), (9, 0)] [] μ5) ∧ (6 < μ5 (μ5 96 a1) 2 → Q (-4) μ5))) ∧ (μ5 (μ5 96 a1) 0 = 0 → Q (-6) μ5)) ∧ (r4 = 0 → Q (-2) μ5))))) :
    WQ mX9_refuseHeard d sc (ZI sc Q) 0 [(2, 0), (0, a1), (0, a2), (9, 0), (9, 0), (9, 0), (9, 0)] [] μ := by
  refine WP_iload_n dX9_refuseHeard_0 rfl rfl ?_
  refine WQ_invSi (as := [(0, a1)]) dX9_refuseHeard_1 l_X9_208 mw_X9_isTray mt_X9_isTray mo_X9_isTray (Nat.le_of_ble_eq_true rfl) h rfl (fun r1 μ2 h => ?_)
  refine WQ_ifeq (tgt := 15) dX9_refuseHeard_4 (by decide) (fun c3 => ?_) (fun c3 => ?_)
  · replace h := h.1 c3
    refine WP_bipush dX9_refuseHeard_15 (by decide +kernel) (by decide) ?_
    exact WQ_ireturn dX9_refuseHeard_17 rfl h
  · replace h := h.2 c3
    refine WP_aload_n dX9_refuseHeard_7 rfl rfl ⟨Nat.le_of_ble_eq_true rfl, Nat.le_of_ble_eq_true rfl⟩ ?_
    refine WP_iload_n dX9_refuseHeard_8 rfl rfl ?_
    refine WQ_invVi (v := (2, 0)) (as := [(0, a2)]) dX9_refuseHeard_9 l_X9_127 mw_X9_isPerson mi_X9_isPerson ms_X9_isPerson mo_X9_isPerson (rcv (ci := 9) (n := 20) (r := (RX9, TX9, 20)) k_0 rfl rfl) (Nat.le_of_ble_eq_true rfl) h rfl (fun r4 μ5 h => ?_)
    refine WQ_ifne (tgt := 18) dX9_refuseHeard_12 (by decide) (fun c6 => ?_) (fun c6 => ?_)
    · replace h := h.1 c6
      refine WP_aload_n dX9_refuseHeard_18 rfl rfl ⟨Nat.le_of_ble_eq_true rfl, Nat.le_of_ble_eq_true rfl⟩ ?_
      refine WP_getfield (ci := 9) (j := 8) (n := 20) (t := 2) (x := 96) dX9_refuseHeard_19 f_X9_47 k_0 rfl rfl ?_
      refine WP_iload_n dX9_refuseHeard_22 rfl rfl ?_
      obtain ⟨g7, h⟩ := h
      refine WP_aaload (n := 4) (ci := 8) dX9_refuseHeard_23 k_96 (by decide) g7 ?_
      refine WP_astore_n (L' := [(2, 0), (0, a1), (0, a2), (2, μ5 96 a1), (9, 0), (9, 0), (9, 0)]) dX9_refuseHeard_24 rfl (by decide) (Nat.le_of_ble_eq_true rfl) rfl ?_
      refine WP_aload_n dX9_refuseHeard_25 rfl rfl ⟨Nat.le_of_ble_eq_true rfl, Nat.le_of_ble_eq_true rfl⟩ ?_
      obtain ⟨g8, h⟩ := h
      refine WP_getfield (ci := 8) (j := 0) (n := 4) (t := 0) (x := μ5 (μ5 96 a1) 0) dX9_refuseHeard_26 f_X9_211 g8 rfl rfl ?_
      refine WQ_ifne (tgt := 35) dX9_refuseHeard_29 (by decide) (fun c9 => ?_) (fun c9 => ?_)
      · replace h := h.1 c9
        refine WP_aload_n dX9_refuseHeard_35 rfl rfl ⟨Nat.le_of_ble_eq_true rfl, Nat.le_of_ble_eq_true rfl⟩ ?_
        refine WP_getfield (ci := 8) (j := 2) (n := 4) (t := 0) (x := μ5 (μ5 96 a1) 2) dX9_refuseHeard_36 f_X9_219 g8 rfl rfl ?_
        refine WP_iconst dX9_refuseHeard_39 (by decide) ?_
        refine WQ_icmp_lt (tgt := 52) dX9_refuseHeard_40 (by decide) (fun c10 => ?_) (fun c10 => ?_)
        · replace h := h.1 c10
          refine WP_bipush dX9_refuseHeard_52 (by decide +kernel) (by decide) ?_
          exact WQ_ireturn dX9_refuseHeard_54 rfl h
        · replace h := h.2 c10
          refine WP_aload_n dX9_refuseHeard_43 rfl rfl ⟨Nat.le_of_ble_eq_true rfl, Nat.le_of_ble_eq_true rfl⟩ ?_
          refine WP_getfield (ci := 8) (j := 2) (n := 4) (t := 0) (x := μ5 (μ5 96 a1) 2) dX9_refuseHeard_44 f_X9_219 g8 rfl rfl ?_
          refine WP_bipush dX9_refuseHeard_47 (by decide +kernel) (by decide) ?_
          refine WQ_icmp_le (tgt := 55) dX9_refuseHeard_49 (by decide) (fun c11 => ?_) (fun c11 => ?_)
          · replace h := h.1 c11
            refine WP_iconst dX9_refuseHeard_55 (by decide) ?_
            refine WP_istore (L' := [(2, 0), (0, a1), (0, a2), (2, μ5 96 a1), (0, 0), (9, 0), (9, 0)]) dX9_refuseHeard_56 (by decide) rfl ?_
            refine WP_lforget (L' := [(2, 0), (9, 0), (0, a2), (2, μ5 96 a1), (0, 0), (9, 0), (9, 0)]) rfl (fun i hi => ?_) h
            match i, hi with
            | 0, _ => exact Or.inl rfl
            | 1, _ => exact Or.inr rfl
            | 2, _ => exact Or.inl rfl
            | 3, _ => exact Or.inl rfl
            | 4, _ => exact Or.inl rfl
            | 5, _ => exact Or.inl rfl
            | 6, _ => exact Or.inl rfl
            | i + 7, hi => exact absurd hi (by simp only [List.length_cons, List.length_nil]; omega)
          · replace h := h.2 c11
            refine WP_bipush dX9_refuseHeard_52 (by decide +kernel) (by decide) ?_
            exact WQ_ireturn dX9_refuseHeard_54 rfl h
      · replace h := h.2 c9
        refine WP_bipush dX9_refuseHeard_32 (by decide +kernel) (by decide) ?_
        exact WQ_ireturn dX9_refuseHeard_34 rfl h
    · replace h := h.2 c6
      refine WP_bipush dX9_refuseHeard_15 (by decide +kernel) (by decide) ?_
      exact WQ_ireturn dX9_refuseHeard_17 rfl h

theorem s_X9_refuseHeard_58 {d : Nat} {sc : SC} {Q : Int → Mem → Prop} {μ : Mem} {x2 x3 x4 : Int} (hx3 : isK 8 x3)
    (h : (μ x3 2 ≤ x4 → Q 0 μ) ∧ (x4 < μ x3 2 → (0 ≤ x4 ∧ x4 < 40) ∧ (∀ v3 : Int, v3 = μ (x3 + 1) x4 → (v3 < 0 → Q (-3) μ) ∧ (0 ≤ v3 → 0 ≤ v3 ∧ isK 1 (μ 0 2) ∧ (μ (μ 0 2) 3 ≤ v3 / 100 → Q (-3) μ) ∧ (v3 / 100 < μ (μ 0 2) 3 → 0 ≤ v3 ∧ (v3 / 100 = x2 → Q (-3) μ) ∧ (v3 / 100 ≠ x2 → 0 ≤ v3 ∧ CAi mX9_isGap d sc [(1, v3 % 100)] μ (fun r11 μ12 => (r11 ≠ 0 → (-2147483648 ≤ x4 + 1 ∧ x4 + 1 < 2147483648) ∧ ∀ v15 : Int, v15 = x4 + 1 → WQ mX9_refuseHeard d sc (ZI sc Q) 58 [(2, 0), (9, 0), (0, x2), (2, x3), (0, v15), (9, 0), (9, 0)] [] μ12) ∧ (r11 = 0 → Q (-3) μ12)))))))) :
    WQ mX9_refuseHeard d sc (ZI sc Q) 58 [(2, 0), (9, 0), (0, x2), (2, x3), (0, x4), (9, 0), (9, 0)] [] μ := by
  refine WP_iload dX9_refuseHeard_58 rfl ?_
  refine WP_aload_n dX9_refuseHeard_60 rfl rfl ⟨Nat.le_of_ble_eq_true rfl, Nat.le_of_ble_eq_true rfl⟩ ?_
  refine WP_getfield (ci := 8) (j := 2) (n := 4) (t := 0) (x := μ x3 2) dX9_refuseHeard_61 f_X9_219 hx3 rfl rfl ?_
  refine WQ_icmp_ge (tgt := 134) dX9_refuseHeard_64 (by decide) (fun c1 => ?_) (fun c1 => ?_)
  · replace h := h.1 c1
    refine WP_iconst dX9_refuseHeard_134 (by decide) ?_
    exact WQ_ireturn dX9_refuseHeard_135 rfl h
  · replace h := h.2 c1
    refine WP_aload_n dX9_refuseHeard_67 rfl rfl ⟨Nat.le_of_ble_eq_true rfl, Nat.le_of_ble_eq_true rfl⟩ ?_
    refine WP_getfield (ci := 8) (j := 3) (n := 4) (t := 2) (x := x3 + 1) dX9_refuseHeard_68 f_X9_222 hx3 rfl rfl ?_
    refine WP_iload dX9_refuseHeard_71 rfl ?_
    obtain ⟨g2, h⟩ := h
    refine WP_laload (n := 40) dX9_refuseHeard_73 (kf_8_3 hx3) g2 ?_
    refine WQ_nm1 (fun v3 e3 => ?_)
    replace h := h v3 e3
    refine WP_lstore (L' := [(2, 0), (9, 0), (0, x2), (2, x3), (0, x4), (1, v3), (9, 0)]) dX9_refuseHeard_74 (by decide) rfl ?_
    refine WP_lload dX9_refuseHeard_76 rfl ?_
    refine WP_lconst dX9_refuseHeard_78 rfl ?_
    refine WQ_liflt (tgt := 125) dX9_refuseHeard_79 dX9_refuseHeard_80 (by decide) (fun c4 => ?_) (fun c4 => ?_)
    · replace h := h.1 c4
      refine WP_bipush dX9_refuseHeard_125 (by decide +kernel) (by decide) ?_
      exact WQ_ireturn dX9_refuseHeard_127 rfl h
    · replace h := h.2 c4
      refine WP_lload dX9_refuseHeard_83 rfl ?_
      refine WP_ldc2 dX9_refuseHeard_85 c_X9_321 (by decide) ?_
      obtain ⟨g5, h⟩ := h
      refine WP_ldiv dX9_refuseHeard_88 ⟨g5, by decide⟩ ?_
      refine WP_aload_n dX9_refuseHeard_89 rfl rfl ⟨Nat.le_of_ble_eq_true rfl, Nat.le_of_ble_eq_true rfl⟩ ?_
      refine WP_getfield (ci := 9) (j := 2) (n := 20) (t := 2) (x := μ 0 2) dX9_refuseHeard_90 f_X9_16 k_0 rfl rfl ?_
      obtain ⟨g6, h⟩ := h
      refine WP_getfield (ci := 1) (j := 3) (n := 11) (t := 0) (x := μ (μ 0 2) 3) dX9_refuseHeard_93 f_X9_241 g6 rfl rfl ?_
      refine WP_i2l dX9_refuseHeard_96 ?_
      refine WQ_lifge (tgt := 125) dX9_refuseHeard_97 dX9_refuseHeard_98 (by decide) (fun c7 => ?_) (fun c7 => ?_)
      · replace h := h.1 c7
        refine WP_bipush dX9_refuseHeard_125 (by decide +kernel) (by decide) ?_
        exact WQ_ireturn dX9_refuseHeard_127 rfl h
      · replace h := h.2 c7
        refine WP_lload dX9_refuseHeard_101 rfl ?_
        refine WP_ldc2 dX9_refuseHeard_103 c_X9_321 (by decide) ?_
        obtain ⟨g8, h⟩ := h
        refine WP_ldiv dX9_refuseHeard_106 ⟨g8, by decide⟩ ?_
        refine WP_iload_n dX9_refuseHeard_107 rfl rfl ?_
        refine WP_i2l dX9_refuseHeard_108 ?_
        refine WQ_lifeq (tgt := 125) dX9_refuseHeard_109 dX9_refuseHeard_110 (by decide) (fun c9 => ?_) (fun c9 => ?_)
        · replace h := h.1 c9
          refine WP_bipush dX9_refuseHeard_125 (by decide +kernel) (by decide) ?_
          exact WQ_ireturn dX9_refuseHeard_127 rfl h
        · replace h := h.2 c9
          refine WP_lload dX9_refuseHeard_113 rfl ?_
          refine WP_ldc2 dX9_refuseHeard_115 c_X9_321 (by decide) ?_
          obtain ⟨g10, h⟩ := h
          refine WP_lrem dX9_refuseHeard_118 ⟨g10, by decide⟩ ?_
          refine WQ_invSi (as := [(1, v3 % 100)]) dX9_refuseHeard_119 l_X9_270 mw_X9_isGap mt_X9_isGap mo_X9_isGap (Nat.le_of_ble_eq_true rfl) h rfl (fun r11 μ12 h => ?_)
          refine WQ_ifne (tgt := 128) dX9_refuseHeard_122 (by decide) (fun c13 => ?_) (fun c13 => ?_)
          · replace h := h.1 c13
            obtain ⟨g14, h⟩ := h
            refine WQ_iinc dX9_refuseHeard_128 rfl (by decide) g14 (fun v15 e15 => ?_)
            refine WP_same (L' := [(2, 0), (9, 0), (0, x2), (2, x3), (0, v15), (1, v3), (9, 0)]) rfl ?_
            replace h := h v15 e15
            refine WP_goto (tgt := 58) dX9_refuseHeard_131 (by decide) ?_
            refine WP_lforget (L' := [(2, 0), (9, 0), (0, x2), (2, x3), (0, v15), (9, 0), (9, 0)]) rfl (fun i hi => ?_) h
            match i, hi with
            | 0, _ => exact Or.inl rfl
            | 1, _ => exact Or.inl rfl
            | 2, _ => exact Or.inl rfl
            | 3, _ => exact Or.inl rfl
            | 4, _ => exact Or.inl rfl
            | 5, _ => exact Or.inr rfl
            | 6, _ => exact Or.inl rfl
            | i + 7, hi => exact absurd hi (by simp only [List.length_cons, List.length_nil]; omega)
          · replace h := h.2 c13
            refine WP_bipush dX9_refuseHeard_125 (by decide +kernel) (by decide) ?_
            exact WQ_ireturn dX9_refuseHeard_127 rfl h

theorem s_X9_restore_0 {d : Nat} {sc : SC} {Q : Int → Mem → Prop} {μ : Mem} {a1 : Int}
    (h : CAi mX9_isImage d sc [(0, a1)] μ (fun r1 μ2 => (r1 ≠ 0 → (0 ≤ a1 ∧ a1 < 2) ∧ (μ2 33 a1 ≠ 0 → (0 ≤ a1 ∧ a1 < 2) ∧ isK 1 (μ2 0 2) ∧ CAv mX1_copyFrom d sc [(2, μ2 0 2), (2, μ2 32 a1)] μ2 (fun μ9 => CAv mX5_forget d sc [(2, 34)] μ9 (fun μ11 => CAv mX9_forgetAnswers d sc [(2, 0)] μ11 (fun μ13 => Q 0 μ13)))) ∧ (μ2 33 a1 = 0 → Q (-5) μ2)) ∧ (r1 = 0 → Q (-2) μ2))) :
    WQ mX9_restore d sc (ZI sc Q) 0 [(2, 0), (0, a1)] [] μ := by
  refine WP_iload_n dX9_restore_0 rfl rfl ?_
  refine WQ_invSi (as := [(0, a1)]) dX9_restore_1 l_X9_360 mw_X9_isImage mt_X9_isImage mo_X9_isImage (Nat.le_of_ble_eq_true rfl) h rfl (fun r1 μ2 h => ?_)
  refine WQ_ifne (tgt := 10) dX9_restore_4 (by decide) (fun c3 => ?_) (fun c3 => ?_)
  · replace h := h.1 c3
    refine WP_aload_n dX9_restore_10 rfl rfl ⟨Nat.le_of_ble_eq_true rfl, Nat.le_of_ble_eq_true rfl⟩ ?_
    refine WP_getfield (ci := 9) (j := 6) (n := 20) (t := 2) (x := 33) dX9_restore_11 f_X9_34 k_0 rfl rfl ?_
    refine WP_iload_n dX9_restore_14 rfl rfl ?_
    obtain ⟨g4, h⟩ := h
    refine WP_zaload (n := 2) dX9_restore_15 k_33 g4 ?_
    refine WQ_ifne (tgt := 22) dX9_restore_16 (by decide) (fun c5 => ?_) (fun c5 => ?_)
    · replace h := h.1 c5
      refine WP_aload_n dX9_restore_22 rfl rfl ⟨Nat.le_of_ble_eq_true rfl, Nat.le_of_ble_eq_true rfl⟩ ?_
      refine WP_getfield (ci := 9) (j := 2) (n := 20) (t := 2) (x := μ2 0 2) dX9_restore_23 f_X9_16 k_0 rfl rfl ?_
      refine WP_aload_n dX9_restore_26 rfl rfl ⟨Nat.le_of_ble_eq_true rfl, Nat.le_of_ble_eq_true rfl⟩ ?_
      refine WP_getfield (ci := 9) (j := 5) (n := 20) (t := 2) (x := 32) dX9_restore_27 f_X9_30 k_0 rfl rfl ?_
      refine WP_iload_n dX9_restore_30 rfl rfl ?_
      obtain ⟨g6, h⟩ := h
      refine WP_aaload (n := 2) (ci := 1) dX9_restore_31 k_32 (by decide) g6 ?_
      obtain ⟨g7, h⟩ := h
      refine WQ_invVv (v := (2, μ2 0 2)) (as := [(2, μ2 32 a1)]) dX9_restore_32 l_X9_363 mw_X1_copyFrom mi_X1_copyFrom ms_X1_copyFrom mo_X1_copyFrom (rcv (ci := 1) (n := 11) (r := (RX1, TX1, 11)) g7 rfl rfl) (Nat.le_of_ble_eq_true rfl) h rfl (fun μ9 h => ?_)
      refine WP_aload_n dX9_restore_35 rfl rfl ⟨Nat.le_of_ble_eq_true rfl, Nat.le_of_ble_eq_true rfl⟩ ?_
      refine WP_getfield (ci := 9) (j := 7) (n := 20) (t := 2) (x := 34) dX9_restore_36 f_X9_41 k_0 rfl rfl ?_
      refine WQ_invVv (v := (2, 34)) (as := []) dX9_restore_39 l_X9_115 mw_X5_forget mi_X5_forget ms_X5_forget mo_X5_forget (rcv (ci := 5) (n := 2) (r := (RX5, TX5, 2)) k_34 rfl rfl) (Nat.le_of_ble_eq_true rfl) h rfl (fun μ11 h => ?_)
      refine WP_aload_n dX9_restore_42 rfl rfl ⟨Nat.le_of_ble_eq_true rfl, Nat.le_of_ble_eq_true rfl⟩ ?_
      refine WQ_invVv (v := (2, 0)) (as := []) dX9_restore_43 l_X9_118 mw_X9_forgetAnswers mi_X9_forgetAnswers ms_X9_forgetAnswers mo_X9_forgetAnswers (rcv (ci := 9) (n := 20) (r := (RX9, TX9, 20)) k_0 rfl rfl) (Nat.le_of_ble_eq_true rfl) h rfl (fun μ13 h => ?_)
      refine WP_iconst dX9_restore_46 (by decide) ?_
      exact WQ_ireturn dX9_restore_47 rfl h
    · replace h := h.2 c5
      refine WP_bipush dX9_restore_19 (by decide +kernel) (by decide) ?_
      exact WQ_ireturn dX9_restore_21 rfl h
  · replace h := h.2 c3
    refine WP_bipush dX9_restore_7 (by decide +kernel) (by decide) ?_
    exact WQ_ireturn dX9_restore_9 rfl h

theorem s_X9_silence_0 {d : Nat} {sc : SC} {Q : Int → Mem → Prop} {μ : Mem} {a1 a2 : Int}
    (h : CAi mX9_isPerson d sc [(2, 0), (0, a1)] μ (fun r1 μ2 => (r1 = 0 → Q (-2) μ2) ∧ (r1 ≠ 0 → (a2 < 0 → Q (-2) μ2) ∧ (0 ≤ a2 → (a2 ≤ 2 → CAv mX9_know d sc [(2, 0)] μ2 (fun μ7 => (μ7 120 0 = a1 → (a2 ≠ 0 → (a2 ≠ 1 → Q (μ7 120 3) μ7) ∧ (a2 = 1 → Q (μ7 120 2) μ7)) ∧ (a2 = 0 → Q (μ7 120 1) μ7)) ∧ (μ7 120 0 ≠ a1 → CAv mX2_start d sc [(2, 120), (0, a1), (2, μ7 0 2), (2, 97), (2, 121), (2, 135)] μ7 (fun μ12 => CAv mX2_seekOne d sc [(2, 120)] μ12 (fun μ14 => CAv mX2_seekTwo d sc [(2, 120)] μ14 (fun μ16 => (a2 ≠ 0 → (a2 ≠ 1 → Q (μ16 120 3) μ16) ∧ (a2 = 1 → Q (μ16 120 2) μ16)) ∧ (a2 = 0 → Q (μ16 120 1) μ16))))))) ∧ (2 < a2 → Q (-2) μ2))))) :
    WQ mX9_silence d sc (ZI sc Q) 0 [(2, 0), (0, a1), (0, a2)] [] μ := by
  refine WP_aload_n dX9_silence_0 rfl rfl ⟨Nat.le_of_ble_eq_true rfl, Nat.le_of_ble_eq_true rfl⟩ ?_
  refine WP_iload_n dX9_silence_1 rfl rfl ?_
  refine WQ_invVi (v := (2, 0)) (as := [(0, a1)]) dX9_silence_2 l_X9_127 mw_X9_isPerson mi_X9_isPerson ms_X9_isPerson mo_X9_isPerson (rcv (ci := 9) (n := 20) (r := (RX9, TX9, 20)) k_0 rfl rfl) (Nat.le_of_ble_eq_true rfl) h rfl (fun r1 μ2 h => ?_)
  refine WQ_ifeq (tgt := 17) dX9_silence_5 (by decide) (fun c3 => ?_) (fun c3 => ?_)
  · replace h := h.1 c3
    refine WP_bipush dX9_silence_17 (by decide +kernel) (by decide) ?_
    exact WQ_ireturn dX9_silence_19 rfl h
  · replace h := h.2 c3
    refine WP_iload_n dX9_silence_8 rfl rfl ?_
    refine WQ_iflt (tgt := 17) dX9_silence_9 (by decide) (fun c4 => ?_) (fun c4 => ?_)
    · replace h := h.1 c4
      refine WP_bipush dX9_silence_17 (by decide +kernel) (by decide) ?_
      exact WQ_ireturn dX9_silence_19 rfl h
    · replace h := h.2 c4
      refine WP_iload_n dX9_silence_12 rfl rfl ?_
      refine WP_iconst dX9_silence_13 (by decide) ?_
      refine WQ_icmp_le (tgt := 20) dX9_silence_14 (by decide) (fun c5 => ?_) (fun c5 => ?_)
      · replace h := h.1 c5
        refine WP_aload_n dX9_silence_20 rfl rfl ⟨Nat.le_of_ble_eq_true rfl, Nat.le_of_ble_eq_true rfl⟩ ?_
        refine WQ_invVv (v := (2, 0)) (as := []) dX9_silence_21 l_X9_161 mw_X9_know mi_X9_know ms_X9_know mo_X9_know (rcv (ci := 9) (n := 20) (r := (RX9, TX9, 20)) k_0 rfl rfl) (Nat.le_of_ble_eq_true rfl) h rfl (fun μ7 h => ?_)
        refine WP_aload_n dX9_silence_24 rfl rfl ⟨Nat.le_of_ble_eq_true rfl, Nat.le_of_ble_eq_true rfl⟩ ?_
        refine WP_getfield (ci := 9) (j := 13) (n := 20) (t := 2) (x := 120) dX9_silence_25 f_X9_75 k_0 rfl rfl ?_
        refine WP_getfield (ci := 2) (j := 0) (n := 11) (t := 0) (x := μ7 120 0) dX9_silence_28 f_X9_288 k_120 rfl rfl ?_
        refine WP_iload_n dX9_silence_31 rfl rfl ?_
        refine WQ_icmp_eq (tgt := 73) dX9_silence_32 (by decide) (fun c8 => ?_) (fun c8 => ?_)
        · replace h := h.1 c8
          refine WP_iload_n dX9_silence_73 rfl rfl ?_
          refine WQ_ifne (tgt := 85) dX9_silence_74 (by decide) (fun c9 => ?_) (fun c9 => ?_)
          · replace h := h.1 c9
            refine WP_iload_n dX9_silence_85 rfl rfl ?_
            refine WP_iconst dX9_silence_86 (by decide) ?_
            refine WQ_icmp_ne (tgt := 100) dX9_silence_87 (by decide) (fun c10 => ?_) (fun c10 => ?_)
            · replace h := h.1 c10
              refine WP_aload_n dX9_silence_100 rfl rfl ⟨Nat.le_of_ble_eq_true rfl, Nat.le_of_ble_eq_true rfl⟩ ?_
              refine WP_getfield (ci := 9) (j := 13) (n := 20) (t := 2) (x := 120) dX9_silence_101 f_X9_75 k_0 rfl rfl ?_
              refine WP_getfield (ci := 2) (j := 3) (n := 11) (t := 0) (x := μ7 120 3) dX9_silence_104 f_X9_307 k_120 rfl rfl ?_
              exact WQ_ireturn dX9_silence_107 rfl h
            · replace h := h.2 c10
              refine WP_aload_n dX9_silence_90 rfl rfl ⟨Nat.le_of_ble_eq_true rfl, Nat.le_of_ble_eq_true rfl⟩ ?_
              refine WP_getfield (ci := 9) (j := 13) (n := 20) (t := 2) (x := 120) dX9_silence_91 f_X9_75 k_0 rfl rfl ?_
              refine WP_getfield (ci := 2) (j := 2) (n := 11) (t := 0) (x := μ7 120 2) dX9_silence_94 f_X9_304 k_120 rfl rfl ?_
              refine WP_goto (tgt := 107) dX9_silence_97 (by decide) ?_
              exact WQ_ireturn dX9_silence_107 rfl h
          · replace h := h.2 c9
            refine WP_aload_n dX9_silence_77 rfl rfl ⟨Nat.le_of_ble_eq_true rfl, Nat.le_of_ble_eq_true rfl⟩ ?_
            refine WP_getfield (ci := 9) (j := 13) (n := 20) (t := 2) (x := 120) dX9_silence_78 f_X9_75 k_0 rfl rfl ?_
            refine WP_getfield (ci := 2) (j := 1) (n := 11) (t := 0) (x := μ7 120 1) dX9_silence_81 f_X9_301 k_120 rfl rfl ?_
            exact WQ_ireturn dX9_silence_84 rfl h
        · replace h := h.2 c8
          refine WP_aload_n dX9_silence_35 rfl rfl ⟨Nat.le_of_ble_eq_true rfl, Nat.le_of_ble_eq_true rfl⟩ ?_
          refine WP_getfield (ci := 9) (j := 13) (n := 20) (t := 2) (x := 120) dX9_silence_36 f_X9_75 k_0 rfl rfl ?_
          refine WP_iload_n dX9_silence_39 rfl rfl ?_
          refine WP_aload_n dX9_silence_40 rfl rfl ⟨Nat.le_of_ble_eq_true rfl, Nat.le_of_ble_eq_true rfl⟩ ?_
          refine WP_getfield (ci := 9) (j := 2) (n := 20) (t := 2) (x := μ7 0 2) dX9_silence_41 f_X9_16 k_0 rfl rfl ?_
          refine WP_aload_n dX9_silence_44 rfl rfl ⟨Nat.le_of_ble_eq_true rfl, Nat.le_of_ble_eq_true rfl⟩ ?_
          refine WP_getfield (ci := 9) (j := 10) (n := 20) (t := 2) (x := 97) dX9_silence_45 f_X9_54 k_0 rfl rfl ?_
          refine WP_aload_n dX9_silence_48 rfl rfl ⟨Nat.le_of_ble_eq_true rfl, Nat.le_of_ble_eq_true rfl⟩ ?_
          refine WP_getfield (ci := 9) (j := 14) (n := 20) (t := 2) (x := 121) dX9_silence_49 f_X9_82 k_0 rfl rfl ?_
          refine WP_aload_n dX9_silence_52 rfl rfl ⟨Nat.le_of_ble_eq_true rfl, Nat.le_of_ble_eq_true rfl⟩ ?_
          refine WP_getfield (ci := 9) (j := 16) (n := 20) (t := 2) (x := 135) dX9_silence_53 f_X9_89 k_0 rfl rfl ?_
          refine WQ_invVv (v := (2, 120)) (as := [(0, a1), (2, μ7 0 2), (2, 97), (2, 121), (2, 135)]) dX9_silence_56 l_X9_291 mw_X2_start mi_X2_start ms_X2_start mo_X2_start (rcv (ci := 2) (n := 11) (r := (RX2, TX2, 11)) k_120 rfl rfl) (Nat.le_of_ble_eq_true rfl) h rfl (fun μ12 h => ?_)
          refine WP_aload_n dX9_silence_59 rfl rfl ⟨Nat.le_of_ble_eq_true rfl, Nat.le_of_ble_eq_true rfl⟩ ?_
          refine WP_getfield (ci := 9) (j := 13) (n := 20) (t := 2) (x := 120) dX9_silence_60 f_X9_75 k_0 rfl rfl ?_
          refine WQ_invVv (v := (2, 120)) (as := []) dX9_silence_63 l_X9_295 mw_X2_seekOne mi_X2_seekOne ms_X2_seekOne mo_X2_seekOne (rcv (ci := 2) (n := 11) (r := (RX2, TX2, 11)) k_120 rfl rfl) (Nat.le_of_ble_eq_true rfl) h rfl (fun μ14 h => ?_)
          refine WP_aload_n dX9_silence_66 rfl rfl ⟨Nat.le_of_ble_eq_true rfl, Nat.le_of_ble_eq_true rfl⟩ ?_
          refine WP_getfield (ci := 9) (j := 13) (n := 20) (t := 2) (x := 120) dX9_silence_67 f_X9_75 k_0 rfl rfl ?_
          refine WQ_invVv (v := (2, 120)) (as := []) dX9_silence_70 l_X9_298 mw_X2_seekTwo mi_X2_seekTwo ms_X2_seekTwo mo_X2_seekTwo (rcv (ci := 2) (n := 11) (r := (RX2, TX2, 11)) k_120 rfl rfl) (Nat.le_of_ble_eq_true rfl) h rfl (fun μ16 h => ?_)
          refine WP_iload_n dX9_silence_73 rfl rfl ?_
          refine WQ_ifne (tgt := 85) dX9_silence_74 (by decide) (fun c17 => ?_) (fun c17 => ?_)
          · replace h := h.1 c17
            refine WP_iload_n dX9_silence_85 rfl rfl ?_
            refine WP_iconst dX9_silence_86 (by decide) ?_
            refine WQ_icmp_ne (tgt := 100) dX9_silence_87 (by decide) (fun c18 => ?_) (fun c18 => ?_)
            · replace h := h.1 c18
              refine WP_aload_n dX9_silence_100 rfl rfl ⟨Nat.le_of_ble_eq_true rfl, Nat.le_of_ble_eq_true rfl⟩ ?_
              refine WP_getfield (ci := 9) (j := 13) (n := 20) (t := 2) (x := 120) dX9_silence_101 f_X9_75 k_0 rfl rfl ?_
              refine WP_getfield (ci := 2) (j := 3) (n := 11) (t := 0) (x := μ16 120 3) dX9_silence_104 f_X9_307 k_120 rfl rfl ?_
              exact WQ_ireturn dX9_silence_107 rfl h
            · replace h := h.2 c18
              refine WP_aload_n dX9_silence_90 rfl rfl ⟨Nat.le_of_ble_eq_true rfl, Nat.le_of_ble_eq_true rfl⟩ ?_
              refine WP_getfield (ci := 9) (j := 13) (n := 20) (t := 2) (x := 120) dX9_silence_91 f_X9_75 k_0 rfl rfl ?_
              refine WP_getfield (ci := 2) (j := 2) (n := 11) (t := 0) (x := μ16 120 2) dX9_silence_94 f_X9_304 k_120 rfl rfl ?_
              refine WP_goto (tgt := 107) dX9_silence_97 (by decide) ?_
              exact WQ_ireturn dX9_silence_107 rfl h
          · replace h := h.2 c17
            refine WP_aload_n dX9_silence_77 rfl rfl ⟨Nat.le_of_ble_eq_true rfl, Nat.le_of_ble_eq_true rfl⟩ ?_
            refine WP_getfield (ci := 9) (j := 13) (n := 20) (t := 2) (x := 120) dX9_silence_78 f_X9_75 k_0 rfl rfl ?_
            refine WP_getfield (ci := 2) (j := 1) (n := 11) (t := 0) (x := μ16 120 1) dX9_silence_81 f_X9_301 k_120 rfl rfl ?_
            exact WQ_ireturn dX9_silence_84 rfl h
      · replace h := h.2 c5
        refine WP_bipush dX9_silence_17 (by decide +kernel) (by decide) ?_
        exact WQ_ireturn dX9_silence_19 rfl h

theorem s_X9_startTrialLaws_0 {d : Nat} {sc : SC} {Q : Mem → Prop} {μ : Mem}
    (h : isK 1 (μ 0 2) ∧ CAv mX6_copyFrom d sc [(2, 121), (2, μ 0 2 + 7)] μ (fun μ3 => CAv mX3_take d sc [(2, 127), (2, μ3 0 2), (2, 121)] μ3 (fun μ5 => Q μ5))) :
    WQ mX9_startTrialLaws d sc (ZV sc Q) 0 [(2, 0)] [] μ := by
  refine WP_aload_n dX9_startTrialLaws_0 rfl rfl ⟨Nat.le_of_ble_eq_true rfl, Nat.le_of_ble_eq_true rfl⟩ ?_
  refine WP_getfield (ci := 9) (j := 14) (n := 20) (t := 2) (x := 121) dX9_startTrialLaws_1 f_X9_82 k_0 rfl rfl ?_
  refine WP_aload_n dX9_startTrialLaws_4 rfl rfl ⟨Nat.le_of_ble_eq_true rfl, Nat.le_of_ble_eq_true rfl⟩ ?_
  refine WP_getfield (ci := 9) (j := 2) (n := 20) (t := 2) (x := μ 0 2) dX9_startTrialLaws_5 f_X9_16 k_0 rfl rfl ?_
  obtain ⟨g1, h⟩ := h
  refine WP_getfield (ci := 1) (j := 10) (n := 11) (t := 2) (x := μ 0 2 + 7) dX9_startTrialLaws_8 f_X9_131 g1 rfl rfl ?_
  refine WQ_invVv (v := (2, 121)) (as := [(2, μ 0 2 + 7)]) dX9_startTrialLaws_11 l_X9_176 mw_X6_copyFrom mi_X6_copyFrom ms_X6_copyFrom mo_X6_copyFrom (rcv (ci := 6) (n := 7) (r := (RX6, TX6, 7)) k_121 rfl rfl) (Nat.le_of_ble_eq_true rfl) h rfl (fun μ3 h => ?_)
  refine WP_aload_n dX9_startTrialLaws_14 rfl rfl ⟨Nat.le_of_ble_eq_true rfl, Nat.le_of_ble_eq_true rfl⟩ ?_
  refine WP_getfield (ci := 9) (j := 15) (n := 20) (t := 2) (x := 127) dX9_startTrialLaws_15 f_X9_86 k_0 rfl rfl ?_
  refine WP_aload_n dX9_startTrialLaws_18 rfl rfl ⟨Nat.le_of_ble_eq_true rfl, Nat.le_of_ble_eq_true rfl⟩ ?_
  refine WP_getfield (ci := 9) (j := 2) (n := 20) (t := 2) (x := μ3 0 2) dX9_startTrialLaws_19 f_X9_16 k_0 rfl rfl ?_
  refine WP_aload_n dX9_startTrialLaws_22 rfl rfl ⟨Nat.le_of_ble_eq_true rfl, Nat.le_of_ble_eq_true rfl⟩ ?_
  refine WP_getfield (ci := 9) (j := 14) (n := 20) (t := 2) (x := 121) dX9_startTrialLaws_23 f_X9_82 k_0 rfl rfl ?_
  refine WQ_invVv (v := (2, 127)) (as := [(2, μ3 0 2), (2, 121)]) dX9_startTrialLaws_26 l_X9_401 mw_X3_take mi_X3_take ms_X3_take mo_X3_take (rcv (ci := 3) (n := 9) (r := (RX3, TX3, 9)) k_127 rfl rfl) (Nat.le_of_ble_eq_true rfl) h rfl (fun μ5 h => ?_)
  exact WQ_return dX9_startTrialLaws_29 rfl h

theorem s_X9_stopBy_0 {d : Nat} {sc : SC} {Q : Int → Mem → Prop} {μ : Mem} {a1 a2 a3 : Int}
    (h : CAi mX9_isPerson d sc [(2, 0), (0, a1)] μ (fun r1 μ2 => (r1 ≠ 0 → CAi mX9_isMinute d sc [(0, a2)] μ2 (fun r4 μ5 => (r4 = 0 → Q (-3) μ5) ∧ (r4 ≠ 0 → (0 ≤ a3 → CAv mX9_know d sc [(2, 0)] μ5 (fun μ9 => CAi mX9_findStops d sc [(2, 0), (0, a1), (0, a2), (0, a3)] μ9 (fun r10 μ11 => Q r10 μ11))) ∧ (a3 < 0 → Q (-3) μ5)))) ∧ (r1 = 0 → Q (-2) μ2))) :
    WQ mX9_stopBy d sc (ZI sc Q) 0 [(2, 0), (0, a1), (0, a2), (0, a3)] [] μ := by
  refine WP_aload_n dX9_stopBy_0 rfl rfl ⟨Nat.le_of_ble_eq_true rfl, Nat.le_of_ble_eq_true rfl⟩ ?_
  refine WP_iload_n dX9_stopBy_1 rfl rfl ?_
  refine WQ_invVi (v := (2, 0)) (as := [(0, a1)]) dX9_stopBy_2 l_X9_127 mw_X9_isPerson mi_X9_isPerson ms_X9_isPerson mo_X9_isPerson (rcv (ci := 9) (n := 20) (r := (RX9, TX9, 20)) k_0 rfl rfl) (Nat.le_of_ble_eq_true rfl) h rfl (fun r1 μ2 h => ?_)
  refine WQ_ifne (tgt := 11) dX9_stopBy_5 (by decide) (fun c3 => ?_) (fun c3 => ?_)
  · replace h := h.1 c3
    refine WP_iload_n dX9_stopBy_11 rfl rfl ?_
    refine WQ_invSi (as := [(0, a2)]) dX9_stopBy_12 l_X9_264 mw_X9_isMinute mt_X9_isMinute mo_X9_isMinute (Nat.le_of_ble_eq_true rfl) h rfl (fun r4 μ5 h => ?_)
    refine WQ_ifeq (tgt := 22) dX9_stopBy_15 (by decide) (fun c6 => ?_) (fun c6 => ?_)
    · replace h := h.1 c6
      refine WP_bipush dX9_stopBy_22 (by decide +kernel) (by decide) ?_
      exact WQ_ireturn dX9_stopBy_24 rfl h
    · replace h := h.2 c6
      refine WP_iload_n dX9_stopBy_18 rfl rfl ?_
      refine WQ_ifge (tgt := 25) dX9_stopBy_19 (by decide) (fun c7 => ?_) (fun c7 => ?_)
      · replace h := h.1 c7
        refine WP_aload_n dX9_stopBy_25 rfl rfl ⟨Nat.le_of_ble_eq_true rfl, Nat.le_of_ble_eq_true rfl⟩ ?_
        refine WQ_invVv (v := (2, 0)) (as := []) dX9_stopBy_26 l_X9_161 mw_X9_know mi_X9_know ms_X9_know mo_X9_know (rcv (ci := 9) (n := 20) (r := (RX9, TX9, 20)) k_0 rfl rfl) (Nat.le_of_ble_eq_true rfl) h rfl (fun μ9 h => ?_)
        refine WP_aload_n dX9_stopBy_29 rfl rfl ⟨Nat.le_of_ble_eq_true rfl, Nat.le_of_ble_eq_true rfl⟩ ?_
        refine WP_iload_n dX9_stopBy_30 rfl rfl ?_
        refine WP_iload_n dX9_stopBy_31 rfl rfl ?_
        refine WP_iload_n dX9_stopBy_32 rfl rfl ?_
        refine WQ_invVi (v := (2, 0)) (as := [(0, a1), (0, a2), (0, a3)]) dX9_stopBy_33 l_X9_274 mw_X9_findStops mi_X9_findStops ms_X9_findStops mo_X9_findStops (rcv (ci := 9) (n := 20) (r := (RX9, TX9, 20)) k_0 rfl rfl) (Nat.le_of_ble_eq_true rfl) h rfl (fun r10 μ11 h => ?_)
        exact WQ_ireturn dX9_stopBy_36 rfl h
      · replace h := h.2 c7
        refine WP_bipush dX9_stopBy_22 (by decide +kernel) (by decide) ?_
        exact WQ_ireturn dX9_stopBy_24 rfl h
  · replace h := h.2 c3
    refine WP_bipush dX9_stopBy_8 (by decide +kernel) (by decide) ?_
    exact WQ_ireturn dX9_stopBy_10 rfl h

theorem s_X9_stops_0 {d : Nat} {sc : SC} {Q : Int → Mem → Prop} {μ : Mem} {a1 a2 : Int}
    (h : CAi mX9_isPerson d sc [(2, 0), (0, a1)] μ (fun r1 μ2 => (r1 ≠ 0 → CAi mX9_isMinute d sc [(0, a2)] μ2 (fun r4 μ5 => (r4 ≠ 0 → CAv mX9_know d sc [(2, 0)] μ5 (fun μ8 => CAi mX9_findStops d sc [(2, 0), (0, a1), (0, a2), (0, (-1))] μ8 (fun r9 μ10 => Q r9 μ10))) ∧ (r4 = 0 → Q (-3) μ5))) ∧ (r1 = 0 → Q (-2) μ2))) :
    WQ mX9_stops d sc (ZI sc Q) 0 [(2, 0), (0, a1), (0, a2)] [] μ := by
  refine WP_aload_n dX9_stops_0 rfl rfl ⟨Nat.le_of_ble_eq_true rfl, Nat.le_of_ble_eq_true rfl⟩ ?_
  refine WP_iload_n dX9_stops_1 rfl rfl ?_
  refine WQ_invVi (v := (2, 0)) (as := [(0, a1)]) dX9_stops_2 l_X9_127 mw_X9_isPerson mi_X9_isPerson ms_X9_isPerson mo_X9_isPerson (rcv (ci := 9) (n := 20) (r := (RX9, TX9, 20)) k_0 rfl rfl) (Nat.le_of_ble_eq_true rfl) h rfl (fun r1 μ2 h => ?_)
  refine WQ_ifne (tgt := 11) dX9_stops_5 (by decide) (fun c3 => ?_) (fun c3 => ?_)
  · replace h := h.1 c3
    refine WP_iload_n dX9_stops_11 rfl rfl ?_
    refine WQ_invSi (as := [(0, a2)]) dX9_stops_12 l_X9_264 mw_X9_isMinute mt_X9_isMinute mo_X9_isMinute (Nat.le_of_ble_eq_true rfl) h rfl (fun r4 μ5 h => ?_)
    refine WQ_ifne (tgt := 21) dX9_stops_15 (by decide) (fun c6 => ?_) (fun c6 => ?_)
    · replace h := h.1 c6
      refine WP_aload_n dX9_stops_21 rfl rfl ⟨Nat.le_of_ble_eq_true rfl, Nat.le_of_ble_eq_true rfl⟩ ?_
      refine WQ_invVv (v := (2, 0)) (as := []) dX9_stops_22 l_X9_161 mw_X9_know mi_X9_know ms_X9_know mo_X9_know (rcv (ci := 9) (n := 20) (r := (RX9, TX9, 20)) k_0 rfl rfl) (Nat.le_of_ble_eq_true rfl) h rfl (fun μ8 h => ?_)
      refine WP_aload_n dX9_stops_25 rfl rfl ⟨Nat.le_of_ble_eq_true rfl, Nat.le_of_ble_eq_true rfl⟩ ?_
      refine WP_iload_n dX9_stops_26 rfl rfl ?_
      refine WP_iload_n dX9_stops_27 rfl rfl ?_
      refine WP_iconst dX9_stops_28 (by decide) ?_
      refine WQ_invVi (v := (2, 0)) (as := [(0, a1), (0, a2), (0, (-1))]) dX9_stops_29 l_X9_274 mw_X9_findStops mi_X9_findStops ms_X9_findStops mo_X9_findStops (rcv (ci := 9) (n := 20) (r := (RX9, TX9, 20)) k_0 rfl rfl) (Nat.le_of_ble_eq_true rfl) h rfl (fun r9 μ10 h => ?_)
      exact WQ_ireturn dX9_stops_32 rfl h
    · replace h := h.2 c6
      refine WP_bipush dX9_stops_18 (by decide +kernel) (by decide) ?_
      exact WQ_ireturn dX9_stops_20 rfl h
  · replace h := h.2 c3
    refine WP_bipush dX9_stops_8 (by decide +kernel) (by decide) ?_
    exact WQ_ireturn dX9_stops_10 rfl h

theorem s_X9_tapeInt_0 {d : Nat} {sc : SC} {Q : Mem → Prop} {μ : Mem} {a1 : Int}
    (h : WQ mX9_tapeInt d sc (ZV sc Q) 3 [(2, 0), (0, a1), (0, 24)] [] μ) :
    WQ mX9_tapeInt d sc (ZV sc Q) 0 [(2, 0), (0, a1), (9, 0)] [] μ := by
  refine WP_bipush dX9_tapeInt_0 (by decide +kernel) (by decide) ?_
  refine WP_istore_n (L' := [(2, 0), (0, a1), (0, 24)]) dX9_tapeInt_2 rfl (by decide) rfl ?_
  exact h

theorem s_X9_tapeInt_3 {d : Nat} {sc : SC} {Q : Mem → Prop} {μ : Mem} {x1 x2 : Int}
    (h : (x2 < 0 → Q μ) ∧ (0 ≤ x2 → (900 ≤ μ 0 1 → (-2147483648 ≤ x2 + (-8) ∧ x2 + (-8) < 2147483648) ∧ ∀ v4 : Int, v4 = x2 + (-8) → WQ mX9_tapeInt d sc (ZV sc Q) 3 [(2, 0), (0, x1), (0, v4)] [] μ) ∧ (μ 0 1 < 900 → (0 ≤ μ 0 1 ∧ μ 0 1 < 900) ∧ (∀ μ6, μ6 = mup μ 1 (μ 0 1) (toB (toB (iUshr x1 x2))) → (-2147483648 ≤ (μ6 0 1) + 1 ∧ (μ6 0 1) + 1 < 2147483648) ∧ (∀ μ8, μ8 = mup μ6 0 1 ((μ6 0 1) + 1) → (-2147483648 ≤ x2 + (-8) ∧ x2 + (-8) < 2147483648) ∧ ∀ v10 : Int, v10 = x2 + (-8) → WQ mX9_tapeInt d sc (ZV sc Q) 3 [(2, 0), (0, x1), (0, v10)] [] μ8))))) :
    WQ mX9_tapeInt d sc (ZV sc Q) 3 [(2, 0), (0, x1), (0, x2)] [] μ := by
  refine WP_iload_n dX9_tapeInt_3 rfl rfl ?_
  refine WQ_iflt (tgt := 46) dX9_tapeInt_4 (by decide) (fun c1 => ?_) (fun c1 => ?_)
  · replace h := h.1 c1
    exact WQ_return dX9_tapeInt_46 rfl h
  · replace h := h.2 c1
    refine WP_aload_n dX9_tapeInt_7 rfl rfl ⟨Nat.le_of_ble_eq_true rfl, Nat.le_of_ble_eq_true rfl⟩ ?_
    refine WP_getfield (ci := 9) (j := 1) (n := 20) (t := 0) (x := μ 0 1) dX9_tapeInt_8 f_X9_100 k_0 rfl rfl ?_
    refine WP_sipush dX9_tapeInt_11 (by decide +kernel) (by decide) ?_
    refine WQ_icmp_ge (tgt := 40) dX9_tapeInt_14 (by decide) (fun c2 => ?_) (fun c2 => ?_)
    · replace h := h.1 c2
      obtain ⟨g3, h⟩ := h
      refine WQ_iinc dX9_tapeInt_40 rfl (by decide) g3 (fun v4 e4 => ?_)
      refine WP_same (L' := [(2, 0), (0, x1), (0, v4)]) rfl ?_
      replace h := h v4 e4
      refine WP_goto (tgt := 3) dX9_tapeInt_43 (by decide) ?_
      exact h
    · replace h := h.2 c2
      refine WP_aload_n dX9_tapeInt_17 rfl rfl ⟨Nat.le_of_ble_eq_true rfl, Nat.le_of_ble_eq_true rfl⟩ ?_
      refine WP_getfield (ci := 9) (j := 0) (n := 20) (t := 2) (x := 1) dX9_tapeInt_18 f_X9_9 k_0 rfl rfl ?_
      refine WP_aload_n dX9_tapeInt_21 rfl rfl ⟨Nat.le_of_ble_eq_true rfl, Nat.le_of_ble_eq_true rfl⟩ ?_
      refine WP_getfield (ci := 9) (j := 1) (n := 20) (t := 0) (x := μ 0 1) dX9_tapeInt_22 f_X9_100 k_0 rfl rfl ?_
      refine WP_iload_n dX9_tapeInt_25 rfl rfl ?_
      refine WP_iload_n dX9_tapeInt_26 rfl rfl ?_
      refine WP_iushr dX9_tapeInt_27 ?_
      refine WP_i2b dX9_tapeInt_28 ?_
      obtain ⟨g5, h⟩ := h
      refine WQ_bast (n := 900) dX9_tapeInt_29 k_1 g5 (fun μ6 eμ6 => ?_)
      replace h := h μ6 eμ6
      refine WP_aload_n dX9_tapeInt_30 rfl rfl ⟨Nat.le_of_ble_eq_true rfl, Nat.le_of_ble_eq_true rfl⟩ ?_
      refine WP_dup dX9_tapeInt_31 (by simp) ?_
      refine WP_getfield (ci := 9) (j := 1) (n := 20) (t := 0) (x := μ6 0 1) dX9_tapeInt_32 f_X9_100 k_0 rfl rfl ?_
      refine WP_iconst dX9_tapeInt_35 (by decide) ?_
      obtain ⟨g7, h⟩ := h
      refine WP_iadd dX9_tapeInt_36 g7 ?_
      refine WQ_put (ci := 9) (j := 1) (n := 20) dX9_tapeInt_37 f_X9_100 k_0 rfl (fun μ8 eμ8 => ?_)
      replace h := h μ8 eμ8
      obtain ⟨g9, h⟩ := h
      refine WQ_iinc dX9_tapeInt_40 rfl (by decide) g9 (fun v10 e10 => ?_)
      refine WP_same (L' := [(2, 0), (0, x1), (0, v10)]) rfl ?_
      replace h := h v10 e10
      refine WP_goto (tgt := 3) dX9_tapeInt_43 (by decide) ?_
      exact h

theorem s_X9_tell_0 {d : Nat} {sc : SC} {Q : Int → Mem → Prop} {μ : Mem} {a1 a2 a3 : Int}
    (h : isK 1 (μ 0 2) ∧ CAv mX6_copyFrom d sc [(2, 121), (2, μ 0 2 + 7)] μ (fun μ3 => CAi mX9_tellIn d sc [(2, 0), (2, 121), (0, a1), (0, a2), (0, a3)] μ3 (fun r4 μ5 => (r4 = 0 → CAv mX9_acceptTrial d sc [(2, 0)] μ5 (fun μ8 => isK 1 (μ8 0 2) ∧ Q (μ8 (μ8 0 2 + 7) 0) μ8)) ∧ (r4 ≠ 0 → (-2147483648 ≤ (-10) - r4 ∧ (-10) - r4 < 2147483648) ∧ Q ((-10) - r4) μ5)))) :
    WQ mX9_tell d sc (ZI sc Q) 0 [(2, 0), (0, a1), (0, a2), (0, a3), (9, 0)] [] μ := by
  refine WP_aload_n dX9_tell_0 rfl rfl ⟨Nat.le_of_ble_eq_true rfl, Nat.le_of_ble_eq_true rfl⟩ ?_
  refine WP_getfield (ci := 9) (j := 14) (n := 20) (t := 2) (x := 121) dX9_tell_1 f_X9_82 k_0 rfl rfl ?_
  refine WP_aload_n dX9_tell_4 rfl rfl ⟨Nat.le_of_ble_eq_true rfl, Nat.le_of_ble_eq_true rfl⟩ ?_
  refine WP_getfield (ci := 9) (j := 2) (n := 20) (t := 2) (x := μ 0 2) dX9_tell_5 f_X9_16 k_0 rfl rfl ?_
  obtain ⟨g1, h⟩ := h
  refine WP_getfield (ci := 1) (j := 10) (n := 11) (t := 2) (x := μ 0 2 + 7) dX9_tell_8 f_X9_131 g1 rfl rfl ?_
  refine WQ_invVv (v := (2, 121)) (as := [(2, μ 0 2 + 7)]) dX9_tell_11 l_X9_176 mw_X6_copyFrom mi_X6_copyFrom ms_X6_copyFrom mo_X6_copyFrom (rcv (ci := 6) (n := 7) (r := (RX6, TX6, 7)) k_121 rfl rfl) (Nat.le_of_ble_eq_true rfl) h rfl (fun μ3 h => ?_)
  refine WP_aload_n dX9_tell_14 rfl rfl ⟨Nat.le_of_ble_eq_true rfl, Nat.le_of_ble_eq_true rfl⟩ ?_
  refine WP_aload_n dX9_tell_15 rfl rfl ⟨Nat.le_of_ble_eq_true rfl, Nat.le_of_ble_eq_true rfl⟩ ?_
  refine WP_getfield (ci := 9) (j := 14) (n := 20) (t := 2) (x := 121) dX9_tell_16 f_X9_82 k_0 rfl rfl ?_
  refine WP_iload_n dX9_tell_19 rfl rfl ?_
  refine WP_iload_n dX9_tell_20 rfl rfl ?_
  refine WP_iload_n dX9_tell_21 rfl rfl ?_
  refine WQ_invVi (v := (2, 0)) (as := [(2, 121), (0, a1), (0, a2), (0, a3)]) dX9_tell_22 l_X9_180 mw_X9_tellIn mi_X9_tellIn ms_X9_tellIn mo_X9_tellIn (rcv (ci := 9) (n := 20) (r := (RX9, TX9, 20)) k_0 rfl rfl) (Nat.le_of_ble_eq_true rfl) h rfl (fun r4 μ5 h => ?_)
  refine WP_istore (L' := [(2, 0), (0, a1), (0, a2), (0, a3), (0, r4)]) dX9_tell_25 (by decide) rfl ?_
  refine WP_iload dX9_tell_27 rfl ?_
  refine WQ_ifeq (tgt := 38) dX9_tell_29 (by decide) (fun c6 => ?_) (fun c6 => ?_)
  · replace h := h.1 c6
    refine WP_aload_n dX9_tell_38 rfl rfl ⟨Nat.le_of_ble_eq_true rfl, Nat.le_of_ble_eq_true rfl⟩ ?_
    refine WQ_invVv (v := (2, 0)) (as := []) dX9_tell_39 l_X9_184 mw_X9_acceptTrial mi_X9_acceptTrial ms_X9_acceptTrial mo_X9_acceptTrial (rcv (ci := 9) (n := 20) (r := (RX9, TX9, 20)) k_0 rfl rfl) (Nat.le_of_ble_eq_true rfl) h rfl (fun μ8 h => ?_)
    refine WP_aload_n dX9_tell_42 rfl rfl ⟨Nat.le_of_ble_eq_true rfl, Nat.le_of_ble_eq_true rfl⟩ ?_
    refine WP_getfield (ci := 9) (j := 2) (n := 20) (t := 2) (x := μ8 0 2) dX9_tell_43 f_X9_16 k_0 rfl rfl ?_
    obtain ⟨g9, h⟩ := h
    refine WP_getfield (ci := 1) (j := 10) (n := 11) (t := 2) (x := μ8 0 2 + 7) dX9_tell_46 f_X9_131 g9 rfl rfl ?_
    refine WP_getfield (ci := 6) (j := 0) (n := 7) (t := 0) (x := μ8 (μ8 0 2 + 7) 0) dX9_tell_49 f_X9_146 (kf_1_10 g9) rfl rfl ?_
    exact WQ_ireturn dX9_tell_52 rfl h
  · replace h := h.2 c6
    refine WP_bipush dX9_tell_32 (by decide +kernel) (by decide) ?_
    refine WP_iload dX9_tell_34 rfl ?_
    obtain ⟨g10, h⟩ := h
    refine WP_isub dX9_tell_36 g10 ?_
    exact WQ_ireturn dX9_tell_37 rfl h

theorem s_X9_tellIn_0 {d : Nat} {sc : SC} {Q : Int → Mem → Prop} {μ : Mem} {a1 a2 a3 a4 : Int} (ha1 : isK 6 a1)
    (h : CAi mX9_isPerson d sc [(2, 0), (0, a2)] μ (fun r1 μ2 => (r1 = 0 → Q 1 μ2) ∧ (r1 ≠ 0 → CAi mX9_isPerson d sc [(2, 0), (0, a3)] μ2 (fun r4 μ5 => (r4 = 0 → Q 1 μ5) ∧ (r4 ≠ 0 → (a2 = a3 → Q 1 μ5) ∧ (a2 ≠ a3 → CAi mX9_isMinute d sc [(0, a4)] μ5 (fun r8 μ9 => (r8 ≠ 0 → (μ9 a1 0 < 8 → CAv mX6_add d sc [(2, a1), (0, a2), (0, a3), (0, a4), (0, 10)] μ9 (fun μ13 => Q 0 μ13)) ∧ (8 ≤ μ9 a1 0 → Q 2 μ9)) ∧ (r8 = 0 → Q 1 μ9)))))))) :
    WQ mX9_tellIn d sc (ZI sc Q) 0 [(2, 0), (2, a1), (0, a2), (0, a3), (0, a4)] [] μ := by
  refine WP_aload_n dX9_tellIn_0 rfl rfl ⟨Nat.le_of_ble_eq_true rfl, Nat.le_of_ble_eq_true rfl⟩ ?_
  refine WP_iload_n dX9_tellIn_1 rfl rfl ?_
  refine WQ_invVi (v := (2, 0)) (as := [(0, a2)]) dX9_tellIn_2 l_X9_127 mw_X9_isPerson mi_X9_isPerson ms_X9_isPerson mo_X9_isPerson (rcv (ci := 9) (n := 20) (r := (RX9, TX9, 20)) k_0 rfl rfl) (Nat.le_of_ble_eq_true rfl) h rfl (fun r1 μ2 h => ?_)
  refine WQ_ifeq (tgt := 29) dX9_tellIn_5 (by decide) (fun c3 => ?_) (fun c3 => ?_)
  · replace h := h.1 c3
    refine WP_iconst dX9_tellIn_29 (by decide) ?_
    exact WQ_ireturn dX9_tellIn_30 rfl h
  · replace h := h.2 c3
    refine WP_aload_n dX9_tellIn_8 rfl rfl ⟨Nat.le_of_ble_eq_true rfl, Nat.le_of_ble_eq_true rfl⟩ ?_
    refine WP_iload_n dX9_tellIn_9 rfl rfl ?_
    refine WQ_invVi (v := (2, 0)) (as := [(0, a3)]) dX9_tellIn_10 l_X9_127 mw_X9_isPerson mi_X9_isPerson ms_X9_isPerson mo_X9_isPerson (rcv (ci := 9) (n := 20) (r := (RX9, TX9, 20)) k_0 rfl rfl) (Nat.le_of_ble_eq_true rfl) h rfl (fun r4 μ5 h => ?_)
    refine WQ_ifeq (tgt := 29) dX9_tellIn_13 (by decide) (fun c6 => ?_) (fun c6 => ?_)
    · replace h := h.1 c6
      refine WP_iconst dX9_tellIn_29 (by decide) ?_
      exact WQ_ireturn dX9_tellIn_30 rfl h
    · replace h := h.2 c6
      refine WP_iload_n dX9_tellIn_16 rfl rfl ?_
      refine WP_iload_n dX9_tellIn_17 rfl rfl ?_
      refine WQ_icmp_eq (tgt := 29) dX9_tellIn_18 (by decide) (fun c7 => ?_) (fun c7 => ?_)
      · replace h := h.1 c7
        refine WP_iconst dX9_tellIn_29 (by decide) ?_
        exact WQ_ireturn dX9_tellIn_30 rfl h
      · replace h := h.2 c7
        refine WP_iload dX9_tellIn_21 rfl ?_
        refine WQ_invSi (as := [(0, a4)]) dX9_tellIn_23 l_X9_264 mw_X9_isMinute mt_X9_isMinute mo_X9_isMinute (Nat.le_of_ble_eq_true rfl) h rfl (fun r8 μ9 h => ?_)
        refine WQ_ifne (tgt := 31) dX9_tellIn_26 (by decide) (fun c10 => ?_) (fun c10 => ?_)
        · replace h := h.1 c10
          refine WP_aload_n dX9_tellIn_31 rfl rfl ⟨Nat.le_of_ble_eq_true rfl, Nat.le_of_ble_eq_true rfl⟩ ?_
          refine WP_getfield (ci := 6) (j := 0) (n := 7) (t := 0) (x := μ9 a1 0) dX9_tellIn_32 f_X9_146 ha1 rfl rfl ?_
          refine WP_bipush dX9_tellIn_35 (by decide +kernel) (by decide) ?_
          refine WQ_icmp_lt (tgt := 42) dX9_tellIn_37 (by decide) (fun c11 => ?_) (fun c11 => ?_)
          · replace h := h.1 c11
            refine WP_aload_n dX9_tellIn_42 rfl rfl ⟨Nat.le_of_ble_eq_true rfl, Nat.le_of_ble_eq_true rfl⟩ ?_
            refine WP_iload_n dX9_tellIn_43 rfl rfl ?_
            refine WP_iload_n dX9_tellIn_44 rfl rfl ?_
            refine WP_iload dX9_tellIn_45 rfl ?_
            refine WP_bipush dX9_tellIn_47 (by decide +kernel) (by decide) ?_
            refine WQ_invVv (v := (2, a1)) (as := [(0, a2), (0, a3), (0, a4), (0, 10)]) dX9_tellIn_49 l_X9_382 mw_X6_add mi_X6_add ms_X6_add mo_X6_add (rcv (ci := 6) (n := 7) (r := (RX6, TX6, 7)) ha1 rfl rfl) (Nat.le_of_ble_eq_true rfl) h rfl (fun μ13 h => ?_)
            refine WP_iconst dX9_tellIn_52 (by decide) ?_
            exact WQ_ireturn dX9_tellIn_53 rfl h
          · replace h := h.2 c11
            refine WP_iconst dX9_tellIn_40 (by decide) ?_
            exact WQ_ireturn dX9_tellIn_41 rfl h
        · replace h := h.2 c10
          refine WP_iconst dX9_tellIn_29 (by decide) ?_
          exact WQ_ireturn dX9_tellIn_30 rfl h

theorem s_X9_tryDeeds_0 {d : Nat} {sc : SC} {Q : Int → Mem → Prop} {μ : Mem} {a1 : Int} (ha1 : isK 8 a1)
    (h : isK 1 (μ 0 2) ∧ CAv mX6_copyFrom d sc [(2, 121), (2, μ 0 2 + 7)] μ (fun μ3 => WQ mX9_tryDeeds d sc (ZI sc Q) 16 [(2, 0), (2, a1), (0, 0)] [] μ3)) :
    WQ mX9_tryDeeds d sc (ZI sc Q) 0 [(2, 0), (2, a1), (9, 0)] [] μ := by
  refine WP_aload_n dX9_tryDeeds_0 rfl rfl ⟨Nat.le_of_ble_eq_true rfl, Nat.le_of_ble_eq_true rfl⟩ ?_
  refine WP_getfield (ci := 9) (j := 14) (n := 20) (t := 2) (x := 121) dX9_tryDeeds_1 f_X9_82 k_0 rfl rfl ?_
  refine WP_aload_n dX9_tryDeeds_4 rfl rfl ⟨Nat.le_of_ble_eq_true rfl, Nat.le_of_ble_eq_true rfl⟩ ?_
  refine WP_getfield (ci := 9) (j := 2) (n := 20) (t := 2) (x := μ 0 2) dX9_tryDeeds_5 f_X9_16 k_0 rfl rfl ?_
  obtain ⟨g1, h⟩ := h
  refine WP_getfield (ci := 1) (j := 10) (n := 11) (t := 2) (x := μ 0 2 + 7) dX9_tryDeeds_8 f_X9_131 g1 rfl rfl ?_
  refine WQ_invVv (v := (2, 121)) (as := [(2, μ 0 2 + 7)]) dX9_tryDeeds_11 l_X9_176 mw_X6_copyFrom mi_X6_copyFrom ms_X6_copyFrom mo_X6_copyFrom (rcv (ci := 6) (n := 7) (r := (RX6, TX6, 7)) k_121 rfl rfl) (Nat.le_of_ble_eq_true rfl) h rfl (fun μ3 h => ?_)
  refine WP_iconst dX9_tryDeeds_14 (by decide) ?_
  refine WP_istore_n (L' := [(2, 0), (2, a1), (0, 0)]) dX9_tryDeeds_15 rfl (by decide) rfl ?_
  exact h

theorem s_X9_tryDeeds_16 {d : Nat} {sc : SC} {Q : Int → Mem → Prop} {μ : Mem} {x1 x2 : Int} (hx1 : isK 8 x1)
    (h : (μ x1 2 ≤ x2 → Q x2 μ) ∧ (x2 < μ x1 2 → (0 ≤ x2 ∧ x2 < 40) ∧ CAi mX9_deed d sc [(2, 0), (2, 121), (1, μ (x1 + 1) x2)] μ (fun r3 μ4 => (r3 ≠ 0 → Q x2 μ4) ∧ (r3 = 0 → (-2147483648 ≤ x2 + 1 ∧ x2 + 1 < 2147483648) ∧ ∀ v7 : Int, v7 = x2 + 1 → WQ mX9_tryDeeds d sc (ZI sc Q) 16 [(2, 0), (2, x1), (0, v7)] [] μ4)))) :
    WQ mX9_tryDeeds d sc (ZI sc Q) 16 [(2, 0), (2, x1), (0, x2)] [] μ := by
  refine WP_iload_n dX9_tryDeeds_16 rfl rfl ?_
  refine WP_aload_n dX9_tryDeeds_17 rfl rfl ⟨Nat.le_of_ble_eq_true rfl, Nat.le_of_ble_eq_true rfl⟩ ?_
  refine WP_getfield (ci := 8) (j := 2) (n := 4) (t := 0) (x := μ x1 2) dX9_tryDeeds_18 f_X9_219 hx1 rfl rfl ?_
  refine WQ_icmp_ge (tgt := 47) dX9_tryDeeds_21 (by decide) (fun c1 => ?_) (fun c1 => ?_)
  · replace h := h.1 c1
    refine WP_iload_n dX9_tryDeeds_47 rfl rfl ?_
    exact WQ_ireturn dX9_tryDeeds_48 rfl h
  · replace h := h.2 c1
    refine WP_aload_n dX9_tryDeeds_24 rfl rfl ⟨Nat.le_of_ble_eq_true rfl, Nat.le_of_ble_eq_true rfl⟩ ?_
    refine WP_aload_n dX9_tryDeeds_25 rfl rfl ⟨Nat.le_of_ble_eq_true rfl, Nat.le_of_ble_eq_true rfl⟩ ?_
    refine WP_getfield (ci := 9) (j := 14) (n := 20) (t := 2) (x := 121) dX9_tryDeeds_26 f_X9_82 k_0 rfl rfl ?_
    refine WP_aload_n dX9_tryDeeds_29 rfl rfl ⟨Nat.le_of_ble_eq_true rfl, Nat.le_of_ble_eq_true rfl⟩ ?_
    refine WP_getfield (ci := 8) (j := 3) (n := 4) (t := 2) (x := x1 + 1) dX9_tryDeeds_30 f_X9_222 hx1 rfl rfl ?_
    refine WP_iload_n dX9_tryDeeds_33 rfl rfl ?_
    obtain ⟨g2, h⟩ := h
    refine WP_laload (n := 40) dX9_tryDeeds_34 (kf_8_3 hx1) g2 ?_
    refine WQ_invVi (v := (2, 0)) (as := [(2, 121), (1, μ (x1 + 1) x2)]) dX9_tryDeeds_35 l_X9_226 mw_X9_deed mi_X9_deed ms_X9_deed mo_X9_deed (rcv (ci := 9) (n := 20) (r := (RX9, TX9, 20)) k_0 rfl rfl) (Nat.le_of_ble_eq_true rfl) h rfl (fun r3 μ4 h => ?_)
    refine WQ_ifne (tgt := 47) dX9_tryDeeds_38 (by decide) (fun c5 => ?_) (fun c5 => ?_)
    · replace h := h.1 c5
      refine WP_iload_n dX9_tryDeeds_47 rfl rfl ?_
      exact WQ_ireturn dX9_tryDeeds_48 rfl h
    · replace h := h.2 c5
      obtain ⟨g6, h⟩ := h
      refine WQ_iinc dX9_tryDeeds_41 rfl (by decide) g6 (fun v7 e7 => ?_)
      refine WP_same (L' := [(2, 0), (2, x1), (0, v7)]) rfl ?_
      replace h := h v7 e7
      refine WP_goto (tgt := 16) dX9_tryDeeds_44 (by decide) ?_
      exact h

theorem s_X9_undo_0 {d : Nat} {sc : SC} {Q : Int → Mem → Prop} {μ : Mem} {a1 : Int}
    (h : (a1 < 1 → Q (-3) μ) ∧ (1 ≤ a1 → (a1 ≤ μ 34 0 → isK 1 (μ 0 2) ∧ CAv mX5_takeBack d sc [(2, 34), (0, a1), (2, μ 0 2 + 7)] μ (fun μ5 => CAv mX9_forgetAnswers d sc [(2, 0)] μ5 (fun μ7 => Q (μ7 34 0) μ7))) ∧ (μ 34 0 < a1 → Q (-3) μ))) :
    WQ mX9_undo d sc (ZI sc Q) 0 [(2, 0), (0, a1)] [] μ := by
  refine WP_iload_n dX9_undo_0 rfl rfl ?_
  refine WP_iconst dX9_undo_1 (by decide) ?_
  refine WQ_icmp_lt (tgt := 16) dX9_undo_2 (by decide) (fun c1 => ?_) (fun c1 => ?_)
  · replace h := h.1 c1
    refine WP_bipush dX9_undo_16 (by decide +kernel) (by decide) ?_
    exact WQ_ireturn dX9_undo_18 rfl h
  · replace h := h.2 c1
    refine WP_iload_n dX9_undo_5 rfl rfl ?_
    refine WP_aload_n dX9_undo_6 rfl rfl ⟨Nat.le_of_ble_eq_true rfl, Nat.le_of_ble_eq_true rfl⟩ ?_
    refine WP_getfield (ci := 9) (j := 7) (n := 20) (t := 2) (x := 34) dX9_undo_7 f_X9_41 k_0 rfl rfl ?_
    refine WP_getfield (ci := 5) (j := 0) (n := 2) (t := 0) (x := μ 34 0) dX9_undo_10 f_X9_201 k_34 rfl rfl ?_
    refine WQ_icmp_le (tgt := 19) dX9_undo_13 (by decide) (fun c2 => ?_) (fun c2 => ?_)
    · replace h := h.1 c2
      refine WP_aload_n dX9_undo_19 rfl rfl ⟨Nat.le_of_ble_eq_true rfl, Nat.le_of_ble_eq_true rfl⟩ ?_
      refine WP_getfield (ci := 9) (j := 7) (n := 20) (t := 2) (x := 34) dX9_undo_20 f_X9_41 k_0 rfl rfl ?_
      refine WP_iload_n dX9_undo_23 rfl rfl ?_
      refine WP_aload_n dX9_undo_24 rfl rfl ⟨Nat.le_of_ble_eq_true rfl, Nat.le_of_ble_eq_true rfl⟩ ?_
      refine WP_getfield (ci := 9) (j := 2) (n := 20) (t := 2) (x := μ 0 2) dX9_undo_25 f_X9_16 k_0 rfl rfl ?_
      obtain ⟨g3, h⟩ := h
      refine WP_getfield (ci := 1) (j := 10) (n := 11) (t := 2) (x := μ 0 2 + 7) dX9_undo_28 f_X9_131 g3 rfl rfl ?_
      refine WQ_invVv (v := (2, 34)) (as := [(0, a1), (2, μ 0 2 + 7)]) dX9_undo_31 l_X9_204 mw_X5_takeBack mi_X5_takeBack ms_X5_takeBack mo_X5_takeBack (rcv (ci := 5) (n := 2) (r := (RX5, TX5, 2)) k_34 rfl rfl) (Nat.le_of_ble_eq_true rfl) h rfl (fun μ5 h => ?_)
      refine WP_aload_n dX9_undo_34 rfl rfl ⟨Nat.le_of_ble_eq_true rfl, Nat.le_of_ble_eq_true rfl⟩ ?_
      refine WQ_invVv (v := (2, 0)) (as := []) dX9_undo_35 l_X9_118 mw_X9_forgetAnswers mi_X9_forgetAnswers ms_X9_forgetAnswers mo_X9_forgetAnswers (rcv (ci := 9) (n := 20) (r := (RX9, TX9, 20)) k_0 rfl rfl) (Nat.le_of_ble_eq_true rfl) h rfl (fun μ7 h => ?_)
      refine WP_aload_n dX9_undo_38 rfl rfl ⟨Nat.le_of_ble_eq_true rfl, Nat.le_of_ble_eq_true rfl⟩ ?_
      refine WP_getfield (ci := 9) (j := 7) (n := 20) (t := 2) (x := 34) dX9_undo_39 f_X9_41 k_0 rfl rfl ?_
      refine WP_getfield (ci := 5) (j := 0) (n := 2) (t := 0) (x := μ7 34 0) dX9_undo_42 f_X9_201 k_34 rfl rfl ?_
      exact WQ_ireturn dX9_undo_45 rfl h
    · replace h := h.2 c2
      refine WP_bipush dX9_undo_16 (by decide +kernel) (by decide) ?_
      exact WQ_ireturn dX9_undo_18 rfl h

theorem s_X9_week_0 {d : Nat} {sc : SC} {Q : Int → Mem → Prop} {μ : Mem} {a1 a2 : Int}
    (h : (a2 < 1 → Q (-3) μ) ∧ (1 ≤ a2 → (a2 ≤ 40 → ∀ μ3, μ3 = mup μ 0 19 a1 → isK 1 (μ3 0 2) ∧ CAv mX6_copyFrom d sc [(2, 121), (2, μ3 0 2 + 7)] μ3 (fun μ6 => WQ mX9_week d sc (ZI sc Q) 38 [(2, 0), (9, 0), (0, a2), (0, 0), (0, 0)] [] μ6)) ∧ (40 < a2 → Q (-3) μ))) :
    WQ mX9_week d sc (ZI sc Q) 0 [(2, 0), (0, a1), (0, a2), (9, 0), (9, 0)] [] μ := by
  refine WP_iload_n dX9_week_0 rfl rfl ?_
  refine WP_iconst dX9_week_1 (by decide) ?_
  refine WQ_icmp_lt (tgt := 11) dX9_week_2 (by decide) (fun c1 => ?_) (fun c1 => ?_)
  · replace h := h.1 c1
    refine WP_bipush dX9_week_11 (by decide +kernel) (by decide) ?_
    exact WQ_ireturn dX9_week_13 rfl h
  · replace h := h.2 c1
    refine WP_iload_n dX9_week_5 rfl rfl ?_
    refine WP_bipush dX9_week_6 (by decide +kernel) (by decide) ?_
    refine WQ_icmp_le (tgt := 14) dX9_week_8 (by decide) (fun c2 => ?_) (fun c2 => ?_)
    · replace h := h.1 c2
      refine WP_aload_n dX9_week_14 rfl rfl ⟨Nat.le_of_ble_eq_true rfl, Nat.le_of_ble_eq_true rfl⟩ ?_
      refine WP_iload_n dX9_week_15 rfl rfl ?_
      refine WQ_put (ci := 9) (j := 19) (n := 20) dX9_week_16 f_X9_248 k_0 rfl (fun μ3 eμ3 => ?_)
      replace h := h μ3 eμ3
      refine WP_aload_n dX9_week_19 rfl rfl ⟨Nat.le_of_ble_eq_true rfl, Nat.le_of_ble_eq_true rfl⟩ ?_
      refine WP_getfield (ci := 9) (j := 14) (n := 20) (t := 2) (x := 121) dX9_week_20 f_X9_82 k_0 rfl rfl ?_
      refine WP_aload_n dX9_week_23 rfl rfl ⟨Nat.le_of_ble_eq_true rfl, Nat.le_of_ble_eq_true rfl⟩ ?_
      refine WP_getfield (ci := 9) (j := 2) (n := 20) (t := 2) (x := μ3 0 2) dX9_week_24 f_X9_16 k_0 rfl rfl ?_
      obtain ⟨g4, h⟩ := h
      refine WP_getfield (ci := 1) (j := 10) (n := 11) (t := 2) (x := μ3 0 2 + 7) dX9_week_27 f_X9_131 g4 rfl rfl ?_
      refine WQ_invVv (v := (2, 121)) (as := [(2, μ3 0 2 + 7)]) dX9_week_30 l_X9_176 mw_X6_copyFrom mi_X6_copyFrom ms_X6_copyFrom mo_X6_copyFrom (rcv (ci := 6) (n := 7) (r := (RX6, TX6, 7)) k_121 rfl rfl) (Nat.le_of_ble_eq_true rfl) h rfl (fun μ6 h => ?_)
      refine WP_iconst dX9_week_33 (by decide) ?_
      refine WP_istore_n (L' := [(2, 0), (0, a1), (0, a2), (0, 0), (9, 0)]) dX9_week_34 rfl (by decide) rfl ?_
      refine WP_iconst dX9_week_35 (by decide) ?_
      refine WP_istore (L' := [(2, 0), (0, a1), (0, a2), (0, 0), (0, 0)]) dX9_week_36 (by decide) rfl ?_
      refine WP_lforget (L' := [(2, 0), (9, 0), (0, a2), (0, 0), (0, 0)]) rfl (fun i hi => ?_) h
      match i, hi with
      | 0, _ => exact Or.inl rfl
      | 1, _ => exact Or.inr rfl
      | 2, _ => exact Or.inl rfl
      | 3, _ => exact Or.inl rfl
      | 4, _ => exact Or.inl rfl
      | i + 5, hi => exact absurd hi (by simp only [List.length_cons, List.length_nil]; omega)
    · replace h := h.2 c2
      refine WP_bipush dX9_week_11 (by decide +kernel) (by decide) ?_
      exact WQ_ireturn dX9_week_13 rfl h

theorem s_X9_week_38 {d : Nat} {sc : SC} {Q : Int → Mem → Prop} {μ : Mem} {x2 x3 x4 : Int}
    (h : (x2 ≤ x4 → (x3 ≤ 0 → Q x3 μ) ∧ (0 < x3 → CAv mX9_acceptTrial d sc [(2, 0)] μ (fun μ4 => Q x3 μ4))) ∧ (x4 < x2 → CAi mX9_drawDeed d sc [(2, 0)] μ (fun r5 μ6 => CAi mX9_deed d sc [(2, 0), (2, 121), (1, r5)] μ6 (fun r7 μ8 => (r7 ≠ 0 → (-2147483648 ≤ x4 + 1 ∧ x4 + 1 < 2147483648) ∧ ∀ v11 : Int, v11 = x4 + 1 → WQ mX9_week d sc (ZI sc Q) 38 [(2, 0), (9, 0), (0, x2), (0, x3), (0, v11)] [] μ8) ∧ (r7 = 0 → (-2147483648 ≤ x3 + 1 ∧ x3 + 1 < 2147483648) ∧ ∀ v13 : Int, v13 = x3 + 1 → (-2147483648 ≤ x4 + 1 ∧ x4 + 1 < 2147483648) ∧ ∀ v15 : Int, v15 = x4 + 1 → WQ mX9_week d sc (ZI sc Q) 38 [(2, 0), (9, 0), (0, x2), (0, v13), (0, v15)] [] μ8))))) :
    WQ mX9_week d sc (ZI sc Q) 38 [(2, 0), (9, 0), (0, x2), (0, x3), (0, x4)] [] μ := by
  refine WP_iload dX9_week_38 rfl ?_
  refine WP_iload_n dX9_week_40 rfl rfl ?_
  refine WQ_icmp_ge (tgt := 69) dX9_week_41 (by decide) (fun c1 => ?_) (fun c1 => ?_)
  · replace h := h.1 c1
    refine WP_iload_n dX9_week_69 rfl rfl ?_
    refine WQ_ifle (tgt := 77) dX9_week_70 (by decide) (fun c2 => ?_) (fun c2 => ?_)
    · replace h := h.1 c2
      refine WP_iload_n dX9_week_77 rfl rfl ?_
      exact WQ_ireturn dX9_week_78 rfl h
    · replace h := h.2 c2
      refine WP_aload_n dX9_week_73 rfl rfl ⟨Nat.le_of_ble_eq_true rfl, Nat.le_of_ble_eq_true rfl⟩ ?_
      refine WQ_invVv (v := (2, 0)) (as := []) dX9_week_74 l_X9_184 mw_X9_acceptTrial mi_X9_acceptTrial ms_X9_acceptTrial mo_X9_acceptTrial (rcv (ci := 9) (n := 20) (r := (RX9, TX9, 20)) k_0 rfl rfl) (Nat.le_of_ble_eq_true rfl) h rfl (fun μ4 h => ?_)
      refine WP_iload_n dX9_week_77 rfl rfl ?_
      exact WQ_ireturn dX9_week_78 rfl h
  · replace h := h.2 c1
    refine WP_aload_n dX9_week_44 rfl rfl ⟨Nat.le_of_ble_eq_true rfl, Nat.le_of_ble_eq_true rfl⟩ ?_
    refine WP_aload_n dX9_week_45 rfl rfl ⟨Nat.le_of_ble_eq_true rfl, Nat.le_of_ble_eq_true rfl⟩ ?_
    refine WP_getfield (ci := 9) (j := 14) (n := 20) (t := 2) (x := 121) dX9_week_46 f_X9_82 k_0 rfl rfl ?_
    refine WP_aload_n dX9_week_49 rfl rfl ⟨Nat.le_of_ble_eq_true rfl, Nat.le_of_ble_eq_true rfl⟩ ?_
    refine WQ_invVi (v := (2, 0)) (as := []) dX9_week_50 l_X9_251 mw_X9_drawDeed mi_X9_drawDeed ms_X9_drawDeed mo_X9_drawDeed (rcv (ci := 9) (n := 20) (r := (RX9, TX9, 20)) k_0 rfl rfl) (Nat.le_of_ble_eq_true rfl) h rfl (fun r5 μ6 h => ?_)
    refine WP_i2l dX9_week_53 ?_
    refine WQ_invVi (v := (2, 0)) (as := [(2, 121), (1, r5)]) dX9_week_54 l_X9_226 mw_X9_deed mi_X9_deed ms_X9_deed mo_X9_deed (rcv (ci := 9) (n := 20) (r := (RX9, TX9, 20)) k_0 rfl rfl) (Nat.le_of_ble_eq_true rfl) h rfl (fun r7 μ8 h => ?_)
    refine WQ_ifne (tgt := 63) dX9_week_57 (by decide) (fun c9 => ?_) (fun c9 => ?_)
    · replace h := h.1 c9
      obtain ⟨g10, h⟩ := h
      refine WQ_iinc dX9_week_63 rfl (by decide) g10 (fun v11 e11 => ?_)
      refine WP_same (L' := [(2, 0), (9, 0), (0, x2), (0, x3), (0, v11)]) rfl ?_
      replace h := h v11 e11
      refine WP_goto (tgt := 38) dX9_week_66 (by decide) ?_
      exact h
    · replace h := h.2 c9
      obtain ⟨g12, h⟩ := h
      refine WQ_iinc dX9_week_60 rfl (by decide) g12 (fun v13 e13 => ?_)
      refine WP_same (L' := [(2, 0), (9, 0), (0, x2), (0, v13), (0, x4)]) rfl ?_
      replace h := h v13 e13
      obtain ⟨g14, h⟩ := h
      refine WQ_iinc dX9_week_63 rfl (by decide) g14 (fun v15 e15 => ?_)
      refine WP_same (L' := [(2, 0), (9, 0), (0, x2), (0, v13), (0, v15)]) rfl ?_
      replace h := h v15 e15
      refine WP_goto (tgt := 38) dX9_week_66 (by decide) ?_
      exact h

theorem s_X9_who_0 {d : Nat} {sc : SC} {Q : Int → Mem → Prop} {μ : Mem} {a1 a2 a3 : Int}
    (h : CAi mX9_isPerson d sc [(2, 0), (0, a1)] μ (fun r1 μ2 => (r1 ≠ 0 → CAi mX9_isGap d sc [(1, a2)] μ2 (fun r4 μ5 => (r4 = 0 → Q (-3) μ5) ∧ (r4 ≠ 0 → (a3 < 0 → Q (-3) μ5) ∧ (0 ≤ a3 → (a3 ≤ 9 → CAv mX9_know d sc [(2, 0)] μ5 (fun μ10 => WQ mX9_who d sc (ZI sc Q) 42 [(2, 0), (0, a1), (0, a2), (0, a3), (0, 0), (0, 0), (9, 0)] [] μ10)) ∧ (9 < a3 → Q (-3) μ5))))) ∧ (r1 = 0 → Q (-2) μ2))) :
    WQ mX9_who d sc (ZI sc Q) 0 [(2, 0), (0, a1), (0, a2), (0, a3), (9, 0), (9, 0), (9, 0)] [] μ := by
  refine WP_aload_n dX9_who_0 rfl rfl ⟨Nat.le_of_ble_eq_true rfl, Nat.le_of_ble_eq_true rfl⟩ ?_
  refine WP_iload_n dX9_who_1 rfl rfl ?_
  refine WQ_invVi (v := (2, 0)) (as := [(0, a1)]) dX9_who_2 l_X9_127 mw_X9_isPerson mi_X9_isPerson ms_X9_isPerson mo_X9_isPerson (rcv (ci := 9) (n := 20) (r := (RX9, TX9, 20)) k_0 rfl rfl) (Nat.le_of_ble_eq_true rfl) h rfl (fun r1 μ2 h => ?_)
  refine WQ_ifne (tgt := 11) dX9_who_5 (by decide) (fun c3 => ?_) (fun c3 => ?_)
  · replace h := h.1 c3
    refine WP_iload_n dX9_who_11 rfl rfl ?_
    refine WP_i2l dX9_who_12 ?_
    refine WQ_invSi (as := [(1, a2)]) dX9_who_13 l_X9_270 mw_X9_isGap mt_X9_isGap mo_X9_isGap (Nat.le_of_ble_eq_true rfl) h rfl (fun r4 μ5 h => ?_)
    refine WQ_ifeq (tgt := 29) dX9_who_16 (by decide) (fun c6 => ?_) (fun c6 => ?_)
    · replace h := h.1 c6
      refine WP_bipush dX9_who_29 (by decide +kernel) (by decide) ?_
      exact WQ_ireturn dX9_who_31 rfl h
    · replace h := h.2 c6
      refine WP_iload_n dX9_who_19 rfl rfl ?_
      refine WQ_iflt (tgt := 29) dX9_who_20 (by decide) (fun c7 => ?_) (fun c7 => ?_)
      · replace h := h.1 c7
        refine WP_bipush dX9_who_29 (by decide +kernel) (by decide) ?_
        exact WQ_ireturn dX9_who_31 rfl h
      · replace h := h.2 c7
        refine WP_iload_n dX9_who_23 rfl rfl ?_
        refine WP_bipush dX9_who_24 (by decide +kernel) (by decide) ?_
        refine WQ_icmp_le (tgt := 32) dX9_who_26 (by decide) (fun c8 => ?_) (fun c8 => ?_)
        · replace h := h.1 c8
          refine WP_aload_n dX9_who_32 rfl rfl ⟨Nat.le_of_ble_eq_true rfl, Nat.le_of_ble_eq_true rfl⟩ ?_
          refine WQ_invVv (v := (2, 0)) (as := []) dX9_who_33 l_X9_161 mw_X9_know mi_X9_know ms_X9_know mo_X9_know (rcv (ci := 9) (n := 20) (r := (RX9, TX9, 20)) k_0 rfl rfl) (Nat.le_of_ble_eq_true rfl) h rfl (fun μ10 h => ?_)
          refine WP_iconst dX9_who_36 (by decide) ?_
          refine WP_istore (L' := [(2, 0), (0, a1), (0, a2), (0, a3), (0, 0), (9, 0), (9, 0)]) dX9_who_37 (by decide) rfl ?_
          refine WP_iconst dX9_who_39 (by decide) ?_
          refine WP_istore (L' := [(2, 0), (0, a1), (0, a2), (0, a3), (0, 0), (0, 0), (9, 0)]) dX9_who_40 (by decide) rfl ?_
          exact h
        · replace h := h.2 c8
          refine WP_bipush dX9_who_29 (by decide +kernel) (by decide) ?_
          exact WQ_ireturn dX9_who_31 rfl h
  · replace h := h.2 c3
    refine WP_bipush dX9_who_8 (by decide +kernel) (by decide) ?_
    exact WQ_ireturn dX9_who_10 rfl h

theorem s_X9_who_42 {d : Nat} {sc : SC} {Q : Int → Mem → Prop} {μ : Mem} {x1 x2 x3 x4 x5 : Int}
    (h : isK 1 (μ 0 2) ∧ (μ (μ 0 2) 3 ≤ x5 → Q x4 μ) ∧ (x5 < μ (μ 0 2) 3 → (-2147483648 ≤ x5 * 6 ∧ x5 * 6 < 2147483648) ∧ (-2147483648 ≤ (x5 * 6) + x1 ∧ (x5 * 6) + x1 < 2147483648) ∧ (∀ v5 : Int, v5 = (x5 * 6) + x1 → (x5 = x1 → (-2147483648 ≤ x5 + 1 ∧ x5 + 1 < 2147483648) ∧ ∀ v8 : Int, v8 = x5 + 1 → WQ mX9_who d sc (ZI sc Q) 42 [(2, 0), (0, x1), (0, x2), (0, x3), (0, x4), (0, v8), (9, 0)] [] μ) ∧ (x5 ≠ x1 → (0 ≤ v5 ∧ v5 < 36) ∧ (μ 99 v5 ≠ x2 → (-2147483648 ≤ x5 + 1 ∧ x5 + 1 < 2147483648) ∧ ∀ v12 : Int, v12 = x5 + 1 → WQ mX9_who d sc (ZI sc Q) 42 [(2, 0), (0, x1), (0, x2), (0, x3), (0, x4), (0, v12), (9, 0)] [] μ) ∧ (μ 99 v5 = x2 → (0 ≤ v5 ∧ v5 < 36) ∧ (μ 100 v5 ≠ x3 → (-2147483648 ≤ x5 + 1 ∧ x5 + 1 < 2147483648) ∧ ∀ v16 : Int, v16 = x5 + 1 → WQ mX9_who d sc (ZI sc Q) 42 [(2, 0), (0, x1), (0, x2), (0, x3), (0, x4), (0, v16), (9, 0)] [] μ) ∧ (μ 100 v5 = x3 → ∀ v17 : Int, v17 = iOr x4 (iShl 1 x5) → (-2147483648 ≤ x5 + 1 ∧ x5 + 1 < 2147483648) ∧ ∀ v19 : Int, v19 = x5 + 1 → WQ mX9_who d sc (ZI sc Q) 42 [(2, 0), (0, x1), (0, x2), (0, x3), (0, v17), (0, v19), (9, 0)] [] μ)))))) :
    WQ mX9_who d sc (ZI sc Q) 42 [(2, 0), (0, x1), (0, x2), (0, x3), (0, x4), (0, x5), (9, 0)] [] μ := by
  refine WP_iload dX9_who_42 rfl ?_
  refine WP_aload_n dX9_who_44 rfl rfl ⟨Nat.le_of_ble_eq_true rfl, Nat.le_of_ble_eq_true rfl⟩ ?_
  refine WP_getfield (ci := 9) (j := 2) (n := 20) (t := 2) (x := μ 0 2) dX9_who_45 f_X9_16 k_0 rfl rfl ?_
  obtain ⟨g1, h⟩ := h
  refine WP_getfield (ci := 1) (j := 3) (n := 11) (t := 0) (x := μ (μ 0 2) 3) dX9_who_48 f_X9_241 g1 rfl rfl ?_
  refine WQ_icmp_ge (tgt := 112) dX9_who_51 (by decide) (fun c2 => ?_) (fun c2 => ?_)
  · replace h := h.1 c2
    refine WP_iload dX9_who_112 rfl ?_
    exact WQ_ireturn dX9_who_114 rfl h
  · replace h := h.2 c2
    refine WP_iload dX9_who_54 rfl ?_
    refine WP_bipush dX9_who_56 (by decide +kernel) (by decide) ?_
    obtain ⟨g3, h⟩ := h
    refine WP_imul dX9_who_58 g3 ?_
    refine WP_iload_n dX9_who_59 rfl rfl ?_
    obtain ⟨g4, h⟩ := h
    refine WP_iadd dX9_who_60 g4 ?_
    refine WQ_nm0 (fun v5 e5 => ?_)
    replace h := h v5 e5
    refine WP_istore (L' := [(2, 0), (0, x1), (0, x2), (0, x3), (0, x4), (0, x5), (0, v5)]) dX9_who_61 (by decide) rfl ?_
    refine WP_iload dX9_who_63 rfl ?_
    refine WP_iload_n dX9_who_65 rfl rfl ?_
    refine WQ_icmp_eq (tgt := 106) dX9_who_66 (by decide) (fun c6 => ?_) (fun c6 => ?_)
    · replace h := h.1 c6
      obtain ⟨g7, h⟩ := h
      refine WQ_iinc dX9_who_106 rfl (by decide) g7 (fun v8 e8 => ?_)
      refine WP_same (L' := [(2, 0), (0, x1), (0, x2), (0, x3), (0, x4), (0, v8), (0, v5)]) rfl ?_
      replace h := h v8 e8
      refine WP_goto (tgt := 42) dX9_who_109 (by decide) ?_
      refine WP_lforget (L' := [(2, 0), (0, x1), (0, x2), (0, x3), (0, x4), (0, v8), (9, 0)]) rfl (fun i hi => ?_) h
      match i, hi with
      | 0, _ => exact Or.inl rfl
      | 1, _ => exact Or.inl rfl
      | 2, _ => exact Or.inl rfl
      | 3, _ => exact Or.inl rfl
      | 4, _ => exact Or.inl rfl
      | 5, _ => exact Or.inl rfl
      | 6, _ => exact Or.inr rfl
      | i + 7, hi => exact absurd hi (by simp only [List.length_cons, List.length_nil]; omega)
    · replace h := h.2 c6
      refine WP_aload_n dX9_who_69 rfl rfl ⟨Nat.le_of_ble_eq_true rfl, Nat.le_of_ble_eq_true rfl⟩ ?_
      refine WP_getfield (ci := 9) (j := 10) (n := 20) (t := 2) (x := 97) dX9_who_70 f_X9_54 k_0 rfl rfl ?_
      refine WP_getfield (ci := 3) (j := 1) (n := 9) (t := 2) (x := 99) dX9_who_73 f_X9_167 k_97 rfl rfl ?_
      refine WP_iload dX9_who_76 rfl ?_
      obtain ⟨g9, h⟩ := h
      refine WP_iaload (n := 36) dX9_who_78 k_99 g9 ?_
      refine WP_iload_n dX9_who_79 rfl rfl ?_
      refine WQ_icmp_ne (tgt := 106) dX9_who_80 (by decide) (fun c10 => ?_) (fun c10 => ?_)
      · replace h := h.1 c10
        obtain ⟨g11, h⟩ := h
        refine WQ_iinc dX9_who_106 rfl (by decide) g11 (fun v12 e12 => ?_)
        refine WP_same (L' := [(2, 0), (0, x1), (0, x2), (0, x3), (0, x4), (0, v12), (0, v5)]) rfl ?_
        replace h := h v12 e12
        refine WP_goto (tgt := 42) dX9_who_109 (by decide) ?_
        refine WP_lforget (L' := [(2, 0), (0, x1), (0, x2), (0, x3), (0, x4), (0, v12), (9, 0)]) rfl (fun i hi => ?_) h
        match i, hi with
        | 0, _ => exact Or.inl rfl
        | 1, _ => exact Or.inl rfl
        | 2, _ => exact Or.inl rfl
        | 3, _ => exact Or.inl rfl
        | 4, _ => exact Or.inl rfl
        | 5, _ => exact Or.inl rfl
        | 6, _ => exact Or.inr rfl
        | i + 7, hi => exact absurd hi (by simp only [List.length_cons, List.length_nil]; omega)
      · replace h := h.2 c10
        refine WP_aload_n dX9_who_83 rfl rfl ⟨Nat.le_of_ble_eq_true rfl, Nat.le_of_ble_eq_true rfl⟩ ?_
        refine WP_getfield (ci := 9) (j := 10) (n := 20) (t := 2) (x := 97) dX9_who_84 f_X9_54 k_0 rfl rfl ?_
        refine WP_getfield (ci := 3) (j := 2) (n := 9) (t := 2) (x := 100) dX9_who_87 f_X9_170 k_97 rfl rfl ?_
        refine WP_iload dX9_who_90 rfl ?_
        obtain ⟨g13, h⟩ := h
        refine WP_iaload (n := 36) dX9_who_92 k_100 g13 ?_
        refine WP_iload_n dX9_who_93 rfl rfl ?_
        refine WQ_icmp_ne (tgt := 106) dX9_who_94 (by decide) (fun c14 => ?_) (fun c14 => ?_)
        · replace h := h.1 c14
          obtain ⟨g15, h⟩ := h
          refine WQ_iinc dX9_who_106 rfl (by decide) g15 (fun v16 e16 => ?_)
          refine WP_same (L' := [(2, 0), (0, x1), (0, x2), (0, x3), (0, x4), (0, v16), (0, v5)]) rfl ?_
          replace h := h v16 e16
          refine WP_goto (tgt := 42) dX9_who_109 (by decide) ?_
          refine WP_lforget (L' := [(2, 0), (0, x1), (0, x2), (0, x3), (0, x4), (0, v16), (9, 0)]) rfl (fun i hi => ?_) h
          match i, hi with
          | 0, _ => exact Or.inl rfl
          | 1, _ => exact Or.inl rfl
          | 2, _ => exact Or.inl rfl
          | 3, _ => exact Or.inl rfl
          | 4, _ => exact Or.inl rfl
          | 5, _ => exact Or.inl rfl
          | 6, _ => exact Or.inr rfl
          | i + 7, hi => exact absurd hi (by simp only [List.length_cons, List.length_nil]; omega)
        · replace h := h.2 c14
          refine WP_iload dX9_who_97 rfl ?_
          refine WP_iconst dX9_who_99 (by decide) ?_
          refine WP_iload dX9_who_100 rfl ?_
          refine WP_ishl dX9_who_102 ?_
          refine WP_ior dX9_who_103 ?_
          refine WQ_nm0 (fun v17 e17 => ?_)
          replace h := h v17 e17
          refine WP_istore (L' := [(2, 0), (0, x1), (0, x2), (0, x3), (0, v17), (0, x5), (0, v5)]) dX9_who_104 (by decide) rfl ?_
          obtain ⟨g18, h⟩ := h
          refine WQ_iinc dX9_who_106 rfl (by decide) g18 (fun v19 e19 => ?_)
          refine WP_same (L' := [(2, 0), (0, x1), (0, x2), (0, x3), (0, v17), (0, v19), (0, v5)]) rfl ?_
          replace h := h v19 e19
          refine WP_goto (tgt := 42) dX9_who_109 (by decide) ?_
          refine WP_lforget (L' := [(2, 0), (0, x1), (0, x2), (0, x3), (0, v17), (0, v19), (9, 0)]) rfl (fun i hi => ?_) h
          match i, hi with
          | 0, _ => exact Or.inl rfl
          | 1, _ => exact Or.inl rfl
          | 2, _ => exact Or.inl rfl
          | 3, _ => exact Or.inl rfl
          | 4, _ => exact Or.inl rfl
          | 5, _ => exact Or.inl rfl
          | 6, _ => exact Or.inr rfl
          | i + 7, hi => exact absurd hi (by simp only [List.length_cons, List.length_nil]; omega)

theorem s_X9_wind_0 {d : Nat} {sc : SC} {Q : Int → Mem → Prop} {μ : Mem} {a1 : Int}
    (h : isK 1 (μ 0 2) ∧ CAv mX6_copyFrom d sc [(2, 121), (2, μ 0 2 + 7)] μ (fun μ3 => CAi mX9_windIn d sc [(2, 121), (0, a1)] μ3 (fun r4 μ5 => (r4 = 0 → isK 1 (μ5 0 2) ∧ (∀ v8 : Int, v8 = μ5 (μ5 0 2 + 7) 6 → CAv mX9_acceptTrial d sc [(2, 0)] μ5 (fun μ10 => Q v8 μ10))) ∧ (r4 ≠ 0 → (-2147483648 ≤ (-10) - r4 ∧ (-10) - r4 < 2147483648) ∧ Q ((-10) - r4) μ5)))) :
    WQ mX9_wind d sc (ZI sc Q) 0 [(2, 0), (0, a1), (9, 0), (9, 0)] [] μ := by
  refine WP_aload_n dX9_wind_0 rfl rfl ⟨Nat.le_of_ble_eq_true rfl, Nat.le_of_ble_eq_true rfl⟩ ?_
  refine WP_getfield (ci := 9) (j := 14) (n := 20) (t := 2) (x := 121) dX9_wind_1 f_X9_82 k_0 rfl rfl ?_
  refine WP_aload_n dX9_wind_4 rfl rfl ⟨Nat.le_of_ble_eq_true rfl, Nat.le_of_ble_eq_true rfl⟩ ?_
  refine WP_getfield (ci := 9) (j := 2) (n := 20) (t := 2) (x := μ 0 2) dX9_wind_5 f_X9_16 k_0 rfl rfl ?_
  obtain ⟨g1, h⟩ := h
  refine WP_getfield (ci := 1) (j := 10) (n := 11) (t := 2) (x := μ 0 2 + 7) dX9_wind_8 f_X9_131 g1 rfl rfl ?_
  refine WQ_invVv (v := (2, 121)) (as := [(2, μ 0 2 + 7)]) dX9_wind_11 l_X9_176 mw_X6_copyFrom mi_X6_copyFrom ms_X6_copyFrom mo_X6_copyFrom (rcv (ci := 6) (n := 7) (r := (RX6, TX6, 7)) k_121 rfl rfl) (Nat.le_of_ble_eq_true rfl) h rfl (fun μ3 h => ?_)
  refine WP_aload_n dX9_wind_14 rfl rfl ⟨Nat.le_of_ble_eq_true rfl, Nat.le_of_ble_eq_true rfl⟩ ?_
  refine WP_getfield (ci := 9) (j := 14) (n := 20) (t := 2) (x := 121) dX9_wind_15 f_X9_82 k_0 rfl rfl ?_
  refine WP_iload_n dX9_wind_18 rfl rfl ?_
  refine WQ_invSi (as := [(2, 121), (0, a1)]) dX9_wind_19 l_X9_195 mw_X9_windIn mt_X9_windIn mo_X9_windIn (Nat.le_of_ble_eq_true rfl) h rfl (fun r4 μ5 h => ?_)
  refine WP_istore_n (L' := [(2, 0), (0, a1), (0, r4), (9, 0)]) dX9_wind_22 rfl (by decide) rfl ?_
  refine WP_iload_n dX9_wind_23 rfl rfl ?_
  refine WQ_ifeq (tgt := 32) dX9_wind_24 (by decide) (fun c6 => ?_) (fun c6 => ?_)
  · replace h := h.1 c6
    refine WP_aload_n dX9_wind_32 rfl rfl ⟨Nat.le_of_ble_eq_true rfl, Nat.le_of_ble_eq_true rfl⟩ ?_
    refine WP_getfield (ci := 9) (j := 2) (n := 20) (t := 2) (x := μ5 0 2) dX9_wind_33 f_X9_16 k_0 rfl rfl ?_
    obtain ⟨g7, h⟩ := h
    refine WP_getfield (ci := 1) (j := 10) (n := 11) (t := 2) (x := μ5 0 2 + 7) dX9_wind_36 f_X9_131 g7 rfl rfl ?_
    refine WP_getfield (ci := 6) (j := 6) (n := 7) (t := 0) (x := μ5 (μ5 0 2 + 7) 6) dX9_wind_39 f_X9_198 (kf_1_10 g7) rfl rfl ?_
    refine WQ_nm0 (fun v8 e8 => ?_)
    replace h := h v8 e8
    refine WP_istore_n (L' := [(2, 0), (0, a1), (0, r4), (0, v8)]) dX9_wind_42 rfl (by decide) rfl ?_
    refine WP_aload_n dX9_wind_43 rfl rfl ⟨Nat.le_of_ble_eq_true rfl, Nat.le_of_ble_eq_true rfl⟩ ?_
    refine WQ_invVv (v := (2, 0)) (as := []) dX9_wind_44 l_X9_184 mw_X9_acceptTrial mi_X9_acceptTrial ms_X9_acceptTrial mo_X9_acceptTrial (rcv (ci := 9) (n := 20) (r := (RX9, TX9, 20)) k_0 rfl rfl) (Nat.le_of_ble_eq_true rfl) h rfl (fun μ10 h => ?_)
    refine WP_iload_n dX9_wind_47 rfl rfl ?_
    exact WQ_ireturn dX9_wind_48 rfl h
  · replace h := h.2 c6
    refine WP_bipush dX9_wind_27 (by decide +kernel) (by decide) ?_
    refine WP_iload_n dX9_wind_29 rfl rfl ?_
    obtain ⟨g11, h⟩ := h
    refine WP_isub dX9_wind_30 g11 ?_
    exact WQ_ireturn dX9_wind_31 rfl h

theorem s_X9_windIn_0 {d : Nat} {sc : SC} {Q : Int → Mem → Prop} {μ : Mem} {a0 a1 : Int} (ha0 : isK 6 a0)
    (h : (a1 < 0 → Q 1 μ) ∧ (0 ≤ a1 → (a1 < 10 → ∀ μ3, μ3 = mup μ a0 6 a1 → Q 0 μ3) ∧ (10 ≤ a1 → Q 1 μ))) :
    WQ mX9_windIn d sc (ZI sc Q) 0 [(2, a0), (0, a1)] [] μ := by
  refine WP_iload_n dX9_windIn_0 rfl rfl ?_
  refine WQ_iflt (tgt := 10) dX9_windIn_1 (by decide) (fun c1 => ?_) (fun c1 => ?_)
  · replace h := h.1 c1
    refine WP_iconst dX9_windIn_10 (by decide) ?_
    exact WQ_ireturn dX9_windIn_11 rfl h
  · replace h := h.2 c1
    refine WP_iload_n dX9_windIn_4 rfl rfl ?_
    refine WP_bipush dX9_windIn_5 (by decide +kernel) (by decide) ?_
    refine WQ_icmp_lt (tgt := 12) dX9_windIn_7 (by decide) (fun c2 => ?_) (fun c2 => ?_)
    · replace h := h.1 c2
      refine WP_aload_n dX9_windIn_12 rfl rfl ⟨Nat.le_of_ble_eq_true rfl, Nat.le_of_ble_eq_true rfl⟩ ?_
      refine WP_iload_n dX9_windIn_13 rfl rfl ?_
      refine WQ_put (ci := 6) (j := 6) (n := 7) dX9_windIn_14 f_X9_198 ha0 rfl (fun μ3 eμ3 => ?_)
      replace h := h μ3 eμ3
      refine WP_iconst dX9_windIn_17 (by decide) ?_
      exact WQ_ireturn dX9_windIn_18 rfl h
    · replace h := h.2 c2
      refine WP_iconst dX9_windIn_10 (by decide) ?_
      exact WQ_ireturn dX9_windIn_11 rfl h

theorem s_X9_winds_0 {d : Nat} {sc : SC} {Q : Int → Mem → Prop} {μ : Mem} {a1 a2 : Int}
    (h : CAi mX9_isTray d sc [(0, a1)] μ (fun r1 μ2 => (r1 = 0 → Q (-2) μ2) ∧ (r1 ≠ 0 → CAi mX9_isPerson d sc [(2, 0), (0, a2)] μ2 (fun r4 μ5 => (r4 ≠ 0 → (0 ≤ a1 ∧ a1 < 4) ∧ isK 8 (μ5 96 a1) ∧ (μ5 (μ5 96 a1) 0 ≠ 0 → (μ5 (μ5 96 a1) 2 < 1 → Q (-4) μ5) ∧ (1 ≤ μ5 (μ5 96 a1) 2 → (μ5 (μ5 96 a1) 2 ≤ 8 → WQ mX9_winds d sc (ZI sc Q) 58 [(2, 0), (9, 0), (0, a2), (2, μ5 96 a1), (0, 0), (9, 0)] [] μ5) ∧ (8 < μ5 (μ5 96 a1) 2 → Q (-4) μ5))) ∧ (μ5 (μ5 96 a1) 0 = 0 → Q (-6) μ5)) ∧ (r4 = 0 → Q (-2) μ5))))) :
    WQ mX9_winds d sc (ZI sc Q) 0 [(2, 0), (0, a1), (0, a2), (9, 0), (9, 0), (9, 0)] [] μ := by
  refine WP_iload_n dX9_winds_0 rfl rfl ?_
  refine WQ_invSi (as := [(0, a1)]) dX9_winds_1 l_X9_208 mw_X9_isTray mt_X9_isTray mo_X9_isTray (Nat.le_of_ble_eq_true rfl) h rfl (fun r1 μ2 h => ?_)
  refine WQ_ifeq (tgt := 15) dX9_winds_4 (by decide) (fun c3 => ?_) (fun c3 => ?_)
  · replace h := h.1 c3
    refine WP_bipush dX9_winds_15 (by decide +kernel) (by decide) ?_
    exact WQ_ireturn dX9_winds_17 rfl h
  · replace h := h.2 c3
    refine WP_aload_n dX9_winds_7 rfl rfl ⟨Nat.le_of_ble_eq_true rfl, Nat.le_of_ble_eq_true rfl⟩ ?_
    refine WP_iload_n dX9_winds_8 rfl rfl ?_
    refine WQ_invVi (v := (2, 0)) (as := [(0, a2)]) dX9_winds_9 l_X9_127 mw_X9_isPerson mi_X9_isPerson ms_X9_isPerson mo_X9_isPerson (rcv (ci := 9) (n := 20) (r := (RX9, TX9, 20)) k_0 rfl rfl) (Nat.le_of_ble_eq_true rfl) h rfl (fun r4 μ5 h => ?_)
    refine WQ_ifne (tgt := 18) dX9_winds_12 (by decide) (fun c6 => ?_) (fun c6 => ?_)
    · replace h := h.1 c6
      refine WP_aload_n dX9_winds_18 rfl rfl ⟨Nat.le_of_ble_eq_true rfl, Nat.le_of_ble_eq_true rfl⟩ ?_
      refine WP_getfield (ci := 9) (j := 8) (n := 20) (t := 2) (x := 96) dX9_winds_19 f_X9_47 k_0 rfl rfl ?_
      refine WP_iload_n dX9_winds_22 rfl rfl ?_
      obtain ⟨g7, h⟩ := h
      refine WP_aaload (n := 4) (ci := 8) dX9_winds_23 k_96 (by decide) g7 ?_
      refine WP_astore_n (L' := [(2, 0), (0, a1), (0, a2), (2, μ5 96 a1), (9, 0), (9, 0)]) dX9_winds_24 rfl (by decide) (Nat.le_of_ble_eq_true rfl) rfl ?_
      refine WP_aload_n dX9_winds_25 rfl rfl ⟨Nat.le_of_ble_eq_true rfl, Nat.le_of_ble_eq_true rfl⟩ ?_
      obtain ⟨g8, h⟩ := h
      refine WP_getfield (ci := 8) (j := 0) (n := 4) (t := 0) (x := μ5 (μ5 96 a1) 0) dX9_winds_26 f_X9_211 g8 rfl rfl ?_
      refine WQ_ifne (tgt := 35) dX9_winds_29 (by decide) (fun c9 => ?_) (fun c9 => ?_)
      · replace h := h.1 c9
        refine WP_aload_n dX9_winds_35 rfl rfl ⟨Nat.le_of_ble_eq_true rfl, Nat.le_of_ble_eq_true rfl⟩ ?_
        refine WP_getfield (ci := 8) (j := 2) (n := 4) (t := 0) (x := μ5 (μ5 96 a1) 2) dX9_winds_36 f_X9_219 g8 rfl rfl ?_
        refine WP_iconst dX9_winds_39 (by decide) ?_
        refine WQ_icmp_lt (tgt := 52) dX9_winds_40 (by decide) (fun c10 => ?_) (fun c10 => ?_)
        · replace h := h.1 c10
          refine WP_bipush dX9_winds_52 (by decide +kernel) (by decide) ?_
          exact WQ_ireturn dX9_winds_54 rfl h
        · replace h := h.2 c10
          refine WP_aload_n dX9_winds_43 rfl rfl ⟨Nat.le_of_ble_eq_true rfl, Nat.le_of_ble_eq_true rfl⟩ ?_
          refine WP_getfield (ci := 8) (j := 2) (n := 4) (t := 0) (x := μ5 (μ5 96 a1) 2) dX9_winds_44 f_X9_219 g8 rfl rfl ?_
          refine WP_bipush dX9_winds_47 (by decide +kernel) (by decide) ?_
          refine WQ_icmp_le (tgt := 55) dX9_winds_49 (by decide) (fun c11 => ?_) (fun c11 => ?_)
          · replace h := h.1 c11
            refine WP_iconst dX9_winds_55 (by decide) ?_
            refine WP_istore (L' := [(2, 0), (0, a1), (0, a2), (2, μ5 96 a1), (0, 0), (9, 0)]) dX9_winds_56 (by decide) rfl ?_
            refine WP_lforget (L' := [(2, 0), (9, 0), (0, a2), (2, μ5 96 a1), (0, 0), (9, 0)]) rfl (fun i hi => ?_) h
            match i, hi with
            | 0, _ => exact Or.inl rfl
            | 1, _ => exact Or.inr rfl
            | 2, _ => exact Or.inl rfl
            | 3, _ => exact Or.inl rfl
            | 4, _ => exact Or.inl rfl
            | 5, _ => exact Or.inl rfl
            | i + 6, hi => exact absurd hi (by simp only [List.length_cons, List.length_nil]; omega)
          · replace h := h.2 c11
            refine WP_bipush dX9_winds_52 (by decide +kernel) (by decide) ?_
            exact WQ_ireturn dX9_winds_54 rfl h
      · replace h := h.2 c9
        refine WP_bipush dX9_winds_32 (by decide +kernel) (by decide) ?_
        exact WQ_ireturn dX9_winds_34 rfl h
    · replace h := h.2 c6
      refine WP_bipush dX9_winds_15 (by decide +kernel) (by decide) ?_
      exact WQ_ireturn dX9_winds_17 rfl h

theorem s_X9_winds_58 {d : Nat} {sc : SC} {Q : Int → Mem → Prop} {μ : Mem} {x2 x3 x4 : Int} (hx3 : isK 8 x3)
    (h : (μ x3 2 ≤ x4 → isK 1 (μ 0 2) ∧ CAv mX6_copyFrom d sc [(2, 121), (2, μ 0 2 + 7)] μ (fun μ4 => WQ mX9_winds d sc (ZI sc Q) 122 [(2, 0), (9, 0), (0, x2), (2, x3), (0, 0), (0, 0)] [] μ4)) ∧ (x4 < μ x3 2 → (0 ≤ x4 ∧ x4 < 40) ∧ (μ (x3 + 1) x4 < 0 → Q (-3) μ) ∧ (0 ≤ μ (x3 + 1) x4 → (0 ≤ x4 ∧ x4 < 40) ∧ (μ (x3 + 1) x4 < 100 → (-2147483648 ≤ x4 + 1 ∧ x4 + 1 < 2147483648) ∧ ∀ v10 : Int, v10 = x4 + 1 → WQ mX9_winds d sc (ZI sc Q) 58 [(2, 0), (9, 0), (0, x2), (2, x3), (0, v10), (9, 0)] [] μ) ∧ (100 ≤ μ (x3 + 1) x4 → Q (-3) μ)))) :
    WQ mX9_winds d sc (ZI sc Q) 58 [(2, 0), (9, 0), (0, x2), (2, x3), (0, x4), (9, 0)] [] μ := by
  refine WP_iload dX9_winds_58 rfl ?_
  refine WP_aload_n dX9_winds_60 rfl rfl ⟨Nat.le_of_ble_eq_true rfl, Nat.le_of_ble_eq_true rfl⟩ ?_
  refine WP_getfield (ci := 8) (j := 2) (n := 4) (t := 0) (x := μ x3 2) dX9_winds_61 f_X9_219 hx3 rfl rfl ?_
  refine WQ_icmp_ge (tgt := 102) dX9_winds_64 (by decide) (fun c1 => ?_) (fun c1 => ?_)
  · replace h := h.1 c1
    refine WP_aload_n dX9_winds_102 rfl rfl ⟨Nat.le_of_ble_eq_true rfl, Nat.le_of_ble_eq_true rfl⟩ ?_
    refine WP_getfield (ci := 9) (j := 14) (n := 20) (t := 2) (x := 121) dX9_winds_103 f_X9_82 k_0 rfl rfl ?_
    refine WP_aload_n dX9_winds_106 rfl rfl ⟨Nat.le_of_ble_eq_true rfl, Nat.le_of_ble_eq_true rfl⟩ ?_
    refine WP_getfield (ci := 9) (j := 2) (n := 20) (t := 2) (x := μ 0 2) dX9_winds_107 f_X9_16 k_0 rfl rfl ?_
    obtain ⟨g2, h⟩ := h
    refine WP_getfield (ci := 1) (j := 10) (n := 11) (t := 2) (x := μ 0 2 + 7) dX9_winds_110 f_X9_131 g2 rfl rfl ?_
    refine WQ_invVv (v := (2, 121)) (as := [(2, μ 0 2 + 7)]) dX9_winds_113 l_X9_176 mw_X6_copyFrom mi_X6_copyFrom ms_X6_copyFrom mo_X6_copyFrom (rcv (ci := 6) (n := 7) (r := (RX6, TX6, 7)) k_121 rfl rfl) (Nat.le_of_ble_eq_true rfl) h rfl (fun μ4 h => ?_)
    refine WP_iconst dX9_winds_116 (by decide) ?_
    refine WP_istore (L' := [(2, 0), (9, 0), (0, x2), (2, x3), (0, 0), (9, 0)]) dX9_winds_117 (by decide) rfl ?_
    refine WP_iconst dX9_winds_119 (by decide) ?_
    refine WP_istore (L' := [(2, 0), (9, 0), (0, x2), (2, x3), (0, 0), (0, 0)]) dX9_winds_120 (by decide) rfl ?_
    exact h
  · replace h := h.2 c1
    refine WP_aload_n dX9_winds_67 rfl rfl ⟨Nat.le_of_ble_eq_true rfl, Nat.le_of_ble_eq_true rfl⟩ ?_
    refine WP_getfield (ci := 8) (j := 3) (n := 4) (t := 2) (x := x3 + 1) dX9_winds_68 f_X9_222 hx3 rfl rfl ?_
    refine WP_iload dX9_winds_71 rfl ?_
    obtain ⟨g5, h⟩ := h
    refine WP_laload (n := 40) dX9_winds_73 (kf_8_3 hx3) g5 ?_
    refine WP_lconst dX9_winds_74 rfl ?_
    refine WQ_liflt (tgt := 93) dX9_winds_75 dX9_winds_76 (by decide) (fun c6 => ?_) (fun c6 => ?_)
    · replace h := h.1 c6
      refine WP_bipush dX9_winds_93 (by decide +kernel) (by decide) ?_
      exact WQ_ireturn dX9_winds_95 rfl h
    · replace h := h.2 c6
      refine WP_aload_n dX9_winds_79 rfl rfl ⟨Nat.le_of_ble_eq_true rfl, Nat.le_of_ble_eq_true rfl⟩ ?_
      refine WP_getfield (ci := 8) (j := 3) (n := 4) (t := 2) (x := x3 + 1) dX9_winds_80 f_X9_222 hx3 rfl rfl ?_
      refine WP_iload dX9_winds_83 rfl ?_
      obtain ⟨g7, h⟩ := h
      refine WP_laload (n := 40) dX9_winds_85 (kf_8_3 hx3) g7 ?_
      refine WP_ldc2 dX9_winds_86 c_X9_321 (by decide) ?_
      refine WQ_liflt (tgt := 96) dX9_winds_89 dX9_winds_90 (by decide) (fun c8 => ?_) (fun c8 => ?_)
      · replace h := h.1 c8
        obtain ⟨g9, h⟩ := h
        refine WQ_iinc dX9_winds_96 rfl (by decide) g9 (fun v10 e10 => ?_)
        refine WP_same (L' := [(2, 0), (9, 0), (0, x2), (2, x3), (0, v10), (9, 0)]) rfl ?_
        replace h := h v10 e10
        refine WP_goto (tgt := 58) dX9_winds_99 (by decide) ?_
        exact h
      · replace h := h.2 c8
        refine WP_bipush dX9_winds_93 (by decide +kernel) (by decide) ?_
        exact WQ_ireturn dX9_winds_95 rfl h

theorem s_X9_winds_122 {d : Nat} {sc : SC} {Q : Int → Mem → Prop} {μ : Mem} {x2 x3 x4 x5 : Int} (hx3 : isK 8 x3)
    (h : (10 ≤ x5 → Q x4 μ) ∧ (x5 < 10 → ∀ μ2, μ2 = mup μ 121 6 x5 → CAv mX3_learn d sc [(2, 127), (2, μ2 0 2), (2, 121)] μ2 (fun μ4 => CAi mX0_run d sc [(2, 135), (2, 121), (2, 127), (0, 99), (0, (-1))] μ4 (fun r5 μ6 => CAi mX0_isTimed d sc [(2, 135), (0, x2), (2, x3)] μ6 (fun r7 μ8 => (r7 = 0 → (-2147483648 ≤ x5 + 1 ∧ x5 + 1 < 2147483648) ∧ ∀ v11 : Int, v11 = x5 + 1 → WQ mX9_winds d sc (ZI sc Q) 122 [(2, 0), (9, 0), (0, x2), (2, x3), (0, x4), (0, v11)] [] μ8) ∧ (r7 ≠ 0 → ∀ v12 : Int, v12 = iOr x4 (iShl 1 x5) → (-2147483648 ≤ x5 + 1 ∧ x5 + 1 < 2147483648) ∧ ∀ v14 : Int, v14 = x5 + 1 → WQ mX9_winds d sc (ZI sc Q) 122 [(2, 0), (9, 0), (0, x2), (2, x3), (0, v12), (0, v14)] [] μ8)))))) :
    WQ mX9_winds d sc (ZI sc Q) 122 [(2, 0), (9, 0), (0, x2), (2, x3), (0, x4), (0, x5)] [] μ := by
  refine WP_iload dX9_winds_122 rfl ?_
  refine WP_bipush dX9_winds_124 (by decide +kernel) (by decide) ?_
  refine WQ_icmp_ge (tgt := 199) dX9_winds_126 (by decide) (fun c1 => ?_) (fun c1 => ?_)
  · replace h := h.1 c1
    refine WP_iload dX9_winds_199 rfl ?_
    exact WQ_ireturn dX9_winds_201 rfl h
  · replace h := h.2 c1
    refine WP_aload_n dX9_winds_129 rfl rfl ⟨Nat.le_of_ble_eq_true rfl, Nat.le_of_ble_eq_true rfl⟩ ?_
    refine WP_getfield (ci := 9) (j := 14) (n := 20) (t := 2) (x := 121) dX9_winds_130 f_X9_82 k_0 rfl rfl ?_
    refine WP_iload dX9_winds_133 rfl ?_
    refine WQ_put (ci := 6) (j := 6) (n := 7) dX9_winds_135 f_X9_198 k_121 rfl (fun μ2 eμ2 => ?_)
    replace h := h μ2 eμ2
    refine WP_aload_n dX9_winds_138 rfl rfl ⟨Nat.le_of_ble_eq_true rfl, Nat.le_of_ble_eq_true rfl⟩ ?_
    refine WP_getfield (ci := 9) (j := 15) (n := 20) (t := 2) (x := 127) dX9_winds_139 f_X9_86 k_0 rfl rfl ?_
    refine WP_aload_n dX9_winds_142 rfl rfl ⟨Nat.le_of_ble_eq_true rfl, Nat.le_of_ble_eq_true rfl⟩ ?_
    refine WP_getfield (ci := 9) (j := 2) (n := 20) (t := 2) (x := μ2 0 2) dX9_winds_143 f_X9_16 k_0 rfl rfl ?_
    refine WP_aload_n dX9_winds_146 rfl rfl ⟨Nat.le_of_ble_eq_true rfl, Nat.le_of_ble_eq_true rfl⟩ ?_
    refine WP_getfield (ci := 9) (j := 14) (n := 20) (t := 2) (x := 121) dX9_winds_147 f_X9_82 k_0 rfl rfl ?_
    refine WQ_invVv (v := (2, 127)) (as := [(2, μ2 0 2), (2, 121)]) dX9_winds_150 l_X9_230 mw_X3_learn mi_X3_learn ms_X3_learn mo_X3_learn (rcv (ci := 3) (n := 9) (r := (RX3, TX3, 9)) k_127 rfl rfl) (Nat.le_of_ble_eq_true rfl) h rfl (fun μ4 h => ?_)
    refine WP_aload_n dX9_winds_153 rfl rfl ⟨Nat.le_of_ble_eq_true rfl, Nat.le_of_ble_eq_true rfl⟩ ?_
    refine WP_getfield (ci := 9) (j := 16) (n := 20) (t := 2) (x := 135) dX9_winds_154 f_X9_89 k_0 rfl rfl ?_
    refine WP_aload_n dX9_winds_157 rfl rfl ⟨Nat.le_of_ble_eq_true rfl, Nat.le_of_ble_eq_true rfl⟩ ?_
    refine WP_getfield (ci := 9) (j := 14) (n := 20) (t := 2) (x := 121) dX9_winds_158 f_X9_82 k_0 rfl rfl ?_
    refine WP_aload_n dX9_winds_161 rfl rfl ⟨Nat.le_of_ble_eq_true rfl, Nat.le_of_ble_eq_true rfl⟩ ?_
    refine WP_getfield (ci := 9) (j := 15) (n := 20) (t := 2) (x := 127) dX9_winds_162 f_X9_86 k_0 rfl rfl ?_
    refine WP_bipush dX9_winds_165 (by decide +kernel) (by decide) ?_
    refine WP_iconst dX9_winds_167 (by decide) ?_
    refine WQ_invVi (v := (2, 135)) (as := [(2, 121), (2, 127), (0, 99), (0, (-1))]) dX9_winds_168 l_X9_234 mw_X0_run mi_X0_run ms_X0_run mo_X0_run (rcv (ci := 0) (n := 16) (r := (RX0, TX0, 16)) k_135 rfl rfl) (Nat.le_of_ble_eq_true rfl) h rfl (fun r5 μ6 h => ?_)
    refine WP_pop dX9_winds_171 (by simp) ?_
    refine WP_aload_n dX9_winds_172 rfl rfl ⟨Nat.le_of_ble_eq_true rfl, Nat.le_of_ble_eq_true rfl⟩ ?_
    refine WP_getfield (ci := 9) (j := 16) (n := 20) (t := 2) (x := 135) dX9_winds_173 f_X9_89 k_0 rfl rfl ?_
    refine WP_iload_n dX9_winds_176 rfl rfl ?_
    refine WP_aload_n dX9_winds_177 rfl rfl ⟨Nat.le_of_ble_eq_true rfl, Nat.le_of_ble_eq_true rfl⟩ ?_
    refine WQ_invVi (v := (2, 135)) (as := [(0, x2), (2, x3)]) dX9_winds_178 l_X9_323 mw_X0_isTimed mi_X0_isTimed ms_X0_isTimed mo_X0_isTimed (rcv (ci := 0) (n := 16) (r := (RX0, TX0, 16)) k_135 rfl rfl) (Nat.le_of_ble_eq_true rfl) h rfl (fun r7 μ8 h => ?_)
    refine WQ_ifeq (tgt := 193) dX9_winds_181 (by decide) (fun c9 => ?_) (fun c9 => ?_)
    · replace h := h.1 c9
      obtain ⟨g10, h⟩ := h
      refine WQ_iinc dX9_winds_193 rfl (by decide) g10 (fun v11 e11 => ?_)
      refine WP_same (L' := [(2, 0), (9, 0), (0, x2), (2, x3), (0, x4), (0, v11)]) rfl ?_
      replace h := h v11 e11
      refine WP_goto (tgt := 122) dX9_winds_196 (by decide) ?_
      exact h
    · replace h := h.2 c9
      refine WP_iload dX9_winds_184 rfl ?_
      refine WP_iconst dX9_winds_186 (by decide) ?_
      refine WP_iload dX9_winds_187 rfl ?_
      refine WP_ishl dX9_winds_189 ?_
      refine WP_ior dX9_winds_190 ?_
      refine WQ_nm0 (fun v12 e12 => ?_)
      replace h := h v12 e12
      refine WP_istore (L' := [(2, 0), (9, 0), (0, x2), (2, x3), (0, v12), (0, x5)]) dX9_winds_191 (by decide) rfl ?_
      obtain ⟨g13, h⟩ := h
      refine WQ_iinc dX9_winds_193 rfl (by decide) g13 (fun v14 e14 => ?_)
      refine WP_same (L' := [(2, 0), (9, 0), (0, x2), (2, x3), (0, v12), (0, v14)]) rfl ?_
      replace h := h v14 e14
      refine WP_goto (tgt := 122) dX9_winds_196 (by decide) ?_
      exact h

theorem s_X9_worst_0 {d : Nat} {sc : SC} {Q : Int → Mem → Prop} {μ : Mem}
    (h : CAv mX9_know d sc [(2, 0)] μ (fun μ2 => WQ mX9_worst d sc (ZI sc Q) 13 [(2, 0), (0, 0), (0, (-1)), (0, 0), (0, 0)] [] μ2)) :
    WQ mX9_worst d sc (ZI sc Q) 0 [(2, 0), (9, 0), (9, 0), (9, 0), (9, 0)] [] μ := by
  refine WP_aload_n dX9_worst_0 rfl rfl ⟨Nat.le_of_ble_eq_true rfl, Nat.le_of_ble_eq_true rfl⟩ ?_
  refine WQ_invVv (v := (2, 0)) (as := []) dX9_worst_1 l_X9_161 mw_X9_know mi_X9_know ms_X9_know mo_X9_know (rcv (ci := 9) (n := 20) (r := (RX9, TX9, 20)) k_0 rfl rfl) (Nat.le_of_ble_eq_true rfl) h rfl (fun μ2 h => ?_)
  refine WP_iconst dX9_worst_4 (by decide) ?_
  refine WP_istore_n (L' := [(2, 0), (0, 0), (9, 0), (9, 0), (9, 0)]) dX9_worst_5 rfl (by decide) rfl ?_
  refine WP_iconst dX9_worst_6 (by decide) ?_
  refine WP_istore_n (L' := [(2, 0), (0, 0), (0, (-1)), (9, 0), (9, 0)]) dX9_worst_7 rfl (by decide) rfl ?_
  refine WP_iconst dX9_worst_8 (by decide) ?_
  refine WP_istore_n (L' := [(2, 0), (0, 0), (0, (-1)), (0, 0), (9, 0)]) dX9_worst_9 rfl (by decide) rfl ?_
  refine WP_iconst dX9_worst_10 (by decide) ?_
  refine WP_istore (L' := [(2, 0), (0, 0), (0, (-1)), (0, 0), (0, 0)]) dX9_worst_11 (by decide) rfl ?_
  exact h

theorem s_X9_worst_13 {d : Nat} {sc : SC} {Q : Int → Mem → Prop} {μ : Mem} {x1 x2 x3 x4 : Int}
    (h : (μ 105 0 ≤ x4 → Q x2 μ) ∧ (x4 < μ 105 0 → (0 ≤ x4 ∧ x4 < 512) ∧ (0 ≤ x3 ∧ x3 < 512) ∧ (μ 107 x4 = μ 107 x3 → (-2147483648 ≤ x4 - x3 ∧ x4 - x3 < 2147483648) ∧ (x4 - x3 < x1 → (-2147483648 ≤ x4 + 1 ∧ x4 + 1 < 2147483648) ∧ ∀ v8 : Int, v8 = x4 + 1 → WQ mX9_worst d sc (ZI sc Q) 13 [(2, 0), (0, x1), (0, x2), (0, x3), (0, v8)] [] μ) ∧ (x1 ≤ x4 - x3 → (-2147483648 ≤ x4 - x3 ∧ x4 - x3 < 2147483648) ∧ (-2147483648 ≤ (x4 - x3) + 1 ∧ (x4 - x3) + 1 < 2147483648) ∧ (∀ v11 : Int, v11 = (x4 - x3) + 1 → (0 ≤ x4 ∧ x4 < 512) ∧ (∀ v13 : Int, v13 = μ 107 x4 → (-2147483648 ≤ x4 + 1 ∧ x4 + 1 < 2147483648) ∧ ∀ v15 : Int, v15 = x4 + 1 → WQ mX9_worst d sc (ZI sc Q) 13 [(2, 0), (0, v11), (0, v13), (0, x3), (0, v15)] [] μ)))) ∧ (μ 107 x4 ≠ μ 107 x3 → (-2147483648 ≤ x4 - x4 ∧ x4 - x4 < 2147483648) ∧ (x4 - x4 < x1 → (-2147483648 ≤ x4 + 1 ∧ x4 + 1 < 2147483648) ∧ ∀ v19 : Int, v19 = x4 + 1 → WQ mX9_worst d sc (ZI sc Q) 13 [(2, 0), (0, x1), (0, x2), (0, x4), (0, v19)] [] μ) ∧ (x1 ≤ x4 - x4 → (-2147483648 ≤ x4 - x4 ∧ x4 - x4 < 2147483648) ∧ (-2147483648 ≤ (x4 - x4) + 1 ∧ (x4 - x4) + 1 < 2147483648) ∧ (∀ v22 : Int, v22 = (x4 - x4) + 1 → (0 ≤ x4 ∧ x4 < 512) ∧ (∀ v24 : Int, v24 = μ 107 x4 → (-2147483648 ≤ x4 + 1 ∧ x4 + 1 < 2147483648) ∧ ∀ v26 : Int, v26 = x4 + 1 → WQ mX9_worst d sc (ZI sc Q) 13 [(2, 0), (0, v22), (0, v24), (0, x4), (0, v26)] [] μ)))))) :
    WQ mX9_worst d sc (ZI sc Q) 13 [(2, 0), (0, x1), (0, x2), (0, x3), (0, x4)] [] μ := by
  refine WP_iload dX9_worst_13 rfl ?_
  refine WP_aload_n dX9_worst_15 rfl rfl ⟨Nat.le_of_ble_eq_true rfl, Nat.le_of_ble_eq_true rfl⟩ ?_
  refine WP_getfield (ci := 9) (j := 11) (n := 20) (t := 2) (x := 105) dX9_worst_16 f_X9_61 k_0 rfl rfl ?_
  refine WP_getfield (ci := 0) (j := 0) (n := 16) (t := 0) (x := μ 105 0) dX9_worst_19 f_X9_238 k_105 rfl rfl ?_
  refine WQ_icmp_ge (tgt := 82) dX9_worst_22 (by decide) (fun c1 => ?_) (fun c1 => ?_)
  · replace h := h.1 c1
    refine WP_iload_n dX9_worst_82 rfl rfl ?_
    exact WQ_ireturn dX9_worst_83 rfl h
  · replace h := h.2 c1
    refine WP_aload_n dX9_worst_25 rfl rfl ⟨Nat.le_of_ble_eq_true rfl, Nat.le_of_ble_eq_true rfl⟩ ?_
    refine WP_getfield (ci := 9) (j := 11) (n := 20) (t := 2) (x := 105) dX9_worst_26 f_X9_61 k_0 rfl rfl ?_
    refine WP_getfield (ci := 0) (j := 2) (n := 16) (t := 2) (x := 107) dX9_worst_29 f_X9_261 k_105 rfl rfl ?_
    refine WP_iload dX9_worst_32 rfl ?_
    obtain ⟨g2, h⟩ := h
    refine WP_iaload (n := 512) dX9_worst_34 k_107 g2 ?_
    refine WP_aload_n dX9_worst_35 rfl rfl ⟨Nat.le_of_ble_eq_true rfl, Nat.le_of_ble_eq_true rfl⟩ ?_
    refine WP_getfield (ci := 9) (j := 11) (n := 20) (t := 2) (x := 105) dX9_worst_36 f_X9_61 k_0 rfl rfl ?_
    refine WP_getfield (ci := 0) (j := 2) (n := 16) (t := 2) (x := 107) dX9_worst_39 f_X9_261 k_105 rfl rfl ?_
    refine WP_iload_n dX9_worst_42 rfl rfl ?_
    obtain ⟨g3, h⟩ := h
    refine WP_iaload (n := 512) dX9_worst_43 k_107 g3 ?_
    refine WQ_icmp_eq (tgt := 50) dX9_worst_44 (by decide) (fun c4 => ?_) (fun c4 => ?_)
    · replace h := h.1 c4
      refine WP_iload dX9_worst_50 rfl ?_
      refine WP_iload_n dX9_worst_52 rfl rfl ?_
      obtain ⟨g5, h⟩ := h
      refine WP_isub dX9_worst_53 g5 ?_
      refine WP_iload_n dX9_worst_54 rfl rfl ?_
      refine WQ_icmp_lt (tgt := 76) dX9_worst_55 (by decide) (fun c6 => ?_) (fun c6 => ?_)
      · replace h := h.1 c6
        obtain ⟨g7, h⟩ := h
        refine WQ_iinc dX9_worst_76 rfl (by decide) g7 (fun v8 e8 => ?_)
        refine WP_same (L' := [(2, 0), (0, x1), (0, x2), (0, x3), (0, v8)]) rfl ?_
        replace h := h v8 e8
        refine WP_goto (tgt := 13) dX9_worst_79 (by decide) ?_
        exact h
      · replace h := h.2 c6
        refine WP_iload dX9_worst_58 rfl ?_
        refine WP_iload_n dX9_worst_60 rfl rfl ?_
        obtain ⟨g9, h⟩ := h
        refine WP_isub dX9_worst_61 g9 ?_
        refine WP_iconst dX9_worst_62 (by decide) ?_
        obtain ⟨g10, h⟩ := h
        refine WP_iadd dX9_worst_63 g10 ?_
        refine WQ_nm0 (fun v11 e11 => ?_)
        replace h := h v11 e11
        refine WP_istore_n (L' := [(2, 0), (0, v11), (0, x2), (0, x3), (0, x4)]) dX9_worst_64 rfl (by decide) rfl ?_
        refine WP_aload_n dX9_worst_65 rfl rfl ⟨Nat.le_of_ble_eq_true rfl, Nat.le_of_ble_eq_true rfl⟩ ?_
        refine WP_getfield (ci := 9) (j := 11) (n := 20) (t := 2) (x := 105) dX9_worst_66 f_X9_61 k_0 rfl rfl ?_
        refine WP_getfield (ci := 0) (j := 2) (n := 16) (t := 2) (x := 107) dX9_worst_69 f_X9_261 k_105 rfl rfl ?_
        refine WP_iload dX9_worst_72 rfl ?_
        obtain ⟨g12, h⟩ := h
        refine WP_iaload (n := 512) dX9_worst_74 k_107 g12 ?_
        refine WQ_nm0 (fun v13 e13 => ?_)
        replace h := h v13 e13
        refine WP_istore_n (L' := [(2, 0), (0, v11), (0, v13), (0, x3), (0, x4)]) dX9_worst_75 rfl (by decide) rfl ?_
        obtain ⟨g14, h⟩ := h
        refine WQ_iinc dX9_worst_76 rfl (by decide) g14 (fun v15 e15 => ?_)
        refine WP_same (L' := [(2, 0), (0, v11), (0, v13), (0, x3), (0, v15)]) rfl ?_
        replace h := h v15 e15
        refine WP_goto (tgt := 13) dX9_worst_79 (by decide) ?_
        exact h
    · replace h := h.2 c4
      refine WP_iload dX9_worst_47 rfl ?_
      refine WP_istore_n (L' := [(2, 0), (0, x1), (0, x2), (0, x4), (0, x4)]) dX9_worst_49 rfl (by decide) rfl ?_
      refine WP_iload dX9_worst_50 rfl ?_
      refine WP_iload_n dX9_worst_52 rfl rfl ?_
      obtain ⟨g16, h⟩ := h
      refine WP_isub dX9_worst_53 g16 ?_
      refine WP_iload_n dX9_worst_54 rfl rfl ?_
      refine WQ_icmp_lt (tgt := 76) dX9_worst_55 (by decide) (fun c17 => ?_) (fun c17 => ?_)
      · replace h := h.1 c17
        obtain ⟨g18, h⟩ := h
        refine WQ_iinc dX9_worst_76 rfl (by decide) g18 (fun v19 e19 => ?_)
        refine WP_same (L' := [(2, 0), (0, x1), (0, x2), (0, x4), (0, v19)]) rfl ?_
        replace h := h v19 e19
        refine WP_goto (tgt := 13) dX9_worst_79 (by decide) ?_
        exact h
      · replace h := h.2 c17
        refine WP_iload dX9_worst_58 rfl ?_
        refine WP_iload_n dX9_worst_60 rfl rfl ?_
        obtain ⟨g20, h⟩ := h
        refine WP_isub dX9_worst_61 g20 ?_
        refine WP_iconst dX9_worst_62 (by decide) ?_
        obtain ⟨g21, h⟩ := h
        refine WP_iadd dX9_worst_63 g21 ?_
        refine WQ_nm0 (fun v22 e22 => ?_)
        replace h := h v22 e22
        refine WP_istore_n (L' := [(2, 0), (0, v22), (0, x2), (0, x4), (0, x4)]) dX9_worst_64 rfl (by decide) rfl ?_
        refine WP_aload_n dX9_worst_65 rfl rfl ⟨Nat.le_of_ble_eq_true rfl, Nat.le_of_ble_eq_true rfl⟩ ?_
        refine WP_getfield (ci := 9) (j := 11) (n := 20) (t := 2) (x := 105) dX9_worst_66 f_X9_61 k_0 rfl rfl ?_
        refine WP_getfield (ci := 0) (j := 2) (n := 16) (t := 2) (x := 107) dX9_worst_69 f_X9_261 k_105 rfl rfl ?_
        refine WP_iload dX9_worst_72 rfl ?_
        obtain ⟨g23, h⟩ := h
        refine WP_iaload (n := 512) dX9_worst_74 k_107 g23 ?_
        refine WQ_nm0 (fun v24 e24 => ?_)
        replace h := h v24 e24
        refine WP_istore_n (L' := [(2, 0), (0, v22), (0, v24), (0, x4), (0, x4)]) dX9_worst_75 rfl (by decide) rfl ?_
        obtain ⟨g25, h⟩ := h
        refine WQ_iinc dX9_worst_76 rfl (by decide) g25 (fun v26 e26 => ?_)
        refine WP_same (L' := [(2, 0), (0, v22), (0, v24), (0, x4), (0, v26)]) rfl ?_
        replace h := h v26 e26
        refine WP_goto (tgt := 13) dX9_worst_79 (by decide) ?_
        exact h

theorem s_X9_write_0 {d : Nat} {sc : SC} {Q : Int → Mem → Prop} {μ : Mem} {a1 a2 a3 : Int}
    (h : CAi mX9_isTray d sc [(0, a1)] μ (fun r1 μ2 => (r1 ≠ 0 → (0 ≤ a1 ∧ a1 < 4) ∧ isK 8 (μ2 96 a1) ∧ (μ2 (μ2 96 a1) 0 ≠ 0 → (a2 < 0 → Q (-7) μ2) ∧ (0 ≤ a2 → (0 ≤ a1 ∧ a1 < 4) ∧ (a2 < μ2 (μ2 96 a1) 2 → (0 ≤ a1 ∧ a1 < 4) ∧ CAl mX8_put d sc [(2, μ2 96 a1), (0, a2), (1, a3)] μ2 (fun r11 μ12 => Q r11 μ12)) ∧ (μ2 (μ2 96 a1) 2 ≤ a2 → Q (-7) μ2))) ∧ (μ2 (μ2 96 a1) 0 = 0 → Q (-6) μ2)) ∧ (r1 = 0 → Q (-2) μ2))) :
    WQ mX9_write d sc (ZL sc Q) 0 [(2, 0), (0, a1), (0, a2), (1, a3), (9, 0)] [] μ := by
  refine WP_iload_n dX9_write_0 rfl rfl ?_
  refine WQ_invSi (as := [(0, a1)]) dX9_write_1 l_X9_208 mw_X9_isTray mt_X9_isTray mo_X9_isTray (Nat.le_of_ble_eq_true rfl) h rfl (fun r1 μ2 h => ?_)
  refine WQ_ifne (tgt := 11) dX9_write_4 (by decide) (fun c3 => ?_) (fun c3 => ?_)
  · replace h := h.1 c3
    refine WP_aload_n dX9_write_11 rfl rfl ⟨Nat.le_of_ble_eq_true rfl, Nat.le_of_ble_eq_true rfl⟩ ?_
    refine WP_getfield (ci := 9) (j := 8) (n := 20) (t := 2) (x := 96) dX9_write_12 f_X9_47 k_0 rfl rfl ?_
    refine WP_iload_n dX9_write_15 rfl rfl ?_
    obtain ⟨g4, h⟩ := h
    refine WP_aaload (n := 4) (ci := 8) dX9_write_16 k_96 (by decide) g4 ?_
    obtain ⟨g5, h⟩ := h
    refine WP_getfield (ci := 8) (j := 0) (n := 4) (t := 0) (x := μ2 (μ2 96 a1) 0) dX9_write_17 f_X9_211 g5 rfl rfl ?_
    refine WQ_ifne (tgt := 27) dX9_write_20 (by decide) (fun c6 => ?_) (fun c6 => ?_)
    · replace h := h.1 c6
      refine WP_iload_n dX9_write_27 rfl rfl ?_
      refine WQ_iflt (tgt := 44) dX9_write_28 (by decide) (fun c7 => ?_) (fun c7 => ?_)
      · replace h := h.1 c7
        refine WP_ldc2 dX9_write_44 c_X9_351 (by decide) ?_
        exact WQ_lreturn dX9_write_47 rfl h
      · replace h := h.2 c7
        refine WP_iload_n dX9_write_31 rfl rfl ?_
        refine WP_aload_n dX9_write_32 rfl rfl ⟨Nat.le_of_ble_eq_true rfl, Nat.le_of_ble_eq_true rfl⟩ ?_
        refine WP_getfield (ci := 9) (j := 8) (n := 20) (t := 2) (x := 96) dX9_write_33 f_X9_47 k_0 rfl rfl ?_
        refine WP_iload_n dX9_write_36 rfl rfl ?_
        obtain ⟨g8, h⟩ := h
        refine WP_aaload (n := 4) (ci := 8) dX9_write_37 k_96 (by decide) g8 ?_
        refine WP_getfield (ci := 8) (j := 2) (n := 4) (t := 0) (x := μ2 (μ2 96 a1) 2) dX9_write_38 f_X9_219 g5 rfl rfl ?_
        refine WQ_icmp_lt (tgt := 48) dX9_write_41 (by decide) (fun c9 => ?_) (fun c9 => ?_)
        · replace h := h.1 c9
          refine WP_aload_n dX9_write_48 rfl rfl ⟨Nat.le_of_ble_eq_true rfl, Nat.le_of_ble_eq_true rfl⟩ ?_
          refine WP_getfield (ci := 9) (j := 8) (n := 20) (t := 2) (x := 96) dX9_write_49 f_X9_47 k_0 rfl rfl ?_
          refine WP_iload_n dX9_write_52 rfl rfl ?_
          obtain ⟨g10, h⟩ := h
          refine WP_aaload (n := 4) (ci := 8) dX9_write_53 k_96 (by decide) g10 ?_
          refine WP_iload_n dX9_write_54 rfl rfl ?_
          refine WP_lload_n dX9_write_55 rfl rfl ?_
          refine WQ_invVl (v := (2, μ2 96 a1)) (as := [(0, a2), (1, a3)]) dX9_write_56 l_X9_353 mw_X8_put mi_X8_put ms_X8_put mo_X8_put (rcv (ci := 8) (n := 4) (r := (RX8, TX8, 4)) g5 rfl rfl) (Nat.le_of_ble_eq_true rfl) h rfl (fun r11 μ12 h => ?_)
          exact WQ_lreturn dX9_write_59 rfl h
        · replace h := h.2 c9
          refine WP_ldc2 dX9_write_44 c_X9_351 (by decide) ?_
          exact WQ_lreturn dX9_write_47 rfl h
    · replace h := h.2 c6
      refine WP_ldc2 dX9_write_23 c_X9_349 (by decide) ?_
      exact WQ_lreturn dX9_write_26 rfl h
  · replace h := h.2 c3
    refine WP_ldc2 dX9_write_7 c_X9_341 (by decide) ?_
    exact WQ_lreturn dX9_write_10 rfl h

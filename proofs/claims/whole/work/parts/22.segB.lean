/-! segments, printed by program -/
theorem s_X7_emit_0 {d : Nat} {sc : SC} {Q : Mem → Prop} {μ : Mem} {a1 : Int}
    (h : (μ 28 0 ≠ 0 → Q μ) ∧ (μ 28 0 = 0 → isK 1 (μ 28 3) ∧ (900 ≤ μ 28 9 → Q μ) ∧ (μ 28 9 < 900 → (0 ≤ μ 28 9 ∧ μ 28 9 < 900) ∧ (∀ μ5, μ5 = mup μ (μ 28 3 + 4) (μ 28 9) a1 → (-2147483648 ≤ (μ5 28 9) + 1 ∧ (μ5 28 9) + 1 < 2147483648) ∧ (∀ μ7, μ7 = mup μ5 28 9 ((μ5 28 9) + 1) → Q μ7))))) :
    WQ mX7_emit d sc (ZV sc Q) 0 [(2, 28), (0, a1)] [] μ := by
  refine WP_aload_n dX7_emit_0 rfl rfl ⟨Nat.le_of_ble_eq_true rfl, Nat.le_of_ble_eq_true rfl⟩ ?_
  refine WP_getfield (ci := 7) (j := 0) (n := 11) (t := 0) (x := μ 28 0) dX7_emit_1 f_X7_48 k_28 rfl rfl ?_
  refine WQ_ifne (tgt := 45) dX7_emit_4 (by decide) (fun c1 => ?_) (fun c1 => ?_)
  · replace h := h.1 c1
    exact WQ_return dX7_emit_45 rfl h
  · replace h := h.2 c1
    refine WP_aload_n dX7_emit_7 rfl rfl ⟨Nat.le_of_ble_eq_true rfl, Nat.le_of_ble_eq_true rfl⟩ ?_
    refine WP_getfield (ci := 7) (j := 9) (n := 11) (t := 0) (x := μ 28 9) dX7_emit_8 f_X7_45 k_28 rfl rfl ?_
    refine WP_aload_n dX7_emit_11 rfl rfl ⟨Nat.le_of_ble_eq_true rfl, Nat.le_of_ble_eq_true rfl⟩ ?_
    refine WP_getfield (ci := 7) (j := 3) (n := 11) (t := 2) (x := μ 28 3) dX7_emit_12 f_X7_29 k_28 rfl rfl ?_
    obtain ⟨g2, h⟩ := h
    refine WP_getfield (ci := 1) (j := 7) (n := 11) (t := 2) (x := μ 28 3 + 4) dX7_emit_15 f_X7_177 g2 rfl rfl ?_
    refine WP_arraylength (n := 900) dX7_emit_18 (kf_1_7 g2) (by decide) (by decide) ?_
    refine WQ_icmp_ge (tgt := 45) dX7_emit_19 (by decide) (fun c3 => ?_) (fun c3 => ?_)
    · replace h := h.1 c3
      exact WQ_return dX7_emit_45 rfl h
    · replace h := h.2 c3
      refine WP_aload_n dX7_emit_22 rfl rfl ⟨Nat.le_of_ble_eq_true rfl, Nat.le_of_ble_eq_true rfl⟩ ?_
      refine WP_getfield (ci := 7) (j := 3) (n := 11) (t := 2) (x := μ 28 3) dX7_emit_23 f_X7_29 k_28 rfl rfl ?_
      refine WP_getfield (ci := 1) (j := 7) (n := 11) (t := 2) (x := μ 28 3 + 4) dX7_emit_26 f_X7_177 g2 rfl rfl ?_
      refine WP_aload_n dX7_emit_29 rfl rfl ⟨Nat.le_of_ble_eq_true rfl, Nat.le_of_ble_eq_true rfl⟩ ?_
      refine WP_getfield (ci := 7) (j := 9) (n := 11) (t := 0) (x := μ 28 9) dX7_emit_30 f_X7_45 k_28 rfl rfl ?_
      refine WP_iload_n dX7_emit_33 rfl rfl ?_
      obtain ⟨g4, h⟩ := h
      refine WQ_iast (n := 900) dX7_emit_34 (kf_1_7 g2) g4 (fun μ5 eμ5 => ?_)
      replace h := h μ5 eμ5
      refine WP_aload_n dX7_emit_35 rfl rfl ⟨Nat.le_of_ble_eq_true rfl, Nat.le_of_ble_eq_true rfl⟩ ?_
      refine WP_dup dX7_emit_36 (by simp) ?_
      refine WP_getfield (ci := 7) (j := 9) (n := 11) (t := 0) (x := μ5 28 9) dX7_emit_37 f_X7_45 k_28 rfl rfl ?_
      refine WP_iconst dX7_emit_40 (by decide) ?_
      obtain ⟨g6, h⟩ := h
      refine WP_iadd dX7_emit_41 g6 ?_
      refine WQ_put (ci := 7) (j := 9) (n := 11) dX7_emit_42 f_X7_45 k_28 rfl (fun μ7 eμ7 => ?_)
      replace h := h μ7 eμ7
      exact WQ_return dX7_emit_45 rfl h

theorem s_X7_enter_0 {d : Nat} {sc : SC} {Q : Int → Mem → Prop} {μ : Mem} {a1 : Int}
    (h : (a1 < 6 → CAv mX7_step d sc [(2, 28)] μ (fun μ3 => Q 1 μ3)) ∧ (6 ≤ a1 → CAv mX7_fail d sc [(2, 28), (0, 4)] μ (fun μ5 => Q 0 μ5))) :
    WQ mX7_enter d sc (ZI sc Q) 0 [(2, 28), (0, a1)] [] μ := by
  refine WP_iload_n dX7_enter_0 rfl rfl ?_
  refine WP_bipush dX7_enter_1 (by decide +kernel) (by decide) ?_
  refine WQ_icmp_lt (tgt := 13) dX7_enter_3 (by decide) (fun c1 => ?_) (fun c1 => ?_)
  · replace h := h.1 c1
    refine WP_aload_n dX7_enter_13 rfl rfl ⟨Nat.le_of_ble_eq_true rfl, Nat.le_of_ble_eq_true rfl⟩ ?_
    refine WQ_invVv (v := (2, 28)) (as := []) dX7_enter_14 l_X7_96 mw_X7_step mi_X7_step ms_X7_step mo_X7_step (rcv (ci := 7) (n := 11) (r := (RX7, TX7, 11)) k_28 rfl rfl) (Nat.le_of_ble_eq_true rfl) h rfl (fun μ3 h => ?_)
    refine WP_iconst dX7_enter_17 (by decide) ?_
    exact WQ_zreturn dX7_enter_18 rfl ⟨by decide, by decide⟩ h
  · replace h := h.2 c1
    refine WP_aload_n dX7_enter_6 rfl rfl ⟨Nat.le_of_ble_eq_true rfl, Nat.le_of_ble_eq_true rfl⟩ ?_
    refine WP_iconst dX7_enter_7 (by decide) ?_
    refine WQ_invVv (v := (2, 28)) (as := [(0, 4)]) dX7_enter_8 l_X7_99 mw_X7_fail mi_X7_fail ms_X7_fail mo_X7_fail (rcv (ci := 7) (n := 11) (r := (RX7, TX7, 11)) k_28 rfl rfl) (Nat.le_of_ble_eq_true rfl) h rfl (fun μ5 h => ?_)
    refine WP_iconst dX7_enter_11 (by decide) ?_
    exact WQ_zreturn dX7_enter_12 rfl ⟨by decide, by decide⟩ h

theorem s_X7_expect_0 {d : Nat} {sc : SC} {Q : Mem → Prop} {μ : Mem} {a1 : Int}
    (h : CAi mX7_isAt d sc [(2, 28), (0, a1)] μ (fun r1 μ2 => (r1 = 0 → CAv mX7_fail d sc [(2, 28), (0, 2)] μ2 (fun μ5 => Q μ5)) ∧ (r1 ≠ 0 → CAv mX7_step d sc [(2, 28)] μ2 (fun μ7 => Q μ7)))) :
    WQ mX7_expect d sc (ZV sc Q) 0 [(2, 28), (0, a1)] [] μ := by
  refine WP_aload_n dX7_expect_0 rfl rfl ⟨Nat.le_of_ble_eq_true rfl, Nat.le_of_ble_eq_true rfl⟩ ?_
  refine WP_iload_n dX7_expect_1 rfl rfl ?_
  refine WQ_invVi (v := (2, 28)) (as := [(0, a1)]) dX7_expect_2 l_X7_93 mw_X7_isAt mi_X7_isAt ms_X7_isAt mo_X7_isAt (rcv (ci := 7) (n := 11) (r := (RX7, TX7, 11)) k_28 rfl rfl) (Nat.le_of_ble_eq_true rfl) h rfl (fun r1 μ2 h => ?_)
  refine WQ_ifeq (tgt := 15) dX7_expect_5 (by decide) (fun c3 => ?_) (fun c3 => ?_)
  · replace h := h.1 c3
    refine WP_aload_n dX7_expect_15 rfl rfl ⟨Nat.le_of_ble_eq_true rfl, Nat.le_of_ble_eq_true rfl⟩ ?_
    refine WP_iconst dX7_expect_16 (by decide) ?_
    refine WQ_invVv (v := (2, 28)) (as := [(0, 2)]) dX7_expect_17 l_X7_99 mw_X7_fail mi_X7_fail ms_X7_fail mo_X7_fail (rcv (ci := 7) (n := 11) (r := (RX7, TX7, 11)) k_28 rfl rfl) (Nat.le_of_ble_eq_true rfl) h rfl (fun μ5 h => ?_)
    exact WQ_return dX7_expect_20 rfl h
  · replace h := h.2 c3
    refine WP_aload_n dX7_expect_8 rfl rfl ⟨Nat.le_of_ble_eq_true rfl, Nat.le_of_ble_eq_true rfl⟩ ?_
    refine WQ_invVv (v := (2, 28)) (as := []) dX7_expect_9 l_X7_96 mw_X7_step mi_X7_step ms_X7_step mo_X7_step (rcv (ci := 7) (n := 11) (r := (RX7, TX7, 11)) k_28 rfl rfl) (Nat.le_of_ble_eq_true rfl) h rfl (fun μ7 h => ?_)
    refine WP_goto (tgt := 20) dX7_expect_12 (by decide) ?_
    exact WQ_return dX7_expect_20 rfl h

theorem s_X7_fail_0 {d : Nat} {sc : SC} {Q : Mem → Prop} {μ : Mem} {a1 : Int}
    (h : (μ 28 0 ≠ 0 → Q μ) ∧ (μ 28 0 = 0 → (0 ≤ μ 28 8 ∧ μ 28 8 < 901) ∧ (μ 29 (μ 28 8) ≠ 53 → ∀ μ4, μ4 = mup μ 28 0 a1 → (0 ≤ μ4 28 8 ∧ μ4 28 8 < 901) ∧ (∀ μ6, μ6 = mup μ4 28 1 (μ4 30 (μ4 28 8)) → Q μ6)) ∧ (μ 29 (μ 28 8) = 53 → ∀ μ7, μ7 = mup μ 28 0 1 → (0 ≤ μ7 28 8 ∧ μ7 28 8 < 901) ∧ (∀ μ9, μ9 = mup μ7 28 1 (μ7 30 (μ7 28 8)) → Q μ9)))) :
    WQ mX7_fail d sc (ZV sc Q) 0 [(2, 28), (0, a1)] [] μ := by
  refine WP_aload_n dX7_fail_0 rfl rfl ⟨Nat.le_of_ble_eq_true rfl, Nat.le_of_ble_eq_true rfl⟩ ?_
  refine WP_getfield (ci := 7) (j := 0) (n := 11) (t := 0) (x := μ 28 0) dX7_fail_1 f_X7_48 k_28 rfl rfl ?_
  refine WQ_ifne (tgt := 43) dX7_fail_4 (by decide) (fun c1 => ?_) (fun c1 => ?_)
  · replace h := h.1 c1
    exact WQ_return dX7_fail_43 rfl h
  · replace h := h.2 c1
    refine WP_aload_n dX7_fail_7 rfl rfl ⟨Nat.le_of_ble_eq_true rfl, Nat.le_of_ble_eq_true rfl⟩ ?_
    refine WP_aload_n dX7_fail_8 rfl rfl ⟨Nat.le_of_ble_eq_true rfl, Nat.le_of_ble_eq_true rfl⟩ ?_
    refine WP_getfield (ci := 7) (j := 5) (n := 11) (t := 2) (x := 29) dX7_fail_9 f_X7_15 k_28 rfl rfl ?_
    refine WP_aload_n dX7_fail_12 rfl rfl ⟨Nat.le_of_ble_eq_true rfl, Nat.le_of_ble_eq_true rfl⟩ ?_
    refine WP_getfield (ci := 7) (j := 8) (n := 11) (t := 0) (x := μ 28 8) dX7_fail_13 f_X7_42 k_28 rfl rfl ?_
    obtain ⟨g2, h⟩ := h
    refine WP_iaload (n := 901) dX7_fail_16 k_29 g2 ?_
    refine WP_bipush dX7_fail_17 (by decide +kernel) (by decide) ?_
    refine WQ_icmp_ne (tgt := 26) dX7_fail_19 (by decide) (fun c3 => ?_) (fun c3 => ?_)
    · replace h := h.1 c3
      refine WP_iload_n dX7_fail_26 rfl rfl ?_
      refine WQ_put (ci := 7) (j := 0) (n := 11) dX7_fail_27 f_X7_48 k_28 rfl (fun μ4 eμ4 => ?_)
      replace h := h μ4 eμ4
      refine WP_aload_n dX7_fail_30 rfl rfl ⟨Nat.le_of_ble_eq_true rfl, Nat.le_of_ble_eq_true rfl⟩ ?_
      refine WP_aload_n dX7_fail_31 rfl rfl ⟨Nat.le_of_ble_eq_true rfl, Nat.le_of_ble_eq_true rfl⟩ ?_
      refine WP_getfield (ci := 7) (j := 6) (n := 11) (t := 2) (x := 30) dX7_fail_32 f_X7_19 k_28 rfl rfl ?_
      refine WP_aload_n dX7_fail_35 rfl rfl ⟨Nat.le_of_ble_eq_true rfl, Nat.le_of_ble_eq_true rfl⟩ ?_
      refine WP_getfield (ci := 7) (j := 8) (n := 11) (t := 0) (x := μ4 28 8) dX7_fail_36 f_X7_42 k_28 rfl rfl ?_
      obtain ⟨g5, h⟩ := h
      refine WP_iaload (n := 901) dX7_fail_39 k_30 g5 ?_
      refine WQ_put (ci := 7) (j := 1) (n := 11) dX7_fail_40 f_X7_9 k_28 rfl (fun μ6 eμ6 => ?_)
      replace h := h μ6 eμ6
      exact WQ_return dX7_fail_43 rfl h
    · replace h := h.2 c3
      refine WP_iconst dX7_fail_22 (by decide) ?_
      refine WP_goto (tgt := 27) dX7_fail_23 (by decide) ?_
      refine WQ_put (ci := 7) (j := 0) (n := 11) dX7_fail_27 f_X7_48 k_28 rfl (fun μ7 eμ7 => ?_)
      replace h := h μ7 eμ7
      refine WP_aload_n dX7_fail_30 rfl rfl ⟨Nat.le_of_ble_eq_true rfl, Nat.le_of_ble_eq_true rfl⟩ ?_
      refine WP_aload_n dX7_fail_31 rfl rfl ⟨Nat.le_of_ble_eq_true rfl, Nat.le_of_ble_eq_true rfl⟩ ?_
      refine WP_getfield (ci := 7) (j := 6) (n := 11) (t := 2) (x := 30) dX7_fail_32 f_X7_19 k_28 rfl rfl ?_
      refine WP_aload_n dX7_fail_35 rfl rfl ⟨Nat.le_of_ble_eq_true rfl, Nat.le_of_ble_eq_true rfl⟩ ?_
      refine WP_getfield (ci := 7) (j := 8) (n := 11) (t := 0) (x := μ7 28 8) dX7_fail_36 f_X7_42 k_28 rfl rfl ?_
      obtain ⟨g8, h⟩ := h
      refine WP_iaload (n := 901) dX7_fail_39 k_30 g8 ?_
      refine WQ_put (ci := 7) (j := 1) (n := 11) dX7_fail_40 f_X7_9 k_28 rfl (fun μ9 eμ9 => ?_)
      replace h := h μ9 eμ9
      exact WQ_return dX7_fail_43 rfl h

theorem s_X7_isAt_0 {d : Nat} {sc : SC} {Q : Int → Mem → Prop} {μ : Mem} {a1 : Int}
    (h : (μ 28 0 ≠ 0 → Q 0 μ) ∧ (μ 28 0 = 0 → (0 ≤ μ 28 8 ∧ μ 28 8 < 901) ∧ (μ 29 (μ 28 8) ≠ a1 → Q 0 μ) ∧ (μ 29 (μ 28 8) = a1 → Q 1 μ))) :
    WQ mX7_isAt d sc (ZI sc Q) 0 [(2, 28), (0, a1)] [] μ := by
  refine WP_aload_n dX7_isAt_0 rfl rfl ⟨Nat.le_of_ble_eq_true rfl, Nat.le_of_ble_eq_true rfl⟩ ?_
  refine WP_getfield (ci := 7) (j := 0) (n := 11) (t := 0) (x := μ 28 0) dX7_isAt_1 f_X7_48 k_28 rfl rfl ?_
  refine WQ_ifne (tgt := 24) dX7_isAt_4 (by decide) (fun c1 => ?_) (fun c1 => ?_)
  · replace h := h.1 c1
    refine WP_iconst dX7_isAt_24 (by decide) ?_
    exact WQ_zreturn dX7_isAt_25 rfl ⟨by decide, by decide⟩ h
  · replace h := h.2 c1
    refine WP_aload_n dX7_isAt_7 rfl rfl ⟨Nat.le_of_ble_eq_true rfl, Nat.le_of_ble_eq_true rfl⟩ ?_
    refine WP_getfield (ci := 7) (j := 5) (n := 11) (t := 2) (x := 29) dX7_isAt_8 f_X7_15 k_28 rfl rfl ?_
    refine WP_aload_n dX7_isAt_11 rfl rfl ⟨Nat.le_of_ble_eq_true rfl, Nat.le_of_ble_eq_true rfl⟩ ?_
    refine WP_getfield (ci := 7) (j := 8) (n := 11) (t := 0) (x := μ 28 8) dX7_isAt_12 f_X7_42 k_28 rfl rfl ?_
    obtain ⟨g2, h⟩ := h
    refine WP_iaload (n := 901) dX7_isAt_15 k_29 g2 ?_
    refine WP_iload_n dX7_isAt_16 rfl rfl ?_
    refine WQ_icmp_ne (tgt := 24) dX7_isAt_17 (by decide) (fun c3 => ?_) (fun c3 => ?_)
    · replace h := h.1 c3
      refine WP_iconst dX7_isAt_24 (by decide) ?_
      exact WQ_zreturn dX7_isAt_25 rfl ⟨by decide, by decide⟩ h
    · replace h := h.2 c3
      refine WP_iconst dX7_isAt_20 (by decide) ?_
      refine WP_goto (tgt := 25) dX7_isAt_21 (by decide) ?_
      exact WQ_zreturn dX7_isAt_25 rfl ⟨by decide, by decide⟩ h

theorem s_X7_isDigit_0 {d : Nat} {sc : SC} {Q : Int → Mem → Prop} {μ : Mem} {a0 : Int}
    (h : (a0 < 48 → Q 0 μ) ∧ (48 ≤ a0 → (57 < a0 → Q 0 μ) ∧ (a0 ≤ 57 → Q 1 μ))) :
    WQ mX7_isDigit d sc (ZI sc Q) 0 [(0, a0)] [] μ := by
  refine WP_iload_n dX7_isDigit_0 rfl rfl ?_
  refine WP_bipush dX7_isDigit_1 (by decide +kernel) (by decide) ?_
  refine WQ_icmp_lt (tgt := 16) dX7_isDigit_3 (by decide) (fun c1 => ?_) (fun c1 => ?_)
  · replace h := h.1 c1
    refine WP_iconst dX7_isDigit_16 (by decide) ?_
    exact WQ_zreturn dX7_isDigit_17 rfl ⟨by decide, by decide⟩ h
  · replace h := h.2 c1
    refine WP_iload_n dX7_isDigit_6 rfl rfl ?_
    refine WP_bipush dX7_isDigit_7 (by decide +kernel) (by decide) ?_
    refine WQ_icmp_gt (tgt := 16) dX7_isDigit_9 (by decide) (fun c2 => ?_) (fun c2 => ?_)
    · replace h := h.1 c2
      refine WP_iconst dX7_isDigit_16 (by decide) ?_
      exact WQ_zreturn dX7_isDigit_17 rfl ⟨by decide, by decide⟩ h
    · replace h := h.2 c2
      refine WP_iconst dX7_isDigit_12 (by decide) ?_
      refine WP_goto (tgt := 17) dX7_isDigit_13 (by decide) ?_
      exact WQ_zreturn dX7_isDigit_17 rfl ⟨by decide, by decide⟩ h

theorem s_X7_isLetter_0 {d : Nat} {sc : SC} {Q : Int → Mem → Prop} {μ : Mem} {a0 : Int}
    (h : (a0 < 97 → Q 0 μ) ∧ (97 ≤ a0 → (122 < a0 → Q 0 μ) ∧ (a0 ≤ 122 → Q 1 μ))) :
    WQ mX7_isLetter d sc (ZI sc Q) 0 [(0, a0)] [] μ := by
  refine WP_iload_n dX7_isLetter_0 rfl rfl ?_
  refine WP_bipush dX7_isLetter_1 (by decide +kernel) (by decide) ?_
  refine WQ_icmp_lt (tgt := 16) dX7_isLetter_3 (by decide) (fun c1 => ?_) (fun c1 => ?_)
  · replace h := h.1 c1
    refine WP_iconst dX7_isLetter_16 (by decide) ?_
    exact WQ_zreturn dX7_isLetter_17 rfl ⟨by decide, by decide⟩ h
  · replace h := h.2 c1
    refine WP_iload_n dX7_isLetter_6 rfl rfl ?_
    refine WP_bipush dX7_isLetter_7 (by decide +kernel) (by decide) ?_
    refine WQ_icmp_gt (tgt := 16) dX7_isLetter_9 (by decide) (fun c2 => ?_) (fun c2 => ?_)
    · replace h := h.1 c2
      refine WP_iconst dX7_isLetter_16 (by decide) ?_
      exact WQ_zreturn dX7_isLetter_17 rfl ⟨by decide, by decide⟩ h
    · replace h := h.2 c2
      refine WP_iconst dX7_isLetter_12 (by decide) ?_
      refine WP_goto (tgt := 17) dX7_isLetter_13 (by decide) ?_
      exact WQ_zreturn dX7_isLetter_17 rfl ⟨by decide, by decide⟩ h

theorem s_X7_putNumber_0 {d : Nat} {sc : SC} {Q : Mem → Prop} {μ : Mem} {a1 a2 : Int}
    (h : (-2147483648 ≤ a2 - a1 ∧ a2 - a1 < 2147483648) ∧ (a2 - a1 ≤ 3 → WQ mX7_putNumber d sc (ZV sc Q) 21 [(2, 28), (0, a1), (0, a2), (0, 0), (0, a1)] [] μ) ∧ (3 < a2 - a1 → CAv mX7_putToken d sc [(2, 28), (0, 53), (0, a1), (0, 0)] μ (fun μ4 => Q μ4))) :
    WQ mX7_putNumber d sc (ZV sc Q) 0 [(2, 28), (0, a1), (0, a2), (9, 0), (9, 0)] [] μ := by
  refine WP_iload_n dX7_putNumber_0 rfl rfl ?_
  refine WP_iload_n dX7_putNumber_1 rfl rfl ?_
  obtain ⟨g1, h⟩ := h
  refine WP_isub dX7_putNumber_2 g1 ?_
  refine WP_iconst dX7_putNumber_3 (by decide) ?_
  refine WQ_icmp_le (tgt := 16) dX7_putNumber_4 (by decide) (fun c2 => ?_) (fun c2 => ?_)
  · replace h := h.1 c2
    refine WP_iconst dX7_putNumber_16 (by decide) ?_
    refine WP_istore_n (L' := [(2, 28), (0, a1), (0, a2), (0, 0), (9, 0)]) dX7_putNumber_17 rfl (by decide) rfl ?_
    refine WP_iload_n dX7_putNumber_18 rfl rfl ?_
    refine WP_istore (L' := [(2, 28), (0, a1), (0, a2), (0, 0), (0, a1)]) dX7_putNumber_19 (by decide) rfl ?_
    exact h
  · replace h := h.2 c2
    refine WP_aload_n dX7_putNumber_7 rfl rfl ⟨Nat.le_of_ble_eq_true rfl, Nat.le_of_ble_eq_true rfl⟩ ?_
    refine WP_bipush dX7_putNumber_8 (by decide +kernel) (by decide) ?_
    refine WP_iload_n dX7_putNumber_10 rfl rfl ?_
    refine WP_iconst dX7_putNumber_11 (by decide) ?_
    refine WQ_invVv (v := (2, 28)) (as := [(0, 53), (0, a1), (0, 0)]) dX7_putNumber_12 l_X7_68 mw_X7_putToken mi_X7_putToken ms_X7_putToken mo_X7_putToken (rcv (ci := 7) (n := 11) (r := (RX7, TX7, 11)) k_28 rfl rfl) (Nat.le_of_ble_eq_true rfl) h rfl (fun μ4 h => ?_)
    exact WQ_return dX7_putNumber_15 rfl h

theorem s_X7_putNumber_21 {d : Nat} {sc : SC} {Q : Mem → Prop} {μ : Mem} {x1 x2 x3 x4 : Int}
    (h : (x2 ≤ x4 → CAv mX7_putToken d sc [(2, 28), (0, 50), (0, x1), (0, x3)] μ (fun μ3 => Q μ3)) ∧ (x4 < x2 → (-2147483648 ≤ x3 * 10 ∧ x3 * 10 < 2147483648) ∧ kd0 (μ 28 2) = some (4, 900) ∧ (0 ≤ x4 ∧ x4 < 900) ∧ (-2147483648 ≤ (x3 * 10) + (μ (μ 28 2) x4) ∧ (x3 * 10) + (μ (μ 28 2) x4) < 2147483648) ∧ (-2147483648 ≤ ((x3 * 10) + (μ (μ 28 2) x4)) - 48 ∧ ((x3 * 10) + (μ (μ 28 2) x4)) - 48 < 2147483648) ∧ (∀ v9 : Int, v9 = ((x3 * 10) + (μ (μ 28 2) x4)) - 48 → (-2147483648 ≤ x4 + 1 ∧ x4 + 1 < 2147483648) ∧ ∀ v11 : Int, v11 = x4 + 1 → WQ mX7_putNumber d sc (ZV sc Q) 21 [(2, 28), (0, x1), (0, x2), (0, v9), (0, v11)] [] μ))) :
    WQ mX7_putNumber d sc (ZV sc Q) 21 [(2, 28), (0, x1), (0, x2), (0, x3), (0, x4)] [] μ := by
  refine WP_iload dX7_putNumber_21 rfl ?_
  refine WP_iload_n dX7_putNumber_23 rfl rfl ?_
  refine WQ_icmp_ge (tgt := 49) dX7_putNumber_24 (by decide) (fun c1 => ?_) (fun c1 => ?_)
  · replace h := h.1 c1
    refine WP_aload_n dX7_putNumber_49 rfl rfl ⟨Nat.le_of_ble_eq_true rfl, Nat.le_of_ble_eq_true rfl⟩ ?_
    refine WP_bipush dX7_putNumber_50 (by decide +kernel) (by decide) ?_
    refine WP_iload_n dX7_putNumber_52 rfl rfl ?_
    refine WP_iload_n dX7_putNumber_53 rfl rfl ?_
    refine WQ_invVv (v := (2, 28)) (as := [(0, 50), (0, x1), (0, x3)]) dX7_putNumber_54 l_X7_68 mw_X7_putToken mi_X7_putToken ms_X7_putToken mo_X7_putToken (rcv (ci := 7) (n := 11) (r := (RX7, TX7, 11)) k_28 rfl rfl) (Nat.le_of_ble_eq_true rfl) h rfl (fun μ3 h => ?_)
    exact WQ_return dX7_putNumber_57 rfl h
  · replace h := h.2 c1
    refine WP_iload_n dX7_putNumber_27 rfl rfl ?_
    refine WP_bipush dX7_putNumber_28 (by decide +kernel) (by decide) ?_
    obtain ⟨g4, h⟩ := h
    refine WP_imul dX7_putNumber_30 g4 ?_
    refine WP_aload_n dX7_putNumber_31 rfl rfl ⟨Nat.le_of_ble_eq_true rfl, Nat.le_of_ble_eq_true rfl⟩ ?_
    refine WP_getfield (ci := 7) (j := 2) (n := 11) (t := 2) (x := μ 28 2) dX7_putNumber_32 f_X7_25 k_28 rfl rfl ?_
    refine WP_iload dX7_putNumber_35 rfl ?_
    obtain ⟨g5, h⟩ := h
    obtain ⟨g6, h⟩ := h
    refine WP_baload (n := 900) dX7_putNumber_37 g5 g6 ?_
    obtain ⟨g7, h⟩ := h
    refine WP_iadd dX7_putNumber_38 g7 ?_
    refine WP_bipush dX7_putNumber_39 (by decide +kernel) (by decide) ?_
    obtain ⟨g8, h⟩ := h
    refine WP_isub dX7_putNumber_41 g8 ?_
    refine WQ_nm0 (fun v9 e9 => ?_)
    replace h := h v9 e9
    refine WP_istore_n (L' := [(2, 28), (0, x1), (0, x2), (0, v9), (0, x4)]) dX7_putNumber_42 rfl (by decide) rfl ?_
    obtain ⟨g10, h⟩ := h
    refine WQ_iinc dX7_putNumber_43 rfl (by decide) g10 (fun v11 e11 => ?_)
    refine WP_same (L' := [(2, 28), (0, x1), (0, x2), (0, v9), (0, v11)]) rfl ?_
    replace h := h v11 e11
    refine WP_goto (tgt := 21) dX7_putNumber_46 (by decide) ?_
    exact h

theorem s_X7_putToken_0 {d : Nat} {sc : SC} {Q : Mem → Prop} {μ : Mem} {a1 a2 a3 : Int}
    (h : (901 ≤ μ 28 4 → Q μ) ∧ (μ 28 4 < 901 → (0 ≤ μ 28 4 ∧ μ 28 4 < 901) ∧ (∀ μ3, μ3 = mup μ 29 (μ 28 4) a1 → (0 ≤ μ3 28 4 ∧ μ3 28 4 < 901) ∧ (∀ μ5, μ5 = mup μ3 30 (μ3 28 4) a2 → (0 ≤ μ5 28 4 ∧ μ5 28 4 < 901) ∧ (∀ μ7, μ7 = mup μ5 31 (μ5 28 4) a3 → (-2147483648 ≤ (μ7 28 4) + 1 ∧ (μ7 28 4) + 1 < 2147483648) ∧ (∀ μ9, μ9 = mup μ7 28 4 ((μ7 28 4) + 1) → Q μ9)))))) :
    WQ mX7_putToken d sc (ZV sc Q) 0 [(2, 28), (0, a1), (0, a2), (0, a3)] [] μ := by
  refine WP_aload_n dX7_putToken_0 rfl rfl ⟨Nat.le_of_ble_eq_true rfl, Nat.le_of_ble_eq_true rfl⟩ ?_
  refine WP_getfield (ci := 7) (j := 4) (n := 11) (t := 0) (x := μ 28 4) dX7_putToken_1 f_X7_54 k_28 rfl rfl ?_
  refine WP_aload_n dX7_putToken_4 rfl rfl ⟨Nat.le_of_ble_eq_true rfl, Nat.le_of_ble_eq_true rfl⟩ ?_
  refine WP_getfield (ci := 7) (j := 5) (n := 11) (t := 2) (x := 29) dX7_putToken_5 f_X7_15 k_28 rfl rfl ?_
  refine WP_arraylength (n := 901) dX7_putToken_8 k_29 (by decide) (by decide) ?_
  refine WQ_icmp_ge (tgt := 52) dX7_putToken_9 (by decide) (fun c1 => ?_) (fun c1 => ?_)
  · replace h := h.1 c1
    exact WQ_return dX7_putToken_52 rfl h
  · replace h := h.2 c1
    refine WP_aload_n dX7_putToken_12 rfl rfl ⟨Nat.le_of_ble_eq_true rfl, Nat.le_of_ble_eq_true rfl⟩ ?_
    refine WP_getfield (ci := 7) (j := 5) (n := 11) (t := 2) (x := 29) dX7_putToken_13 f_X7_15 k_28 rfl rfl ?_
    refine WP_aload_n dX7_putToken_16 rfl rfl ⟨Nat.le_of_ble_eq_true rfl, Nat.le_of_ble_eq_true rfl⟩ ?_
    refine WP_getfield (ci := 7) (j := 4) (n := 11) (t := 0) (x := μ 28 4) dX7_putToken_17 f_X7_54 k_28 rfl rfl ?_
    refine WP_iload_n dX7_putToken_20 rfl rfl ?_
    obtain ⟨g2, h⟩ := h
    refine WQ_iast (n := 901) dX7_putToken_21 k_29 g2 (fun μ3 eμ3 => ?_)
    replace h := h μ3 eμ3
    refine WP_aload_n dX7_putToken_22 rfl rfl ⟨Nat.le_of_ble_eq_true rfl, Nat.le_of_ble_eq_true rfl⟩ ?_
    refine WP_getfield (ci := 7) (j := 6) (n := 11) (t := 2) (x := 30) dX7_putToken_23 f_X7_19 k_28 rfl rfl ?_
    refine WP_aload_n dX7_putToken_26 rfl rfl ⟨Nat.le_of_ble_eq_true rfl, Nat.le_of_ble_eq_true rfl⟩ ?_
    refine WP_getfield (ci := 7) (j := 4) (n := 11) (t := 0) (x := μ3 28 4) dX7_putToken_27 f_X7_54 k_28 rfl rfl ?_
    refine WP_iload_n dX7_putToken_30 rfl rfl ?_
    obtain ⟨g4, h⟩ := h
    refine WQ_iast (n := 901) dX7_putToken_31 k_30 g4 (fun μ5 eμ5 => ?_)
    replace h := h μ5 eμ5
    refine WP_aload_n dX7_putToken_32 rfl rfl ⟨Nat.le_of_ble_eq_true rfl, Nat.le_of_ble_eq_true rfl⟩ ?_
    refine WP_getfield (ci := 7) (j := 7) (n := 11) (t := 2) (x := 31) dX7_putToken_33 f_X7_22 k_28 rfl rfl ?_
    refine WP_aload_n dX7_putToken_36 rfl rfl ⟨Nat.le_of_ble_eq_true rfl, Nat.le_of_ble_eq_true rfl⟩ ?_
    refine WP_getfield (ci := 7) (j := 4) (n := 11) (t := 0) (x := μ5 28 4) dX7_putToken_37 f_X7_54 k_28 rfl rfl ?_
    refine WP_iload_n dX7_putToken_40 rfl rfl ?_
    obtain ⟨g6, h⟩ := h
    refine WQ_iast (n := 901) dX7_putToken_41 k_31 g6 (fun μ7 eμ7 => ?_)
    replace h := h μ7 eμ7
    refine WP_aload_n dX7_putToken_42 rfl rfl ⟨Nat.le_of_ble_eq_true rfl, Nat.le_of_ble_eq_true rfl⟩ ?_
    refine WP_dup dX7_putToken_43 (by simp) ?_
    refine WP_getfield (ci := 7) (j := 4) (n := 11) (t := 0) (x := μ7 28 4) dX7_putToken_44 f_X7_54 k_28 rfl rfl ?_
    refine WP_iconst dX7_putToken_47 (by decide) ?_
    obtain ⟨g8, h⟩ := h
    refine WP_iadd dX7_putToken_48 g8 ?_
    refine WQ_put (ci := 7) (j := 4) (n := 11) dX7_putToken_49 f_X7_54 k_28 rfl (fun μ9 eμ9 => ?_)
    replace h := h μ9 eμ9
    exact WQ_return dX7_putToken_52 rfl h

theorem s_X7_read_0 {d : Nat} {sc : SC} {Q : Int → Mem → Prop} {μ : Mem} {a1 a2 a3 : Int} {n1 : Nat} (ha1 : kd0 a1 = some (4, n1)) (ha3 : isK 1 a3)
    (h : ∀ μ1, μ1 = mup μ 28 2 a1 → ∀ μ2, μ2 = mup μ1 28 3 a3 → CAv mX7_split d sc [(2, 28), (0, a2)] μ2 (fun μ4 => isK 1 (μ4 28 3) ∧ CAv mX1_clear d sc [(2, μ4 28 3)] μ4 (fun μ7 => ∀ μ8, μ8 = mup μ7 28 8 0 → ∀ μ9, μ9 = mup μ8 28 9 0 → ∀ μ10, μ10 = mup μ9 28 0 0 → ∀ μ11, μ11 = mup μ10 28 1 (-1) → CAv mX7_readFirstLine d sc [(2, 28)] μ11 (fun μ13 => WQ mX7_read d sc (ZI sc Q) 49 [(2, 28), (9, 0), (9, 0), (9, 0), (0, 0)] [] μ13)))) :
    WQ mX7_read d sc (ZI sc Q) 0 [(2, 28), (2, a1), (0, a2), (2, a3), (9, 0)] [] μ := by
  refine WP_aload_n dX7_read_0 rfl rfl ⟨Nat.le_of_ble_eq_true rfl, Nat.le_of_ble_eq_true rfl⟩ ?_
  refine WP_aload_n dX7_read_1 rfl rfl ⟨Nat.le_of_ble_eq_true rfl, Nat.le_of_ble_eq_true rfl⟩ ?_
  refine WQ_put (ci := 7) (j := 2) (n := 11) dX7_read_2 f_X7_25 k_28 rfl (fun μ1 eμ1 => ?_)
  replace h := h μ1 eμ1
  refine WP_aload_n dX7_read_5 rfl rfl ⟨Nat.le_of_ble_eq_true rfl, Nat.le_of_ble_eq_true rfl⟩ ?_
  refine WP_aload_n dX7_read_6 rfl rfl ⟨Nat.le_of_ble_eq_true rfl, Nat.le_of_ble_eq_true rfl⟩ ?_
  refine WQ_put (ci := 7) (j := 3) (n := 11) dX7_read_7 f_X7_29 k_28 rfl (fun μ2 eμ2 => ?_)
  replace h := h μ2 eμ2
  refine WP_aload_n dX7_read_10 rfl rfl ⟨Nat.le_of_ble_eq_true rfl, Nat.le_of_ble_eq_true rfl⟩ ?_
  refine WP_iload_n dX7_read_11 rfl rfl ?_
  refine WQ_invVv (v := (2, 28)) (as := [(0, a2)]) dX7_read_12 l_X7_33 mw_X7_split mi_X7_split ms_X7_split mo_X7_split (rcv (ci := 7) (n := 11) (r := (RX7, TX7, 11)) k_28 rfl rfl) (Nat.le_of_ble_eq_true rfl) h rfl (fun μ4 h => ?_)
  refine WP_aload_n dX7_read_15 rfl rfl ⟨Nat.le_of_ble_eq_true rfl, Nat.le_of_ble_eq_true rfl⟩ ?_
  refine WP_getfield (ci := 7) (j := 3) (n := 11) (t := 2) (x := μ4 28 3) dX7_read_16 f_X7_29 k_28 rfl rfl ?_
  obtain ⟨g5, h⟩ := h
  refine WQ_invVv (v := (2, μ4 28 3)) (as := []) dX7_read_19 l_X7_37 mw_X1_clear mi_X1_clear ms_X1_clear mo_X1_clear (rcv (ci := 1) (n := 11) (r := (RX1, TX1, 11)) g5 rfl rfl) (Nat.le_of_ble_eq_true rfl) h rfl (fun μ7 h => ?_)
  refine WP_aload_n dX7_read_22 rfl rfl ⟨Nat.le_of_ble_eq_true rfl, Nat.le_of_ble_eq_true rfl⟩ ?_
  refine WP_iconst dX7_read_23 (by decide) ?_
  refine WQ_put (ci := 7) (j := 8) (n := 11) dX7_read_24 f_X7_42 k_28 rfl (fun μ8 eμ8 => ?_)
  replace h := h μ8 eμ8
  refine WP_aload_n dX7_read_27 rfl rfl ⟨Nat.le_of_ble_eq_true rfl, Nat.le_of_ble_eq_true rfl⟩ ?_
  refine WP_iconst dX7_read_28 (by decide) ?_
  refine WQ_put (ci := 7) (j := 9) (n := 11) dX7_read_29 f_X7_45 k_28 rfl (fun μ9 eμ9 => ?_)
  replace h := h μ9 eμ9
  refine WP_aload_n dX7_read_32 rfl rfl ⟨Nat.le_of_ble_eq_true rfl, Nat.le_of_ble_eq_true rfl⟩ ?_
  refine WP_iconst dX7_read_33 (by decide) ?_
  refine WQ_put (ci := 7) (j := 0) (n := 11) dX7_read_34 f_X7_48 k_28 rfl (fun μ10 eμ10 => ?_)
  replace h := h μ10 eμ10
  refine WP_aload_n dX7_read_37 rfl rfl ⟨Nat.le_of_ble_eq_true rfl, Nat.le_of_ble_eq_true rfl⟩ ?_
  refine WP_iconst dX7_read_38 (by decide) ?_
  refine WQ_put (ci := 7) (j := 1) (n := 11) dX7_read_39 f_X7_9 k_28 rfl (fun μ11 eμ11 => ?_)
  replace h := h μ11 eμ11
  refine WP_aload_n dX7_read_42 rfl rfl ⟨Nat.le_of_ble_eq_true rfl, Nat.le_of_ble_eq_true rfl⟩ ?_
  refine WQ_invVv (v := (2, 28)) (as := []) dX7_read_43 l_X7_51 mw_X7_readFirstLine mi_X7_readFirstLine ms_X7_readFirstLine mo_X7_readFirstLine (rcv (ci := 7) (n := 11) (r := (RX7, TX7, 11)) k_28 rfl rfl) (Nat.le_of_ble_eq_true rfl) h rfl (fun μ13 h => ?_)
  refine WP_iconst dX7_read_46 (by decide) ?_
  refine WP_istore (L' := [(2, 28), (2, a1), (0, a2), (2, a3), (0, 0)]) dX7_read_47 (by decide) rfl ?_
  refine WP_lforget (L' := [(2, 28), (9, 0), (9, 0), (9, 0), (0, 0)]) rfl (fun i hi => ?_) h
  match i, hi with
  | 0, _ => exact Or.inl rfl
  | 1, _ => exact Or.inr rfl
  | 2, _ => exact Or.inr rfl
  | 3, _ => exact Or.inr rfl
  | 4, _ => exact Or.inl rfl
  | i + 5, hi => exact absurd hi (by simp only [List.length_cons, List.length_nil]; omega)

theorem s_X7_read_49 {d : Nat} {sc : SC} {Q : Int → Mem → Prop} {μ : Mem} {x4 : Int}
    (h : (μ 28 4 ≤ x4 → (μ 28 0 ≠ 0 → Q 0 μ) ∧ (μ 28 0 = 0 → Q 1 μ)) ∧ (x4 < μ 28 4 → (μ 28 0 ≠ 0 → (μ 28 0 ≠ 0 → Q 0 μ) ∧ (μ 28 0 = 0 → Q 1 μ)) ∧ (μ 28 0 = 0 → (0 ≤ μ 28 8 ∧ μ 28 8 < 901) ∧ (μ 29 (μ 28 8) = 52 → (μ 28 0 ≠ 0 → Q 0 μ) ∧ (μ 28 0 = 0 → Q 1 μ)) ∧ (μ 29 (μ 28 8) ≠ 52 → CAv mX7_readLine d sc [(2, 28)] μ (fun μ9 => (-2147483648 ≤ x4 + 1 ∧ x4 + 1 < 2147483648) ∧ ∀ v11 : Int, v11 = x4 + 1 → WQ mX7_read d sc (ZI sc Q) 49 [(2, 28), (9, 0), (9, 0), (9, 0), (0, v11)] [] μ9))))) :
    WQ mX7_read d sc (ZI sc Q) 49 [(2, 28), (9, 0), (9, 0), (9, 0), (0, x4)] [] μ := by
  refine WP_iload dX7_read_49 rfl ?_
  refine WP_aload_n dX7_read_51 rfl rfl ⟨Nat.le_of_ble_eq_true rfl, Nat.le_of_ble_eq_true rfl⟩ ?_
  refine WP_getfield (ci := 7) (j := 4) (n := 11) (t := 0) (x := μ 28 4) dX7_read_52 f_X7_54 k_28 rfl rfl ?_
  refine WQ_icmp_ge (tgt := 89) dX7_read_55 (by decide) (fun c1 => ?_) (fun c1 => ?_)
  · replace h := h.1 c1
    refine WP_aload_n dX7_read_89 rfl rfl ⟨Nat.le_of_ble_eq_true rfl, Nat.le_of_ble_eq_true rfl⟩ ?_
    refine WP_getfield (ci := 7) (j := 0) (n := 11) (t := 0) (x := μ 28 0) dX7_read_90 f_X7_48 k_28 rfl rfl ?_
    refine WQ_ifne (tgt := 100) dX7_read_93 (by decide) (fun c2 => ?_) (fun c2 => ?_)
    · replace h := h.1 c2
      refine WP_iconst dX7_read_100 (by decide) ?_
      exact WQ_zreturn dX7_read_101 rfl ⟨by decide, by decide⟩ h
    · replace h := h.2 c2
      refine WP_iconst dX7_read_96 (by decide) ?_
      refine WP_goto (tgt := 101) dX7_read_97 (by decide) ?_
      exact WQ_zreturn dX7_read_101 rfl ⟨by decide, by decide⟩ h
  · replace h := h.2 c1
    refine WP_aload_n dX7_read_58 rfl rfl ⟨Nat.le_of_ble_eq_true rfl, Nat.le_of_ble_eq_true rfl⟩ ?_
    refine WP_getfield (ci := 7) (j := 0) (n := 11) (t := 0) (x := μ 28 0) dX7_read_59 f_X7_48 k_28 rfl rfl ?_
    refine WQ_ifne (tgt := 89) dX7_read_62 (by decide) (fun c3 => ?_) (fun c3 => ?_)
    · replace h := h.1 c3
      refine WP_aload_n dX7_read_89 rfl rfl ⟨Nat.le_of_ble_eq_true rfl, Nat.le_of_ble_eq_true rfl⟩ ?_
      refine WP_getfield (ci := 7) (j := 0) (n := 11) (t := 0) (x := μ 28 0) dX7_read_90 f_X7_48 k_28 rfl rfl ?_
      refine WQ_ifne (tgt := 100) dX7_read_93 (by decide) (fun c4 => ?_) (fun c4 => ?_)
      · replace h := h.1 c4
        refine WP_iconst dX7_read_100 (by decide) ?_
        exact WQ_zreturn dX7_read_101 rfl ⟨by decide, by decide⟩ h
      · replace h := h.2 c4
        refine WP_iconst dX7_read_96 (by decide) ?_
        refine WP_goto (tgt := 101) dX7_read_97 (by decide) ?_
        exact WQ_zreturn dX7_read_101 rfl ⟨by decide, by decide⟩ h
    · replace h := h.2 c3
      refine WP_aload_n dX7_read_65 rfl rfl ⟨Nat.le_of_ble_eq_true rfl, Nat.le_of_ble_eq_true rfl⟩ ?_
      refine WP_getfield (ci := 7) (j := 5) (n := 11) (t := 2) (x := 29) dX7_read_66 f_X7_15 k_28 rfl rfl ?_
      refine WP_aload_n dX7_read_69 rfl rfl ⟨Nat.le_of_ble_eq_true rfl, Nat.le_of_ble_eq_true rfl⟩ ?_
      refine WP_getfield (ci := 7) (j := 8) (n := 11) (t := 0) (x := μ 28 8) dX7_read_70 f_X7_42 k_28 rfl rfl ?_
      obtain ⟨g5, h⟩ := h
      refine WP_iaload (n := 901) dX7_read_73 k_29 g5 ?_
      refine WP_bipush dX7_read_74 (by decide +kernel) (by decide) ?_
      refine WQ_icmp_eq (tgt := 89) dX7_read_76 (by decide) (fun c6 => ?_) (fun c6 => ?_)
      · replace h := h.1 c6
        refine WP_aload_n dX7_read_89 rfl rfl ⟨Nat.le_of_ble_eq_true rfl, Nat.le_of_ble_eq_true rfl⟩ ?_
        refine WP_getfield (ci := 7) (j := 0) (n := 11) (t := 0) (x := μ 28 0) dX7_read_90 f_X7_48 k_28 rfl rfl ?_
        refine WQ_ifne (tgt := 100) dX7_read_93 (by decide) (fun c7 => ?_) (fun c7 => ?_)
        · replace h := h.1 c7
          refine WP_iconst dX7_read_100 (by decide) ?_
          exact WQ_zreturn dX7_read_101 rfl ⟨by decide, by decide⟩ h
        · replace h := h.2 c7
          refine WP_iconst dX7_read_96 (by decide) ?_
          refine WP_goto (tgt := 101) dX7_read_97 (by decide) ?_
          exact WQ_zreturn dX7_read_101 rfl ⟨by decide, by decide⟩ h
      · replace h := h.2 c6
        refine WP_aload_n dX7_read_79 rfl rfl ⟨Nat.le_of_ble_eq_true rfl, Nat.le_of_ble_eq_true rfl⟩ ?_
        refine WQ_invVv (v := (2, 28)) (as := []) dX7_read_80 l_X7_57 mw_X7_readLine mi_X7_readLine ms_X7_readLine mo_X7_readLine (rcv (ci := 7) (n := 11) (r := (RX7, TX7, 11)) k_28 rfl rfl) (Nat.le_of_ble_eq_true rfl) h rfl (fun μ9 h => ?_)
        obtain ⟨g10, h⟩ := h
        refine WQ_iinc dX7_read_83 rfl (by decide) g10 (fun v11 e11 => ?_)
        refine WP_same (L' := [(2, 28), (9, 0), (9, 0), (9, 0), (0, v11)]) rfl ?_
        replace h := h v11 e11
        refine WP_goto (tgt := 49) dX7_read_86 (by decide) ?_
        exact h

theorem s_X7_readAtom_0 {d : Nat} {sc : SC} {Q : Mem → Prop} {μ : Mem} {a1 : Int}
    (h : (0 ≤ μ 28 8 ∧ μ 28 8 < 901) ∧ (∀ v2 : Int, v2 = μ 29 (μ 28 8) → CAi mX7_isAt d sc [(2, 28), (0, 35)] μ (fun r3 μ4 => (r3 = 0 → CAi mX7_isAt d sc [(2, 28), (0, 8)] μ4 (fun r6 μ7 => (r6 = 0 → (v2 ≠ 50 → (v2 < 15 → CAv mX7_fail d sc [(2, 28), (0, 2)] μ7 (fun μ12 => Q μ12)) ∧ (15 ≤ v2 → (μ7 28 10 = 0 → (21 < v2 → CAv mX7_fail d sc [(2, 28), (0, 2)] μ7 (fun μ16 => Q μ16)) ∧ (v2 ≤ 21 → (-2147483648 ≤ 1000 + v2 ∧ 1000 + v2 < 2147483648) ∧ CAv mX7_emit d sc [(2, 28), (0, 1000 + v2)] μ7 (fun μ19 => CAv mX7_step d sc [(2, 28)] μ19 (fun μ21 => Q μ21)))) ∧ (μ7 28 10 ≠ 0 → (23 < v2 → CAv mX7_fail d sc [(2, 28), (0, 2)] μ7 (fun μ24 => Q μ24)) ∧ (v2 ≤ 23 → (-2147483648 ≤ 1000 + v2 ∧ 1000 + v2 < 2147483648) ∧ CAv mX7_emit d sc [(2, 28), (0, 1000 + v2)] μ7 (fun μ27 => CAv mX7_step d sc [(2, 28)] μ27 (fun μ29 => Q μ29)))))) ∧ (v2 = 50 → (0 ≤ μ7 28 8 ∧ μ7 28 8 < 901) ∧ CAv mX7_emit d sc [(2, 28), (0, μ7 31 (μ7 28 8))] μ7 (fun μ32 => CAv mX7_step d sc [(2, 28)] μ32 (fun μ34 => Q μ34)))) ∧ (r6 ≠ 0 → CAi mX7_enter d sc [(2, 28), (0, a1)] μ7 (fun r35 μ36 => (r35 = 0 → Q μ36) ∧ (r35 ≠ 0 → (-2147483648 ≤ a1 + 1 ∧ a1 + 1 < 2147483648) ∧ CAv mX7_readChoice d sc [(2, 28), (0, a1 + 1)] μ36 (fun μ40 => Q μ40)))))) ∧ (r3 ≠ 0 → CAi mX7_enter d sc [(2, 28), (0, a1)] μ4 (fun r41 μ42 => (r41 = 0 → Q μ42) ∧ (r41 ≠ 0 → (-2147483648 ≤ a1 + 1 ∧ a1 + 1 < 2147483648) ∧ CAv mX7_readSum d sc [(2, 28), (0, a1 + 1)] μ42 (fun μ46 => CAv mX7_expect d sc [(2, 28), (0, 36)] μ46 (fun μ48 => Q μ48)))))))) :
    WQ mX7_readAtom d sc (ZV sc Q) 0 [(2, 28), (0, a1), (9, 0)] [] μ := by
  refine WP_aload_n dX7_readAtom_0 rfl rfl ⟨Nat.le_of_ble_eq_true rfl, Nat.le_of_ble_eq_true rfl⟩ ?_
  refine WP_getfield (ci := 7) (j := 5) (n := 11) (t := 2) (x := 29) dX7_readAtom_1 f_X7_15 k_28 rfl rfl ?_
  refine WP_aload_n dX7_readAtom_4 rfl rfl ⟨Nat.le_of_ble_eq_true rfl, Nat.le_of_ble_eq_true rfl⟩ ?_
  refine WP_getfield (ci := 7) (j := 8) (n := 11) (t := 0) (x := μ 28 8) dX7_readAtom_5 f_X7_42 k_28 rfl rfl ?_
  obtain ⟨g1, h⟩ := h
  refine WP_iaload (n := 901) dX7_readAtom_8 k_29 g1 ?_
  refine WQ_nm0 (fun v2 e2 => ?_)
  replace h := h v2 e2
  refine WP_istore_n (L' := [(2, 28), (0, a1), (0, v2)]) dX7_readAtom_9 rfl (by decide) rfl ?_
  refine WP_aload_n dX7_readAtom_10 rfl rfl ⟨Nat.le_of_ble_eq_true rfl, Nat.le_of_ble_eq_true rfl⟩ ?_
  refine WP_bipush dX7_readAtom_11 (by decide +kernel) (by decide) ?_
  refine WQ_invVi (v := (2, 28)) (as := [(0, 35)]) dX7_readAtom_13 l_X7_93 mw_X7_isAt mi_X7_isAt ms_X7_isAt mo_X7_isAt (rcv (ci := 7) (n := 11) (r := (RX7, TX7, 11)) k_28 rfl rfl) (Nat.le_of_ble_eq_true rfl) h rfl (fun r3 μ4 h => ?_)
  refine WQ_ifeq (tgt := 43) dX7_readAtom_16 (by decide) (fun c5 => ?_) (fun c5 => ?_)
  · replace h := h.1 c5
    refine WP_aload_n dX7_readAtom_43 rfl rfl ⟨Nat.le_of_ble_eq_true rfl, Nat.le_of_ble_eq_true rfl⟩ ?_
    refine WP_bipush dX7_readAtom_44 (by decide +kernel) (by decide) ?_
    refine WQ_invVi (v := (2, 28)) (as := [(0, 8)]) dX7_readAtom_46 l_X7_93 mw_X7_isAt mi_X7_isAt ms_X7_isAt mo_X7_isAt (rcv (ci := 7) (n := 11) (r := (RX7, TX7, 11)) k_28 rfl rfl) (Nat.le_of_ble_eq_true rfl) h rfl (fun r6 μ7 h => ?_)
    refine WQ_ifeq (tgt := 70) dX7_readAtom_49 (by decide) (fun c8 => ?_) (fun c8 => ?_)
    · replace h := h.1 c8
      refine WP_iload_n dX7_readAtom_70 rfl rfl ?_
      refine WP_bipush dX7_readAtom_71 (by decide +kernel) (by decide) ?_
      refine WQ_icmp_ne (tgt := 96) dX7_readAtom_73 (by decide) (fun c9 => ?_) (fun c9 => ?_)
      · replace h := h.1 c9
        refine WP_iload_n dX7_readAtom_96 rfl rfl ?_
        refine WP_bipush dX7_readAtom_97 (by decide +kernel) (by decide) ?_
        refine WQ_icmp_lt (tgt := 136) dX7_readAtom_99 (by decide) (fun c10 => ?_) (fun c10 => ?_)
        · replace h := h.1 c10
          refine WP_aload_n dX7_readAtom_136 rfl rfl ⟨Nat.le_of_ble_eq_true rfl, Nat.le_of_ble_eq_true rfl⟩ ?_
          refine WP_iconst dX7_readAtom_137 (by decide) ?_
          refine WQ_invVv (v := (2, 28)) (as := [(0, 2)]) dX7_readAtom_138 l_X7_99 mw_X7_fail mi_X7_fail ms_X7_fail mo_X7_fail (rcv (ci := 7) (n := 11) (r := (RX7, TX7, 11)) k_28 rfl rfl) (Nat.le_of_ble_eq_true rfl) h rfl (fun μ12 h => ?_)
          exact WQ_return dX7_readAtom_141 rfl h
        · replace h := h.2 c10
          refine WP_iload_n dX7_readAtom_102 rfl rfl ?_
          refine WP_aload_n dX7_readAtom_103 rfl rfl ⟨Nat.le_of_ble_eq_true rfl, Nat.le_of_ble_eq_true rfl⟩ ?_
          refine WP_getfield (ci := 7) (j := 10) (n := 11) (t := 0) (x := μ7 28 10) dX7_readAtom_104 f_X7_161 k_28 rfl rfl ?_
          refine WQ_ifeq (tgt := 115) dX7_readAtom_107 (by decide) (fun c13 => ?_) (fun c13 => ?_)
          · replace h := h.1 c13
            refine WP_bipush dX7_readAtom_115 (by decide +kernel) (by decide) ?_
            refine WQ_icmp_gt (tgt := 136) dX7_readAtom_117 (by decide) (fun c14 => ?_) (fun c14 => ?_)
            · replace h := h.1 c14
              refine WP_aload_n dX7_readAtom_136 rfl rfl ⟨Nat.le_of_ble_eq_true rfl, Nat.le_of_ble_eq_true rfl⟩ ?_
              refine WP_iconst dX7_readAtom_137 (by decide) ?_
              refine WQ_invVv (v := (2, 28)) (as := [(0, 2)]) dX7_readAtom_138 l_X7_99 mw_X7_fail mi_X7_fail ms_X7_fail mo_X7_fail (rcv (ci := 7) (n := 11) (r := (RX7, TX7, 11)) k_28 rfl rfl) (Nat.le_of_ble_eq_true rfl) h rfl (fun μ16 h => ?_)
              exact WQ_return dX7_readAtom_141 rfl h
            · replace h := h.2 c14
              refine WP_aload_n dX7_readAtom_120 rfl rfl ⟨Nat.le_of_ble_eq_true rfl, Nat.le_of_ble_eq_true rfl⟩ ?_
              refine WP_sipush dX7_readAtom_121 (by decide +kernel) (by decide) ?_
              refine WP_iload_n dX7_readAtom_124 rfl rfl ?_
              obtain ⟨g17, h⟩ := h
              refine WP_iadd dX7_readAtom_125 g17 ?_
              refine WQ_invVv (v := (2, 28)) (as := [(0, 1000 + v2)]) dX7_readAtom_126 l_X7_183 mw_X7_emit mi_X7_emit ms_X7_emit mo_X7_emit (rcv (ci := 7) (n := 11) (r := (RX7, TX7, 11)) k_28 rfl rfl) (Nat.le_of_ble_eq_true rfl) h rfl (fun μ19 h => ?_)
              refine WP_aload_n dX7_readAtom_129 rfl rfl ⟨Nat.le_of_ble_eq_true rfl, Nat.le_of_ble_eq_true rfl⟩ ?_
              refine WQ_invVv (v := (2, 28)) (as := []) dX7_readAtom_130 l_X7_96 mw_X7_step mi_X7_step ms_X7_step mo_X7_step (rcv (ci := 7) (n := 11) (r := (RX7, TX7, 11)) k_28 rfl rfl) (Nat.le_of_ble_eq_true rfl) h rfl (fun μ21 h => ?_)
              refine WP_goto (tgt := 141) dX7_readAtom_133 (by decide) ?_
              exact WQ_return dX7_readAtom_141 rfl h
          · replace h := h.2 c13
            refine WP_bipush dX7_readAtom_110 (by decide +kernel) (by decide) ?_
            refine WP_goto (tgt := 117) dX7_readAtom_112 (by decide) ?_
            refine WQ_icmp_gt (tgt := 136) dX7_readAtom_117 (by decide) (fun c22 => ?_) (fun c22 => ?_)
            · replace h := h.1 c22
              refine WP_aload_n dX7_readAtom_136 rfl rfl ⟨Nat.le_of_ble_eq_true rfl, Nat.le_of_ble_eq_true rfl⟩ ?_
              refine WP_iconst dX7_readAtom_137 (by decide) ?_
              refine WQ_invVv (v := (2, 28)) (as := [(0, 2)]) dX7_readAtom_138 l_X7_99 mw_X7_fail mi_X7_fail ms_X7_fail mo_X7_fail (rcv (ci := 7) (n := 11) (r := (RX7, TX7, 11)) k_28 rfl rfl) (Nat.le_of_ble_eq_true rfl) h rfl (fun μ24 h => ?_)
              exact WQ_return dX7_readAtom_141 rfl h
            · replace h := h.2 c22
              refine WP_aload_n dX7_readAtom_120 rfl rfl ⟨Nat.le_of_ble_eq_true rfl, Nat.le_of_ble_eq_true rfl⟩ ?_
              refine WP_sipush dX7_readAtom_121 (by decide +kernel) (by decide) ?_
              refine WP_iload_n dX7_readAtom_124 rfl rfl ?_
              obtain ⟨g25, h⟩ := h
              refine WP_iadd dX7_readAtom_125 g25 ?_
              refine WQ_invVv (v := (2, 28)) (as := [(0, 1000 + v2)]) dX7_readAtom_126 l_X7_183 mw_X7_emit mi_X7_emit ms_X7_emit mo_X7_emit (rcv (ci := 7) (n := 11) (r := (RX7, TX7, 11)) k_28 rfl rfl) (Nat.le_of_ble_eq_true rfl) h rfl (fun μ27 h => ?_)
              refine WP_aload_n dX7_readAtom_129 rfl rfl ⟨Nat.le_of_ble_eq_true rfl, Nat.le_of_ble_eq_true rfl⟩ ?_
              refine WQ_invVv (v := (2, 28)) (as := []) dX7_readAtom_130 l_X7_96 mw_X7_step mi_X7_step ms_X7_step mo_X7_step (rcv (ci := 7) (n := 11) (r := (RX7, TX7, 11)) k_28 rfl rfl) (Nat.le_of_ble_eq_true rfl) h rfl (fun μ29 h => ?_)
              refine WP_goto (tgt := 141) dX7_readAtom_133 (by decide) ?_
              exact WQ_return dX7_readAtom_141 rfl h
      · replace h := h.2 c9
        refine WP_aload_n dX7_readAtom_76 rfl rfl ⟨Nat.le_of_ble_eq_true rfl, Nat.le_of_ble_eq_true rfl⟩ ?_
        refine WP_aload_n dX7_readAtom_77 rfl rfl ⟨Nat.le_of_ble_eq_true rfl, Nat.le_of_ble_eq_true rfl⟩ ?_
        refine WP_getfield (ci := 7) (j := 7) (n := 11) (t := 2) (x := 31) dX7_readAtom_78 f_X7_22 k_28 rfl rfl ?_
        refine WP_aload_n dX7_readAtom_81 rfl rfl ⟨Nat.le_of_ble_eq_true rfl, Nat.le_of_ble_eq_true rfl⟩ ?_
        refine WP_getfield (ci := 7) (j := 8) (n := 11) (t := 0) (x := μ7 28 8) dX7_readAtom_82 f_X7_42 k_28 rfl rfl ?_
        obtain ⟨g30, h⟩ := h
        refine WP_iaload (n := 901) dX7_readAtom_85 k_31 g30 ?_
        refine WQ_invVv (v := (2, 28)) (as := [(0, μ7 31 (μ7 28 8))]) dX7_readAtom_86 l_X7_183 mw_X7_emit mi_X7_emit ms_X7_emit mo_X7_emit (rcv (ci := 7) (n := 11) (r := (RX7, TX7, 11)) k_28 rfl rfl) (Nat.le_of_ble_eq_true rfl) h rfl (fun μ32 h => ?_)
        refine WP_aload_n dX7_readAtom_89 rfl rfl ⟨Nat.le_of_ble_eq_true rfl, Nat.le_of_ble_eq_true rfl⟩ ?_
        refine WQ_invVv (v := (2, 28)) (as := []) dX7_readAtom_90 l_X7_96 mw_X7_step mi_X7_step ms_X7_step mo_X7_step (rcv (ci := 7) (n := 11) (r := (RX7, TX7, 11)) k_28 rfl rfl) (Nat.le_of_ble_eq_true rfl) h rfl (fun μ34 h => ?_)
        refine WP_goto (tgt := 141) dX7_readAtom_93 (by decide) ?_
        exact WQ_return dX7_readAtom_141 rfl h
    · replace h := h.2 c8
      refine WP_aload_n dX7_readAtom_52 rfl rfl ⟨Nat.le_of_ble_eq_true rfl, Nat.le_of_ble_eq_true rfl⟩ ?_
      refine WP_iload_n dX7_readAtom_53 rfl rfl ?_
      refine WQ_invVi (v := (2, 28)) (as := [(0, a1)]) dX7_readAtom_54 l_X7_189 mw_X7_enter mi_X7_enter ms_X7_enter mo_X7_enter (rcv (ci := 7) (n := 11) (r := (RX7, TX7, 11)) k_28 rfl rfl) (Nat.le_of_ble_eq_true rfl) h rfl (fun r35 μ36 h => ?_)
      refine WQ_ifeq (tgt := 141) dX7_readAtom_57 (by decide) (fun c37 => ?_) (fun c37 => ?_)
      · replace h := h.1 c37
        exact WQ_return dX7_readAtom_141 rfl h
      · replace h := h.2 c37
        refine WP_aload_n dX7_readAtom_60 rfl rfl ⟨Nat.le_of_ble_eq_true rfl, Nat.le_of_ble_eq_true rfl⟩ ?_
        refine WP_iload_n dX7_readAtom_61 rfl rfl ?_
        refine WP_iconst dX7_readAtom_62 (by decide) ?_
        obtain ⟨g38, h⟩ := h
        refine WP_iadd dX7_readAtom_63 g38 ?_
        refine WQ_invVv (v := (2, 28)) (as := [(0, a1 + 1)]) dX7_readAtom_64 l_X7_198 mw_X7_readChoice mi_X7_readChoice ms_X7_readChoice mo_X7_readChoice (rcv (ci := 7) (n := 11) (r := (RX7, TX7, 11)) k_28 rfl rfl) (Nat.le_of_ble_eq_true rfl) h rfl (fun μ40 h => ?_)
        refine WP_goto (tgt := 141) dX7_readAtom_67 (by decide) ?_
        exact WQ_return dX7_readAtom_141 rfl h
  · replace h := h.2 c5
    refine WP_aload_n dX7_readAtom_19 rfl rfl ⟨Nat.le_of_ble_eq_true rfl, Nat.le_of_ble_eq_true rfl⟩ ?_
    refine WP_iload_n dX7_readAtom_20 rfl rfl ?_
    refine WQ_invVi (v := (2, 28)) (as := [(0, a1)]) dX7_readAtom_21 l_X7_189 mw_X7_enter mi_X7_enter ms_X7_enter mo_X7_enter (rcv (ci := 7) (n := 11) (r := (RX7, TX7, 11)) k_28 rfl rfl) (Nat.le_of_ble_eq_true rfl) h rfl (fun r41 μ42 h => ?_)
    refine WQ_ifeq (tgt := 141) dX7_readAtom_24 (by decide) (fun c43 => ?_) (fun c43 => ?_)
    · replace h := h.1 c43
      exact WQ_return dX7_readAtom_141 rfl h
    · replace h := h.2 c43
      refine WP_aload_n dX7_readAtom_27 rfl rfl ⟨Nat.le_of_ble_eq_true rfl, Nat.le_of_ble_eq_true rfl⟩ ?_
      refine WP_iload_n dX7_readAtom_28 rfl rfl ?_
      refine WP_iconst dX7_readAtom_29 (by decide) ?_
      obtain ⟨g44, h⟩ := h
      refine WP_iadd dX7_readAtom_30 g44 ?_
      refine WQ_invVv (v := (2, 28)) (as := [(0, a1 + 1)]) dX7_readAtom_31 l_X7_168 mw_X7_readSum mi_X7_readSum ms_X7_readSum mo_X7_readSum (rcv (ci := 7) (n := 11) (r := (RX7, TX7, 11)) k_28 rfl rfl) (Nat.le_of_ble_eq_true rfl) h rfl (fun μ46 h => ?_)
      refine WP_aload_n dX7_readAtom_34 rfl rfl ⟨Nat.le_of_ble_eq_true rfl, Nat.le_of_ble_eq_true rfl⟩ ?_
      refine WP_bipush dX7_readAtom_35 (by decide +kernel) (by decide) ?_
      refine WQ_invVv (v := (2, 28)) (as := [(0, 36)]) dX7_readAtom_37 l_X7_102 mw_X7_expect mi_X7_expect ms_X7_expect mo_X7_expect (rcv (ci := 7) (n := 11) (r := (RX7, TX7, 11)) k_28 rfl rfl) (Nat.le_of_ble_eq_true rfl) h rfl (fun μ48 h => ?_)
      refine WP_goto (tgt := 141) dX7_readAtom_40 (by decide) ?_
      exact WQ_return dX7_readAtom_141 rfl h

theorem s_X7_readBoth_0 {d : Nat} {sc : SC} {Q : Mem → Prop} {μ : Mem} {a1 : Int}
    (h : CAv mX7_readUnit d sc [(2, 28), (0, a1)] μ (fun μ2 => ∀ v3 : Int, v3 = μ2 28 4 → WQ mX7_readBoth d sc (ZV sc Q) 10 [(2, 28), (0, a1), (0, v3)] [] μ2)) :
    WQ mX7_readBoth d sc (ZV sc Q) 0 [(2, 28), (0, a1), (9, 0)] [] μ := by
  refine WP_aload_n dX7_readBoth_0 rfl rfl ⟨Nat.le_of_ble_eq_true rfl, Nat.le_of_ble_eq_true rfl⟩ ?_
  refine WP_iload_n dX7_readBoth_1 rfl rfl ?_
  refine WQ_invVv (v := (2, 28)) (as := [(0, a1)]) dX7_readBoth_2 l_X7_186 mw_X7_readUnit mi_X7_readUnit ms_X7_readUnit mo_X7_readUnit (rcv (ci := 7) (n := 11) (r := (RX7, TX7, 11)) k_28 rfl rfl) (Nat.le_of_ble_eq_true rfl) h rfl (fun μ2 h => ?_)
  refine WP_aload_n dX7_readBoth_5 rfl rfl ⟨Nat.le_of_ble_eq_true rfl, Nat.le_of_ble_eq_true rfl⟩ ?_
  refine WP_getfield (ci := 7) (j := 4) (n := 11) (t := 0) (x := μ2 28 4) dX7_readBoth_6 f_X7_54 k_28 rfl rfl ?_
  refine WQ_nm0 (fun v3 e3 => ?_)
  replace h := h v3 e3
  refine WP_istore_n (L' := [(2, 28), (0, a1), (0, v3)]) dX7_readBoth_9 rfl (by decide) rfl ?_
  exact h

theorem s_X7_readBoth_10 {d : Nat} {sc : SC} {Q : Mem → Prop} {μ : Mem} {x1 x2 : Int}
    (h : (x2 ≤ 0 → Q μ) ∧ (0 < x2 → CAi mX7_isAt d sc [(2, 28), (0, 12)] μ (fun r2 μ3 => (r2 = 0 → Q μ3) ∧ (r2 ≠ 0 → CAv mX7_step d sc [(2, 28)] μ3 (fun μ6 => CAv mX7_readUnit d sc [(2, 28), (0, x1)] μ6 (fun μ8 => CAv mX7_emit d sc [(2, 28), (0, 1012)] μ8 (fun μ10 => (-2147483648 ≤ x2 + (-1) ∧ x2 + (-1) < 2147483648) ∧ ∀ v12 : Int, v12 = x2 + (-1) → WQ mX7_readBoth d sc (ZV sc Q) 10 [(2, 28), (0, x1), (0, v12)] [] μ10))))))) :
    WQ mX7_readBoth d sc (ZV sc Q) 10 [(2, 28), (0, x1), (0, x2)] [] μ := by
  refine WP_iload_n dX7_readBoth_10 rfl rfl ?_
  refine WQ_ifle (tgt := 45) dX7_readBoth_11 (by decide) (fun c1 => ?_) (fun c1 => ?_)
  · replace h := h.1 c1
    exact WQ_return dX7_readBoth_45 rfl h
  · replace h := h.2 c1
    refine WP_aload_n dX7_readBoth_14 rfl rfl ⟨Nat.le_of_ble_eq_true rfl, Nat.le_of_ble_eq_true rfl⟩ ?_
    refine WP_bipush dX7_readBoth_15 (by decide +kernel) (by decide) ?_
    refine WQ_invVi (v := (2, 28)) (as := [(0, 12)]) dX7_readBoth_17 l_X7_93 mw_X7_isAt mi_X7_isAt ms_X7_isAt mo_X7_isAt (rcv (ci := 7) (n := 11) (r := (RX7, TX7, 11)) k_28 rfl rfl) (Nat.le_of_ble_eq_true rfl) h rfl (fun r2 μ3 h => ?_)
    refine WQ_ifeq (tgt := 45) dX7_readBoth_20 (by decide) (fun c4 => ?_) (fun c4 => ?_)
    · replace h := h.1 c4
      exact WQ_return dX7_readBoth_45 rfl h
    · replace h := h.2 c4
      refine WP_aload_n dX7_readBoth_23 rfl rfl ⟨Nat.le_of_ble_eq_true rfl, Nat.le_of_ble_eq_true rfl⟩ ?_
      refine WQ_invVv (v := (2, 28)) (as := []) dX7_readBoth_24 l_X7_96 mw_X7_step mi_X7_step ms_X7_step mo_X7_step (rcv (ci := 7) (n := 11) (r := (RX7, TX7, 11)) k_28 rfl rfl) (Nat.le_of_ble_eq_true rfl) h rfl (fun μ6 h => ?_)
      refine WP_aload_n dX7_readBoth_27 rfl rfl ⟨Nat.le_of_ble_eq_true rfl, Nat.le_of_ble_eq_true rfl⟩ ?_
      refine WP_iload_n dX7_readBoth_28 rfl rfl ?_
      refine WQ_invVv (v := (2, 28)) (as := [(0, x1)]) dX7_readBoth_29 l_X7_186 mw_X7_readUnit mi_X7_readUnit ms_X7_readUnit mo_X7_readUnit (rcv (ci := 7) (n := 11) (r := (RX7, TX7, 11)) k_28 rfl rfl) (Nat.le_of_ble_eq_true rfl) h rfl (fun μ8 h => ?_)
      refine WP_aload_n dX7_readBoth_32 rfl rfl ⟨Nat.le_of_ble_eq_true rfl, Nat.le_of_ble_eq_true rfl⟩ ?_
      refine WP_sipush dX7_readBoth_33 (by decide +kernel) (by decide) ?_
      refine WQ_invVv (v := (2, 28)) (as := [(0, 1012)]) dX7_readBoth_36 l_X7_183 mw_X7_emit mi_X7_emit ms_X7_emit mo_X7_emit (rcv (ci := 7) (n := 11) (r := (RX7, TX7, 11)) k_28 rfl rfl) (Nat.le_of_ble_eq_true rfl) h rfl (fun μ10 h => ?_)
      obtain ⟨g11, h⟩ := h
      refine WQ_iinc dX7_readBoth_39 rfl (by decide) g11 (fun v12 e12 => ?_)
      refine WP_same (L' := [(2, 28), (0, x1), (0, v12)]) rfl ?_
      replace h := h v12 e12
      refine WP_goto (tgt := 10) dX7_readBoth_42 (by decide) ?_
      exact h

theorem s_X7_readChoice_0 {d : Nat} {sc : SC} {Q : Mem → Prop} {μ : Mem} {a1 : Int}
    (h : CAv mX7_readTruth d sc [(2, 28), (0, a1)] μ (fun μ2 => CAv mX7_expect d sc [(2, 28), (0, 9)] μ2 (fun μ4 => (μ4 28 0 ≠ 0 → CAv mX7_expect d sc [(2, 28), (0, 10)] μ4 (fun μ7 => (μ7 28 0 ≠ 0 → CAv mX7_expect d sc [(2, 28), (0, 11)] μ7 (fun μ10 => CAv mX7_emit d sc [(2, 28), (0, 1008)] μ10 (fun μ12 => Q μ12))) ∧ (μ7 28 0 = 0 → CAv mX7_readSum d sc [(2, 28), (0, a1)] μ7 (fun μ14 => CAv mX7_expect d sc [(2, 28), (0, 11)] μ14 (fun μ16 => CAv mX7_emit d sc [(2, 28), (0, 1008)] μ16 (fun μ18 => Q μ18)))))) ∧ (μ4 28 0 = 0 → CAv mX7_readSum d sc [(2, 28), (0, a1)] μ4 (fun μ20 => CAv mX7_expect d sc [(2, 28), (0, 10)] μ20 (fun μ22 => (μ22 28 0 ≠ 0 → CAv mX7_expect d sc [(2, 28), (0, 11)] μ22 (fun μ25 => CAv mX7_emit d sc [(2, 28), (0, 1008)] μ25 (fun μ27 => Q μ27))) ∧ (μ22 28 0 = 0 → CAv mX7_readSum d sc [(2, 28), (0, a1)] μ22 (fun μ29 => CAv mX7_expect d sc [(2, 28), (0, 11)] μ29 (fun μ31 => CAv mX7_emit d sc [(2, 28), (0, 1008)] μ31 (fun μ33 => Q μ33)))))))))) :
    WQ mX7_readChoice d sc (ZV sc Q) 0 [(2, 28), (0, a1)] [] μ := by
  refine WP_aload_n dX7_readChoice_0 rfl rfl ⟨Nat.le_of_ble_eq_true rfl, Nat.le_of_ble_eq_true rfl⟩ ?_
  refine WP_iload_n dX7_readChoice_1 rfl rfl ?_
  refine WQ_invVv (v := (2, 28)) (as := [(0, a1)]) dX7_readChoice_2 l_X7_165 mw_X7_readTruth mi_X7_readTruth ms_X7_readTruth mo_X7_readTruth (rcv (ci := 7) (n := 11) (r := (RX7, TX7, 11)) k_28 rfl rfl) (Nat.le_of_ble_eq_true rfl) h rfl (fun μ2 h => ?_)
  refine WP_aload_n dX7_readChoice_5 rfl rfl ⟨Nat.le_of_ble_eq_true rfl, Nat.le_of_ble_eq_true rfl⟩ ?_
  refine WP_bipush dX7_readChoice_6 (by decide +kernel) (by decide) ?_
  refine WQ_invVv (v := (2, 28)) (as := [(0, 9)]) dX7_readChoice_8 l_X7_102 mw_X7_expect mi_X7_expect ms_X7_expect mo_X7_expect (rcv (ci := 7) (n := 11) (r := (RX7, TX7, 11)) k_28 rfl rfl) (Nat.le_of_ble_eq_true rfl) h rfl (fun μ4 h => ?_)
  refine WP_aload_n dX7_readChoice_11 rfl rfl ⟨Nat.le_of_ble_eq_true rfl, Nat.le_of_ble_eq_true rfl⟩ ?_
  refine WP_getfield (ci := 7) (j := 0) (n := 11) (t := 0) (x := μ4 28 0) dX7_readChoice_12 f_X7_48 k_28 rfl rfl ?_
  refine WQ_ifne (tgt := 23) dX7_readChoice_15 (by decide) (fun c5 => ?_) (fun c5 => ?_)
  · replace h := h.1 c5
    refine WP_aload_n dX7_readChoice_23 rfl rfl ⟨Nat.le_of_ble_eq_true rfl, Nat.le_of_ble_eq_true rfl⟩ ?_
    refine WP_bipush dX7_readChoice_24 (by decide +kernel) (by decide) ?_
    refine WQ_invVv (v := (2, 28)) (as := [(0, 10)]) dX7_readChoice_26 l_X7_102 mw_X7_expect mi_X7_expect ms_X7_expect mo_X7_expect (rcv (ci := 7) (n := 11) (r := (RX7, TX7, 11)) k_28 rfl rfl) (Nat.le_of_ble_eq_true rfl) h rfl (fun μ7 h => ?_)
    refine WP_aload_n dX7_readChoice_29 rfl rfl ⟨Nat.le_of_ble_eq_true rfl, Nat.le_of_ble_eq_true rfl⟩ ?_
    refine WP_getfield (ci := 7) (j := 0) (n := 11) (t := 0) (x := μ7 28 0) dX7_readChoice_30 f_X7_48 k_28 rfl rfl ?_
    refine WQ_ifne (tgt := 41) dX7_readChoice_33 (by decide) (fun c8 => ?_) (fun c8 => ?_)
    · replace h := h.1 c8
      refine WP_aload_n dX7_readChoice_41 rfl rfl ⟨Nat.le_of_ble_eq_true rfl, Nat.le_of_ble_eq_true rfl⟩ ?_
      refine WP_bipush dX7_readChoice_42 (by decide +kernel) (by decide) ?_
      refine WQ_invVv (v := (2, 28)) (as := [(0, 11)]) dX7_readChoice_44 l_X7_102 mw_X7_expect mi_X7_expect ms_X7_expect mo_X7_expect (rcv (ci := 7) (n := 11) (r := (RX7, TX7, 11)) k_28 rfl rfl) (Nat.le_of_ble_eq_true rfl) h rfl (fun μ10 h => ?_)
      refine WP_aload_n dX7_readChoice_47 rfl rfl ⟨Nat.le_of_ble_eq_true rfl, Nat.le_of_ble_eq_true rfl⟩ ?_
      refine WP_sipush dX7_readChoice_48 (by decide +kernel) (by decide) ?_
      refine WQ_invVv (v := (2, 28)) (as := [(0, 1008)]) dX7_readChoice_51 l_X7_183 mw_X7_emit mi_X7_emit ms_X7_emit mo_X7_emit (rcv (ci := 7) (n := 11) (r := (RX7, TX7, 11)) k_28 rfl rfl) (Nat.le_of_ble_eq_true rfl) h rfl (fun μ12 h => ?_)
      exact WQ_return dX7_readChoice_54 rfl h
    · replace h := h.2 c8
      refine WP_aload_n dX7_readChoice_36 rfl rfl ⟨Nat.le_of_ble_eq_true rfl, Nat.le_of_ble_eq_true rfl⟩ ?_
      refine WP_iload_n dX7_readChoice_37 rfl rfl ?_
      refine WQ_invVv (v := (2, 28)) (as := [(0, a1)]) dX7_readChoice_38 l_X7_168 mw_X7_readSum mi_X7_readSum ms_X7_readSum mo_X7_readSum (rcv (ci := 7) (n := 11) (r := (RX7, TX7, 11)) k_28 rfl rfl) (Nat.le_of_ble_eq_true rfl) h rfl (fun μ14 h => ?_)
      refine WP_aload_n dX7_readChoice_41 rfl rfl ⟨Nat.le_of_ble_eq_true rfl, Nat.le_of_ble_eq_true rfl⟩ ?_
      refine WP_bipush dX7_readChoice_42 (by decide +kernel) (by decide) ?_
      refine WQ_invVv (v := (2, 28)) (as := [(0, 11)]) dX7_readChoice_44 l_X7_102 mw_X7_expect mi_X7_expect ms_X7_expect mo_X7_expect (rcv (ci := 7) (n := 11) (r := (RX7, TX7, 11)) k_28 rfl rfl) (Nat.le_of_ble_eq_true rfl) h rfl (fun μ16 h => ?_)
      refine WP_aload_n dX7_readChoice_47 rfl rfl ⟨Nat.le_of_ble_eq_true rfl, Nat.le_of_ble_eq_true rfl⟩ ?_
      refine WP_sipush dX7_readChoice_48 (by decide +kernel) (by decide) ?_
      refine WQ_invVv (v := (2, 28)) (as := [(0, 1008)]) dX7_readChoice_51 l_X7_183 mw_X7_emit mi_X7_emit ms_X7_emit mo_X7_emit (rcv (ci := 7) (n := 11) (r := (RX7, TX7, 11)) k_28 rfl rfl) (Nat.le_of_ble_eq_true rfl) h rfl (fun μ18 h => ?_)
      exact WQ_return dX7_readChoice_54 rfl h
  · replace h := h.2 c5
    refine WP_aload_n dX7_readChoice_18 rfl rfl ⟨Nat.le_of_ble_eq_true rfl, Nat.le_of_ble_eq_true rfl⟩ ?_
    refine WP_iload_n dX7_readChoice_19 rfl rfl ?_
    refine WQ_invVv (v := (2, 28)) (as := [(0, a1)]) dX7_readChoice_20 l_X7_168 mw_X7_readSum mi_X7_readSum ms_X7_readSum mo_X7_readSum (rcv (ci := 7) (n := 11) (r := (RX7, TX7, 11)) k_28 rfl rfl) (Nat.le_of_ble_eq_true rfl) h rfl (fun μ20 h => ?_)
    refine WP_aload_n dX7_readChoice_23 rfl rfl ⟨Nat.le_of_ble_eq_true rfl, Nat.le_of_ble_eq_true rfl⟩ ?_
    refine WP_bipush dX7_readChoice_24 (by decide +kernel) (by decide) ?_
    refine WQ_invVv (v := (2, 28)) (as := [(0, 10)]) dX7_readChoice_26 l_X7_102 mw_X7_expect mi_X7_expect ms_X7_expect mo_X7_expect (rcv (ci := 7) (n := 11) (r := (RX7, TX7, 11)) k_28 rfl rfl) (Nat.le_of_ble_eq_true rfl) h rfl (fun μ22 h => ?_)
    refine WP_aload_n dX7_readChoice_29 rfl rfl ⟨Nat.le_of_ble_eq_true rfl, Nat.le_of_ble_eq_true rfl⟩ ?_
    refine WP_getfield (ci := 7) (j := 0) (n := 11) (t := 0) (x := μ22 28 0) dX7_readChoice_30 f_X7_48 k_28 rfl rfl ?_
    refine WQ_ifne (tgt := 41) dX7_readChoice_33 (by decide) (fun c23 => ?_) (fun c23 => ?_)
    · replace h := h.1 c23
      refine WP_aload_n dX7_readChoice_41 rfl rfl ⟨Nat.le_of_ble_eq_true rfl, Nat.le_of_ble_eq_true rfl⟩ ?_
      refine WP_bipush dX7_readChoice_42 (by decide +kernel) (by decide) ?_
      refine WQ_invVv (v := (2, 28)) (as := [(0, 11)]) dX7_readChoice_44 l_X7_102 mw_X7_expect mi_X7_expect ms_X7_expect mo_X7_expect (rcv (ci := 7) (n := 11) (r := (RX7, TX7, 11)) k_28 rfl rfl) (Nat.le_of_ble_eq_true rfl) h rfl (fun μ25 h => ?_)
      refine WP_aload_n dX7_readChoice_47 rfl rfl ⟨Nat.le_of_ble_eq_true rfl, Nat.le_of_ble_eq_true rfl⟩ ?_
      refine WP_sipush dX7_readChoice_48 (by decide +kernel) (by decide) ?_
      refine WQ_invVv (v := (2, 28)) (as := [(0, 1008)]) dX7_readChoice_51 l_X7_183 mw_X7_emit mi_X7_emit ms_X7_emit mo_X7_emit (rcv (ci := 7) (n := 11) (r := (RX7, TX7, 11)) k_28 rfl rfl) (Nat.le_of_ble_eq_true rfl) h rfl (fun μ27 h => ?_)
      exact WQ_return dX7_readChoice_54 rfl h
    · replace h := h.2 c23
      refine WP_aload_n dX7_readChoice_36 rfl rfl ⟨Nat.le_of_ble_eq_true rfl, Nat.le_of_ble_eq_true rfl⟩ ?_
      refine WP_iload_n dX7_readChoice_37 rfl rfl ?_
      refine WQ_invVv (v := (2, 28)) (as := [(0, a1)]) dX7_readChoice_38 l_X7_168 mw_X7_readSum mi_X7_readSum ms_X7_readSum mo_X7_readSum (rcv (ci := 7) (n := 11) (r := (RX7, TX7, 11)) k_28 rfl rfl) (Nat.le_of_ble_eq_true rfl) h rfl (fun μ29 h => ?_)
      refine WP_aload_n dX7_readChoice_41 rfl rfl ⟨Nat.le_of_ble_eq_true rfl, Nat.le_of_ble_eq_true rfl⟩ ?_
      refine WP_bipush dX7_readChoice_42 (by decide +kernel) (by decide) ?_
      refine WQ_invVv (v := (2, 28)) (as := [(0, 11)]) dX7_readChoice_44 l_X7_102 mw_X7_expect mi_X7_expect ms_X7_expect mo_X7_expect (rcv (ci := 7) (n := 11) (r := (RX7, TX7, 11)) k_28 rfl rfl) (Nat.le_of_ble_eq_true rfl) h rfl (fun μ31 h => ?_)
      refine WP_aload_n dX7_readChoice_47 rfl rfl ⟨Nat.le_of_ble_eq_true rfl, Nat.le_of_ble_eq_true rfl⟩ ?_
      refine WP_sipush dX7_readChoice_48 (by decide +kernel) (by decide) ?_
      refine WQ_invVv (v := (2, 28)) (as := [(0, 1008)]) dX7_readChoice_51 l_X7_183 mw_X7_emit mi_X7_emit ms_X7_emit mo_X7_emit (rcv (ci := 7) (n := 11) (r := (RX7, TX7, 11)) k_28 rfl rfl) (Nat.le_of_ble_eq_true rfl) h rfl (fun μ33 h => ?_)
      exact WQ_return dX7_readChoice_54 rfl h

theorem s_X7_readFirstLine_0 {d : Nat} {sc : SC} {Q : Mem → Prop} {μ : Mem}
    (h : CAv mX7_expect d sc [(2, 28), (0, 0)] μ (fun μ2 => CAi mX7_readNumber d sc [(2, 28), (0, 1), (0, 8)] μ2 (fun r3 μ4 => isK 1 (μ2 28 3) ∧ (∀ μ6, μ6 = mup μ4 (μ2 28 3) 0 r3 → CAi mX7_readNumber d sc [(2, 28), (0, 1), (0, 8)] μ6 (fun r7 μ8 => isK 1 (μ6 28 3) ∧ (∀ μ10, μ10 = mup μ8 (μ6 28 3) 1 r7 → CAv mX7_expect d sc [(2, 28), (0, 30)] μ10 (fun μ12 => isK 1 (μ12 28 3) ∧ (∀ μ14, μ14 = mup μ12 (μ12 28 3) 2 1 → Q μ14)))))))) :
    WQ mX7_readFirstLine d sc (ZV sc Q) 0 [(2, 28)] [] μ := by
  refine WP_aload_n dX7_readFirstLine_0 rfl rfl ⟨Nat.le_of_ble_eq_true rfl, Nat.le_of_ble_eq_true rfl⟩ ?_
  refine WP_iconst dX7_readFirstLine_1 (by decide) ?_
  refine WQ_invVv (v := (2, 28)) (as := [(0, 0)]) dX7_readFirstLine_2 l_X7_102 mw_X7_expect mi_X7_expect ms_X7_expect mo_X7_expect (rcv (ci := 7) (n := 11) (r := (RX7, TX7, 11)) k_28 rfl rfl) (Nat.le_of_ble_eq_true rfl) h rfl (fun μ2 h => ?_)
  refine WP_aload_n dX7_readFirstLine_5 rfl rfl ⟨Nat.le_of_ble_eq_true rfl, Nat.le_of_ble_eq_true rfl⟩ ?_
  refine WP_getfield (ci := 7) (j := 3) (n := 11) (t := 2) (x := μ2 28 3) dX7_readFirstLine_6 f_X7_29 k_28 rfl rfl ?_
  refine WP_aload_n dX7_readFirstLine_9 rfl rfl ⟨Nat.le_of_ble_eq_true rfl, Nat.le_of_ble_eq_true rfl⟩ ?_
  refine WP_iconst dX7_readFirstLine_10 (by decide) ?_
  refine WP_bipush dX7_readFirstLine_11 (by decide +kernel) (by decide) ?_
  refine WQ_invVi (v := (2, 28)) (as := [(0, 1), (0, 8)]) dX7_readFirstLine_13 l_X7_105 mw_X7_readNumber mi_X7_readNumber ms_X7_readNumber mo_X7_readNumber (rcv (ci := 7) (n := 11) (r := (RX7, TX7, 11)) k_28 rfl rfl) (Nat.le_of_ble_eq_true rfl) h rfl (fun r3 μ4 h => ?_)
  obtain ⟨g5, h⟩ := h
  refine WQ_put (ci := 1) (j := 0) (n := 11) dX7_readFirstLine_16 f_X7_108 g5 rfl (fun μ6 eμ6 => ?_)
  replace h := h μ6 eμ6
  refine WP_aload_n dX7_readFirstLine_19 rfl rfl ⟨Nat.le_of_ble_eq_true rfl, Nat.le_of_ble_eq_true rfl⟩ ?_
  refine WP_getfield (ci := 7) (j := 3) (n := 11) (t := 2) (x := μ6 28 3) dX7_readFirstLine_20 f_X7_29 k_28 rfl rfl ?_
  refine WP_aload_n dX7_readFirstLine_23 rfl rfl ⟨Nat.le_of_ble_eq_true rfl, Nat.le_of_ble_eq_true rfl⟩ ?_
  refine WP_iconst dX7_readFirstLine_24 (by decide) ?_
  refine WP_bipush dX7_readFirstLine_25 (by decide +kernel) (by decide) ?_
  refine WQ_invVi (v := (2, 28)) (as := [(0, 1), (0, 8)]) dX7_readFirstLine_27 l_X7_105 mw_X7_readNumber mi_X7_readNumber ms_X7_readNumber mo_X7_readNumber (rcv (ci := 7) (n := 11) (r := (RX7, TX7, 11)) k_28 rfl rfl) (Nat.le_of_ble_eq_true rfl) h rfl (fun r7 μ8 h => ?_)
  obtain ⟨g9, h⟩ := h
  refine WQ_put (ci := 1) (j := 1) (n := 11) dX7_readFirstLine_30 f_X7_111 g9 rfl (fun μ10 eμ10 => ?_)
  replace h := h μ10 eμ10
  refine WP_aload_n dX7_readFirstLine_33 rfl rfl ⟨Nat.le_of_ble_eq_true rfl, Nat.le_of_ble_eq_true rfl⟩ ?_
  refine WP_bipush dX7_readFirstLine_34 (by decide +kernel) (by decide) ?_
  refine WQ_invVv (v := (2, 28)) (as := [(0, 30)]) dX7_readFirstLine_36 l_X7_102 mw_X7_expect mi_X7_expect ms_X7_expect mo_X7_expect (rcv (ci := 7) (n := 11) (r := (RX7, TX7, 11)) k_28 rfl rfl) (Nat.le_of_ble_eq_true rfl) h rfl (fun μ12 h => ?_)
  refine WP_aload_n dX7_readFirstLine_39 rfl rfl ⟨Nat.le_of_ble_eq_true rfl, Nat.le_of_ble_eq_true rfl⟩ ?_
  refine WP_getfield (ci := 7) (j := 3) (n := 11) (t := 2) (x := μ12 28 3) dX7_readFirstLine_40 f_X7_29 k_28 rfl rfl ?_
  refine WP_iconst dX7_readFirstLine_43 (by decide) ?_
  obtain ⟨g13, h⟩ := h
  refine WQ_put (ci := 1) (j := 2) (n := 11) dX7_readFirstLine_44 f_X7_114 g13 rfl (fun μ14 eμ14 => ?_)
  replace h := h μ14 eμ14
  exact WQ_return dX7_readFirstLine_47 rfl h

theorem s_X7_readLaw_0 {d : Nat} {sc : SC} {Q : Mem → Prop} {μ : Mem} {a1 : Int}
    (h : CAv mX7_step d sc [(2, 28)] μ (fun μ2 => CAv mX7_expect d sc [(2, 28), (0, 31)] μ2 (fun μ4 => ∀ v5 : Int, v5 = μ4 28 9 → (a1 ≠ 2 → ∀ μ7, μ7 = mup μ4 28 10 0 → (μ7 28 10 = 0 → CAv mX7_readSum d sc [(2, 28), (0, 0)] μ7 (fun μ10 => isK 1 (μ10 28 3) ∧ (0 ≤ a1 ∧ a1 < 3) ∧ (∀ μ13, μ13 = mup μ10 (μ10 28 3 + 5) a1 v5 → isK 1 (μ13 28 3) ∧ (0 ≤ a1 ∧ a1 < 3) ∧ (∀ μ16, μ16 = mup μ13 (μ13 28 3 + 6) a1 (μ13 28 9) → Q μ16)))) ∧ (μ7 28 10 ≠ 0 → CAv mX7_readTruth d sc [(2, 28), (0, 0)] μ7 (fun μ18 => isK 1 (μ18 28 3) ∧ (0 ≤ a1 ∧ a1 < 3) ∧ (∀ μ21, μ21 = mup μ18 (μ18 28 3 + 5) a1 v5 → isK 1 (μ21 28 3) ∧ (0 ≤ a1 ∧ a1 < 3) ∧ (∀ μ24, μ24 = mup μ21 (μ21 28 3 + 6) a1 (μ21 28 9) → Q μ24))))) ∧ (a1 = 2 → ∀ μ25, μ25 = mup μ4 28 10 1 → (μ25 28 10 = 0 → CAv mX7_readSum d sc [(2, 28), (0, 0)] μ25 (fun μ28 => isK 1 (μ28 28 3) ∧ (0 ≤ a1 ∧ a1 < 3) ∧ (∀ μ31, μ31 = mup μ28 (μ28 28 3 + 5) a1 v5 → isK 1 (μ31 28 3) ∧ (0 ≤ a1 ∧ a1 < 3) ∧ (∀ μ34, μ34 = mup μ31 (μ31 28 3 + 6) a1 (μ31 28 9) → Q μ34)))) ∧ (μ25 28 10 ≠ 0 → CAv mX7_readTruth d sc [(2, 28), (0, 0)] μ25 (fun μ36 => isK 1 (μ36 28 3) ∧ (0 ≤ a1 ∧ a1 < 3) ∧ (∀ μ39, μ39 = mup μ36 (μ36 28 3 + 5) a1 v5 → isK 1 (μ39 28 3) ∧ (0 ≤ a1 ∧ a1 < 3) ∧ (∀ μ42, μ42 = mup μ39 (μ39 28 3 + 6) a1 (μ39 28 9) → Q μ42)))))))) :
    WQ mX7_readLaw d sc (ZV sc Q) 0 [(2, 28), (0, a1), (9, 0)] [] μ := by
  refine WP_aload_n dX7_readLaw_0 rfl rfl ⟨Nat.le_of_ble_eq_true rfl, Nat.le_of_ble_eq_true rfl⟩ ?_
  refine WQ_invVv (v := (2, 28)) (as := []) dX7_readLaw_1 l_X7_96 mw_X7_step mi_X7_step ms_X7_step mo_X7_step (rcv (ci := 7) (n := 11) (r := (RX7, TX7, 11)) k_28 rfl rfl) (Nat.le_of_ble_eq_true rfl) h rfl (fun μ2 h => ?_)
  refine WP_aload_n dX7_readLaw_4 rfl rfl ⟨Nat.le_of_ble_eq_true rfl, Nat.le_of_ble_eq_true rfl⟩ ?_
  refine WP_bipush dX7_readLaw_5 (by decide +kernel) (by decide) ?_
  refine WQ_invVv (v := (2, 28)) (as := [(0, 31)]) dX7_readLaw_7 l_X7_102 mw_X7_expect mi_X7_expect ms_X7_expect mo_X7_expect (rcv (ci := 7) (n := 11) (r := (RX7, TX7, 11)) k_28 rfl rfl) (Nat.le_of_ble_eq_true rfl) h rfl (fun μ4 h => ?_)
  refine WP_aload_n dX7_readLaw_10 rfl rfl ⟨Nat.le_of_ble_eq_true rfl, Nat.le_of_ble_eq_true rfl⟩ ?_
  refine WP_getfield (ci := 7) (j := 9) (n := 11) (t := 0) (x := μ4 28 9) dX7_readLaw_11 f_X7_45 k_28 rfl rfl ?_
  refine WQ_nm0 (fun v5 e5 => ?_)
  replace h := h v5 e5
  refine WP_istore_n (L' := [(2, 28), (0, a1), (0, v5)]) dX7_readLaw_14 rfl (by decide) rfl ?_
  refine WP_aload_n dX7_readLaw_15 rfl rfl ⟨Nat.le_of_ble_eq_true rfl, Nat.le_of_ble_eq_true rfl⟩ ?_
  refine WP_iload_n dX7_readLaw_16 rfl rfl ?_
  refine WP_iconst dX7_readLaw_17 (by decide) ?_
  refine WQ_icmp_ne (tgt := 25) dX7_readLaw_18 (by decide) (fun c6 => ?_) (fun c6 => ?_)
  · replace h := h.1 c6
    refine WP_iconst dX7_readLaw_25 (by decide) ?_
    refine WQ_putz (ci := 7) (j := 10) (n := 11) dX7_readLaw_26 f_X7_161 k_28 rfl ⟨by decide, by decide⟩ (fun μ7 eμ7 => ?_)
    replace h := h μ7 eμ7
    refine WP_aload_n dX7_readLaw_29 rfl rfl ⟨Nat.le_of_ble_eq_true rfl, Nat.le_of_ble_eq_true rfl⟩ ?_
    refine WP_getfield (ci := 7) (j := 10) (n := 11) (t := 0) (x := μ7 28 10) dX7_readLaw_30 f_X7_161 k_28 rfl rfl ?_
    refine WQ_ifeq (tgt := 44) dX7_readLaw_33 (by decide) (fun c8 => ?_) (fun c8 => ?_)
    · replace h := h.1 c8
      refine WP_aload_n dX7_readLaw_44 rfl rfl ⟨Nat.le_of_ble_eq_true rfl, Nat.le_of_ble_eq_true rfl⟩ ?_
      refine WP_iconst dX7_readLaw_45 (by decide) ?_
      refine WQ_invVv (v := (2, 28)) (as := [(0, 0)]) dX7_readLaw_46 l_X7_168 mw_X7_readSum mi_X7_readSum ms_X7_readSum mo_X7_readSum (rcv (ci := 7) (n := 11) (r := (RX7, TX7, 11)) k_28 rfl rfl) (Nat.le_of_ble_eq_true rfl) h rfl (fun μ10 h => ?_)
      refine WP_aload_n dX7_readLaw_49 rfl rfl ⟨Nat.le_of_ble_eq_true rfl, Nat.le_of_ble_eq_true rfl⟩ ?_
      refine WP_getfield (ci := 7) (j := 3) (n := 11) (t := 2) (x := μ10 28 3) dX7_readLaw_50 f_X7_29 k_28 rfl rfl ?_
      obtain ⟨g11, h⟩ := h
      refine WP_getfield (ci := 1) (j := 8) (n := 11) (t := 2) (x := μ10 28 3 + 5) dX7_readLaw_53 f_X7_171 g11 rfl rfl ?_
      refine WP_iload_n dX7_readLaw_56 rfl rfl ?_
      refine WP_iload_n dX7_readLaw_57 rfl rfl ?_
      obtain ⟨g12, h⟩ := h
      refine WQ_iast (n := 3) dX7_readLaw_58 (kf_1_8 g11) g12 (fun μ13 eμ13 => ?_)
      replace h := h μ13 eμ13
      refine WP_aload_n dX7_readLaw_59 rfl rfl ⟨Nat.le_of_ble_eq_true rfl, Nat.le_of_ble_eq_true rfl⟩ ?_
      refine WP_getfield (ci := 7) (j := 3) (n := 11) (t := 2) (x := μ13 28 3) dX7_readLaw_60 f_X7_29 k_28 rfl rfl ?_
      obtain ⟨g14, h⟩ := h
      refine WP_getfield (ci := 1) (j := 9) (n := 11) (t := 2) (x := μ13 28 3 + 6) dX7_readLaw_63 f_X7_174 g14 rfl rfl ?_
      refine WP_iload_n dX7_readLaw_66 rfl rfl ?_
      refine WP_aload_n dX7_readLaw_67 rfl rfl ⟨Nat.le_of_ble_eq_true rfl, Nat.le_of_ble_eq_true rfl⟩ ?_
      refine WP_getfield (ci := 7) (j := 9) (n := 11) (t := 0) (x := μ13 28 9) dX7_readLaw_68 f_X7_45 k_28 rfl rfl ?_
      obtain ⟨g15, h⟩ := h
      refine WQ_iast (n := 3) dX7_readLaw_71 (kf_1_9 g14) g15 (fun μ16 eμ16 => ?_)
      replace h := h μ16 eμ16
      exact WQ_return dX7_readLaw_72 rfl h
    · replace h := h.2 c8
      refine WP_aload_n dX7_readLaw_36 rfl rfl ⟨Nat.le_of_ble_eq_true rfl, Nat.le_of_ble_eq_true rfl⟩ ?_
      refine WP_iconst dX7_readLaw_37 (by decide) ?_
      refine WQ_invVv (v := (2, 28)) (as := [(0, 0)]) dX7_readLaw_38 l_X7_165 mw_X7_readTruth mi_X7_readTruth ms_X7_readTruth mo_X7_readTruth (rcv (ci := 7) (n := 11) (r := (RX7, TX7, 11)) k_28 rfl rfl) (Nat.le_of_ble_eq_true rfl) h rfl (fun μ18 h => ?_)
      refine WP_goto (tgt := 49) dX7_readLaw_41 (by decide) ?_
      refine WP_aload_n dX7_readLaw_49 rfl rfl ⟨Nat.le_of_ble_eq_true rfl, Nat.le_of_ble_eq_true rfl⟩ ?_
      refine WP_getfield (ci := 7) (j := 3) (n := 11) (t := 2) (x := μ18 28 3) dX7_readLaw_50 f_X7_29 k_28 rfl rfl ?_
      obtain ⟨g19, h⟩ := h
      refine WP_getfield (ci := 1) (j := 8) (n := 11) (t := 2) (x := μ18 28 3 + 5) dX7_readLaw_53 f_X7_171 g19 rfl rfl ?_
      refine WP_iload_n dX7_readLaw_56 rfl rfl ?_
      refine WP_iload_n dX7_readLaw_57 rfl rfl ?_
      obtain ⟨g20, h⟩ := h
      refine WQ_iast (n := 3) dX7_readLaw_58 (kf_1_8 g19) g20 (fun μ21 eμ21 => ?_)
      replace h := h μ21 eμ21
      refine WP_aload_n dX7_readLaw_59 rfl rfl ⟨Nat.le_of_ble_eq_true rfl, Nat.le_of_ble_eq_true rfl⟩ ?_
      refine WP_getfield (ci := 7) (j := 3) (n := 11) (t := 2) (x := μ21 28 3) dX7_readLaw_60 f_X7_29 k_28 rfl rfl ?_
      obtain ⟨g22, h⟩ := h
      refine WP_getfield (ci := 1) (j := 9) (n := 11) (t := 2) (x := μ21 28 3 + 6) dX7_readLaw_63 f_X7_174 g22 rfl rfl ?_
      refine WP_iload_n dX7_readLaw_66 rfl rfl ?_
      refine WP_aload_n dX7_readLaw_67 rfl rfl ⟨Nat.le_of_ble_eq_true rfl, Nat.le_of_ble_eq_true rfl⟩ ?_
      refine WP_getfield (ci := 7) (j := 9) (n := 11) (t := 0) (x := μ21 28 9) dX7_readLaw_68 f_X7_45 k_28 rfl rfl ?_
      obtain ⟨g23, h⟩ := h
      refine WQ_iast (n := 3) dX7_readLaw_71 (kf_1_9 g22) g23 (fun μ24 eμ24 => ?_)
      replace h := h μ24 eμ24
      exact WQ_return dX7_readLaw_72 rfl h
  · replace h := h.2 c6
    refine WP_iconst dX7_readLaw_21 (by decide) ?_
    refine WP_goto (tgt := 26) dX7_readLaw_22 (by decide) ?_
    refine WQ_putz (ci := 7) (j := 10) (n := 11) dX7_readLaw_26 f_X7_161 k_28 rfl ⟨by decide, by decide⟩ (fun μ25 eμ25 => ?_)
    replace h := h μ25 eμ25
    refine WP_aload_n dX7_readLaw_29 rfl rfl ⟨Nat.le_of_ble_eq_true rfl, Nat.le_of_ble_eq_true rfl⟩ ?_
    refine WP_getfield (ci := 7) (j := 10) (n := 11) (t := 0) (x := μ25 28 10) dX7_readLaw_30 f_X7_161 k_28 rfl rfl ?_
    refine WQ_ifeq (tgt := 44) dX7_readLaw_33 (by decide) (fun c26 => ?_) (fun c26 => ?_)
    · replace h := h.1 c26
      refine WP_aload_n dX7_readLaw_44 rfl rfl ⟨Nat.le_of_ble_eq_true rfl, Nat.le_of_ble_eq_true rfl⟩ ?_
      refine WP_iconst dX7_readLaw_45 (by decide) ?_
      refine WQ_invVv (v := (2, 28)) (as := [(0, 0)]) dX7_readLaw_46 l_X7_168 mw_X7_readSum mi_X7_readSum ms_X7_readSum mo_X7_readSum (rcv (ci := 7) (n := 11) (r := (RX7, TX7, 11)) k_28 rfl rfl) (Nat.le_of_ble_eq_true rfl) h rfl (fun μ28 h => ?_)
      refine WP_aload_n dX7_readLaw_49 rfl rfl ⟨Nat.le_of_ble_eq_true rfl, Nat.le_of_ble_eq_true rfl⟩ ?_
      refine WP_getfield (ci := 7) (j := 3) (n := 11) (t := 2) (x := μ28 28 3) dX7_readLaw_50 f_X7_29 k_28 rfl rfl ?_
      obtain ⟨g29, h⟩ := h
      refine WP_getfield (ci := 1) (j := 8) (n := 11) (t := 2) (x := μ28 28 3 + 5) dX7_readLaw_53 f_X7_171 g29 rfl rfl ?_
      refine WP_iload_n dX7_readLaw_56 rfl rfl ?_
      refine WP_iload_n dX7_readLaw_57 rfl rfl ?_
      obtain ⟨g30, h⟩ := h
      refine WQ_iast (n := 3) dX7_readLaw_58 (kf_1_8 g29) g30 (fun μ31 eμ31 => ?_)
      replace h := h μ31 eμ31
      refine WP_aload_n dX7_readLaw_59 rfl rfl ⟨Nat.le_of_ble_eq_true rfl, Nat.le_of_ble_eq_true rfl⟩ ?_
      refine WP_getfield (ci := 7) (j := 3) (n := 11) (t := 2) (x := μ31 28 3) dX7_readLaw_60 f_X7_29 k_28 rfl rfl ?_
      obtain ⟨g32, h⟩ := h
      refine WP_getfield (ci := 1) (j := 9) (n := 11) (t := 2) (x := μ31 28 3 + 6) dX7_readLaw_63 f_X7_174 g32 rfl rfl ?_
      refine WP_iload_n dX7_readLaw_66 rfl rfl ?_
      refine WP_aload_n dX7_readLaw_67 rfl rfl ⟨Nat.le_of_ble_eq_true rfl, Nat.le_of_ble_eq_true rfl⟩ ?_
      refine WP_getfield (ci := 7) (j := 9) (n := 11) (t := 0) (x := μ31 28 9) dX7_readLaw_68 f_X7_45 k_28 rfl rfl ?_
      obtain ⟨g33, h⟩ := h
      refine WQ_iast (n := 3) dX7_readLaw_71 (kf_1_9 g32) g33 (fun μ34 eμ34 => ?_)
      replace h := h μ34 eμ34
      exact WQ_return dX7_readLaw_72 rfl h
    · replace h := h.2 c26
      refine WP_aload_n dX7_readLaw_36 rfl rfl ⟨Nat.le_of_ble_eq_true rfl, Nat.le_of_ble_eq_true rfl⟩ ?_
      refine WP_iconst dX7_readLaw_37 (by decide) ?_
      refine WQ_invVv (v := (2, 28)) (as := [(0, 0)]) dX7_readLaw_38 l_X7_165 mw_X7_readTruth mi_X7_readTruth ms_X7_readTruth mo_X7_readTruth (rcv (ci := 7) (n := 11) (r := (RX7, TX7, 11)) k_28 rfl rfl) (Nat.le_of_ble_eq_true rfl) h rfl (fun μ36 h => ?_)
      refine WP_goto (tgt := 49) dX7_readLaw_41 (by decide) ?_
      refine WP_aload_n dX7_readLaw_49 rfl rfl ⟨Nat.le_of_ble_eq_true rfl, Nat.le_of_ble_eq_true rfl⟩ ?_
      refine WP_getfield (ci := 7) (j := 3) (n := 11) (t := 2) (x := μ36 28 3) dX7_readLaw_50 f_X7_29 k_28 rfl rfl ?_
      obtain ⟨g37, h⟩ := h
      refine WP_getfield (ci := 1) (j := 8) (n := 11) (t := 2) (x := μ36 28 3 + 5) dX7_readLaw_53 f_X7_171 g37 rfl rfl ?_
      refine WP_iload_n dX7_readLaw_56 rfl rfl ?_
      refine WP_iload_n dX7_readLaw_57 rfl rfl ?_
      obtain ⟨g38, h⟩ := h
      refine WQ_iast (n := 3) dX7_readLaw_58 (kf_1_8 g37) g38 (fun μ39 eμ39 => ?_)
      replace h := h μ39 eμ39
      refine WP_aload_n dX7_readLaw_59 rfl rfl ⟨Nat.le_of_ble_eq_true rfl, Nat.le_of_ble_eq_true rfl⟩ ?_
      refine WP_getfield (ci := 7) (j := 3) (n := 11) (t := 2) (x := μ39 28 3) dX7_readLaw_60 f_X7_29 k_28 rfl rfl ?_
      obtain ⟨g40, h⟩ := h
      refine WP_getfield (ci := 1) (j := 9) (n := 11) (t := 2) (x := μ39 28 3 + 6) dX7_readLaw_63 f_X7_174 g40 rfl rfl ?_
      refine WP_iload_n dX7_readLaw_66 rfl rfl ?_
      refine WP_aload_n dX7_readLaw_67 rfl rfl ⟨Nat.le_of_ble_eq_true rfl, Nat.le_of_ble_eq_true rfl⟩ ?_
      refine WP_getfield (ci := 7) (j := 9) (n := 11) (t := 0) (x := μ39 28 9) dX7_readLaw_68 f_X7_45 k_28 rfl rfl ?_
      obtain ⟨g41, h⟩ := h
      refine WQ_iast (n := 3) dX7_readLaw_71 (kf_1_9 g40) g41 (fun μ42 eμ42 => ?_)
      replace h := h μ42 eμ42
      exact WQ_return dX7_readLaw_72 rfl h

theorem s_X7_readLine_0 {d : Nat} {sc : SC} {Q : Mem → Prop} {μ : Mem}
    (h : (0 ≤ μ 28 8 ∧ μ 28 8 < 901) ∧ (μ 29 (μ 28 8) = 1 → CAv mX7_readPerson d sc [(2, 28)] μ (fun μ4 => WQ mX7_readLine d sc (ZV sc Q) 151 [(2, 28)] [] μ4)) ∧ (μ 29 (μ 28 8) = 2 → CAv mX7_readNaming d sc [(2, 28)] μ (fun μ6 => WQ mX7_readLine d sc (ZV sc Q) 151 [(2, 28)] [] μ6)) ∧ (μ 29 (μ 28 8) = 5 → CAv mX7_readLaw d sc [(2, 28), (0, 0)] μ (fun μ8 => WQ mX7_readLine d sc (ZV sc Q) 151 [(2, 28)] [] μ8)) ∧ (μ 29 (μ 28 8) = 6 → CAv mX7_readLaw d sc [(2, 28), (0, 1)] μ (fun μ10 => WQ mX7_readLine d sc (ZV sc Q) 151 [(2, 28)] [] μ10)) ∧ (μ 29 (μ 28 8) = 7 → CAv mX7_readLaw d sc [(2, 28), (0, 2)] μ (fun μ12 => WQ mX7_readLine d sc (ZV sc Q) 151 [(2, 28)] [] μ12)) ∧ (μ 29 (μ 28 8) = 15 → CAv mX7_step d sc [(2, 28)] μ (fun μ14 => isK 1 (μ14 28 3) ∧ CAi mX7_readNumber d sc [(2, 28), (0, 0), (0, 9)] μ14 (fun r16 μ17 => ∀ μ18, μ18 = mup μ17 (μ14 28 3 + 7) 6 r16 → WQ mX7_readLine d sc (ZV sc Q) 151 [(2, 28)] [] μ18))) ∧ ((μ 29 (μ 28 8) ≠ 1 ∧ μ 29 (μ 28 8) ≠ 2 ∧ μ 29 (μ 28 8) ≠ 5 ∧ μ 29 (μ 28 8) ≠ 6 ∧ μ 29 (μ 28 8) ≠ 7 ∧ μ 29 (μ 28 8) ≠ 15) → CAv mX7_fail d sc [(2, 28), (0, 2)] μ (fun μ20 => WQ mX7_readLine d sc (ZV sc Q) 151 [(2, 28)] [] μ20))) :
    WQ mX7_readLine d sc (ZV sc Q) 0 [(2, 28)] [] μ := by
  refine WP_aload_n dX7_readLine_0 rfl rfl ⟨Nat.le_of_ble_eq_true rfl, Nat.le_of_ble_eq_true rfl⟩ ?_
  refine WP_getfield (ci := 7) (j := 5) (n := 11) (t := 2) (x := 29) dX7_readLine_1 f_X7_15 k_28 rfl rfl ?_
  refine WP_aload_n dX7_readLine_4 rfl rfl ⟨Nat.le_of_ble_eq_true rfl, Nat.le_of_ble_eq_true rfl⟩ ?_
  refine WP_getfield (ci := 7) (j := 8) (n := 11) (t := 0) (x := μ 28 8) dX7_readLine_5 f_X7_42 k_28 rfl rfl ?_
  obtain ⟨g1, h⟩ := h
  refine WP_iaload (n := 901) dX7_readLine_8 k_29 g1 ?_
  have hD : (μ 29 (μ 28 8) ≠ 1 ∧ μ 29 (μ 28 8) ≠ 2 ∧ μ 29 (μ 28 8) ≠ 5 ∧ μ 29 (μ 28 8) ≠ 6 ∧ μ 29 (μ 28 8) ≠ 7 ∧ μ 29 (μ 28 8) ≠ 15) → WQ mX7_readLine d sc (ZV sc Q) 146 [(2, 28)] [] μ := by
    intro c2
    replace h := h.2.2.2.2.2.2 c2
    refine WP_aload_n dX7_readLine_146 rfl rfl ⟨Nat.le_of_ble_eq_true rfl, Nat.le_of_ble_eq_true rfl⟩ ?_
    refine WP_iconst dX7_readLine_147 (by decide) ?_
    refine WQ_invVv (v := (2, 28)) (as := [(0, 2)]) dX7_readLine_148 l_X7_99 mw_X7_fail mi_X7_fail ms_X7_fail mo_X7_fail (rcv (ci := 7) (n := 11) (r := (RX7, TX7, 11)) k_28 rfl rfl) (Nat.le_of_ble_eq_true rfl) h rfl (fun μ20 h => ?_)
    exact h
  rcases (show (μ 29 (μ 28 8) < 1 ∨ 15 < μ 29 (μ 28 8)) ∨ μ 29 (μ 28 8) = 1 ∨ μ 29 (μ 28 8) = 2 ∨ μ 29 (μ 28 8) = 3 ∨ μ 29 (μ 28 8) = 4 ∨ μ 29 (μ 28 8) = 5 ∨ μ 29 (μ 28 8) = 6 ∨ μ 29 (μ 28 8) = 7 ∨ μ 29 (μ 28 8) = 8 ∨ μ 29 (μ 28 8) = 9 ∨ μ 29 (μ 28 8) = 10 ∨ μ 29 (μ 28 8) = 11 ∨ μ 29 (μ 28 8) = 12 ∨ μ 29 (μ 28 8) = 13 ∨ μ 29 (μ 28 8) = 14 ∨ μ 29 (μ 28 8) = 15 by omega) with c2 | c2 | c2 | c2 | c2 | c2 | c2 | c2 | c2 | c2 | c2 | c2 | c2 | c2 | c2 | c2
  · exact WP_tableOut (tgt := 146) dX7_readLine_9 c2 (by decide) (hD (by omega))
  · refine WP_tableIn (tgt := 84) dX7_readLine_9 (by omega) (by omega) (by rw [c2]; rfl) (by decide) ?_
    replace h := h.1 c2
    refine WP_aload_n dX7_readLine_84 rfl rfl ⟨Nat.le_of_ble_eq_true rfl, Nat.le_of_ble_eq_true rfl⟩ ?_
    refine WQ_invVv (v := (2, 28)) (as := []) dX7_readLine_85 l_X7_117 mw_X7_readPerson mi_X7_readPerson ms_X7_readPerson mo_X7_readPerson (rcv (ci := 7) (n := 11) (r := (RX7, TX7, 11)) k_28 rfl rfl) (Nat.le_of_ble_eq_true rfl) h rfl (fun μ4 h => ?_)
    refine WP_goto (tgt := 151) dX7_readLine_88 (by decide) ?_
    exact h
  · refine WP_tableIn (tgt := 91) dX7_readLine_9 (by omega) (by omega) (by rw [c2]; rfl) (by decide) ?_
    replace h := h.2.1 c2
    refine WP_aload_n dX7_readLine_91 rfl rfl ⟨Nat.le_of_ble_eq_true rfl, Nat.le_of_ble_eq_true rfl⟩ ?_
    refine WQ_invVv (v := (2, 28)) (as := []) dX7_readLine_92 l_X7_120 mw_X7_readNaming mi_X7_readNaming ms_X7_readNaming mo_X7_readNaming (rcv (ci := 7) (n := 11) (r := (RX7, TX7, 11)) k_28 rfl rfl) (Nat.le_of_ble_eq_true rfl) h rfl (fun μ6 h => ?_)
    refine WP_goto (tgt := 151) dX7_readLine_95 (by decide) ?_
    exact h
  · exact WP_tableIn (tgt := 146) dX7_readLine_9 (by omega) (by omega) (by rw [c2]; rfl) (by decide) (hD (by omega))
  · exact WP_tableIn (tgt := 146) dX7_readLine_9 (by omega) (by omega) (by rw [c2]; rfl) (by decide) (hD (by omega))
  · refine WP_tableIn (tgt := 122) dX7_readLine_9 (by omega) (by omega) (by rw [c2]; rfl) (by decide) ?_
    replace h := h.2.2.1 c2
    refine WP_aload_n dX7_readLine_122 rfl rfl ⟨Nat.le_of_ble_eq_true rfl, Nat.le_of_ble_eq_true rfl⟩ ?_
    refine WP_iconst dX7_readLine_123 (by decide) ?_
    refine WQ_invVv (v := (2, 28)) (as := [(0, 0)]) dX7_readLine_124 l_X7_132 mw_X7_readLaw mi_X7_readLaw ms_X7_readLaw mo_X7_readLaw (rcv (ci := 7) (n := 11) (r := (RX7, TX7, 11)) k_28 rfl rfl) (Nat.le_of_ble_eq_true rfl) h rfl (fun μ8 h => ?_)
    refine WP_goto (tgt := 151) dX7_readLine_127 (by decide) ?_
    exact h
  · refine WP_tableIn (tgt := 130) dX7_readLine_9 (by omega) (by omega) (by rw [c2]; rfl) (by decide) ?_
    replace h := h.2.2.2.1 c2
    refine WP_aload_n dX7_readLine_130 rfl rfl ⟨Nat.le_of_ble_eq_true rfl, Nat.le_of_ble_eq_true rfl⟩ ?_
    refine WP_iconst dX7_readLine_131 (by decide) ?_
    refine WQ_invVv (v := (2, 28)) (as := [(0, 1)]) dX7_readLine_132 l_X7_132 mw_X7_readLaw mi_X7_readLaw ms_X7_readLaw mo_X7_readLaw (rcv (ci := 7) (n := 11) (r := (RX7, TX7, 11)) k_28 rfl rfl) (Nat.le_of_ble_eq_true rfl) h rfl (fun μ10 h => ?_)
    refine WP_goto (tgt := 151) dX7_readLine_135 (by decide) ?_
    exact h
  · refine WP_tableIn (tgt := 138) dX7_readLine_9 (by omega) (by omega) (by rw [c2]; rfl) (by decide) ?_
    replace h := h.2.2.2.2.1 c2
    refine WP_aload_n dX7_readLine_138 rfl rfl ⟨Nat.le_of_ble_eq_true rfl, Nat.le_of_ble_eq_true rfl⟩ ?_
    refine WP_iconst dX7_readLine_139 (by decide) ?_
    refine WQ_invVv (v := (2, 28)) (as := [(0, 2)]) dX7_readLine_140 l_X7_132 mw_X7_readLaw mi_X7_readLaw ms_X7_readLaw mo_X7_readLaw (rcv (ci := 7) (n := 11) (r := (RX7, TX7, 11)) k_28 rfl rfl) (Nat.le_of_ble_eq_true rfl) h rfl (fun μ12 h => ?_)
    refine WP_goto (tgt := 151) dX7_readLine_143 (by decide) ?_
    exact h
  · exact WP_tableIn (tgt := 146) dX7_readLine_9 (by omega) (by omega) (by rw [c2]; rfl) (by decide) (hD (by omega))
  · exact WP_tableIn (tgt := 146) dX7_readLine_9 (by omega) (by omega) (by rw [c2]; rfl) (by decide) (hD (by omega))
  · exact WP_tableIn (tgt := 146) dX7_readLine_9 (by omega) (by omega) (by rw [c2]; rfl) (by decide) (hD (by omega))
  · exact WP_tableIn (tgt := 146) dX7_readLine_9 (by omega) (by omega) (by rw [c2]; rfl) (by decide) (hD (by omega))
  · exact WP_tableIn (tgt := 146) dX7_readLine_9 (by omega) (by omega) (by rw [c2]; rfl) (by decide) (hD (by omega))
  · exact WP_tableIn (tgt := 146) dX7_readLine_9 (by omega) (by omega) (by rw [c2]; rfl) (by decide) (hD (by omega))
  · exact WP_tableIn (tgt := 146) dX7_readLine_9 (by omega) (by omega) (by rw [c2]; rfl) (by decide) (hD (by omega))
  · refine WP_tableIn (tgt := 98) dX7_readLine_9 (by omega) (by omega) (by rw [c2]; rfl) (by decide) ?_
    replace h := h.2.2.2.2.2.1 c2
    refine WP_aload_n dX7_readLine_98 rfl rfl ⟨Nat.le_of_ble_eq_true rfl, Nat.le_of_ble_eq_true rfl⟩ ?_
    refine WQ_invVv (v := (2, 28)) (as := []) dX7_readLine_99 l_X7_96 mw_X7_step mi_X7_step ms_X7_step mo_X7_step (rcv (ci := 7) (n := 11) (r := (RX7, TX7, 11)) k_28 rfl rfl) (Nat.le_of_ble_eq_true rfl) h rfl (fun μ14 h => ?_)
    refine WP_aload_n dX7_readLine_102 rfl rfl ⟨Nat.le_of_ble_eq_true rfl, Nat.le_of_ble_eq_true rfl⟩ ?_
    refine WP_getfield (ci := 7) (j := 3) (n := 11) (t := 2) (x := μ14 28 3) dX7_readLine_103 f_X7_29 k_28 rfl rfl ?_
    obtain ⟨g15, h⟩ := h
    refine WP_getfield (ci := 1) (j := 10) (n := 11) (t := 2) (x := μ14 28 3 + 7) dX7_readLine_106 f_X7_123 g15 rfl rfl ?_
    refine WP_aload_n dX7_readLine_109 rfl rfl ⟨Nat.le_of_ble_eq_true rfl, Nat.le_of_ble_eq_true rfl⟩ ?_
    refine WP_iconst dX7_readLine_110 (by decide) ?_
    refine WP_bipush dX7_readLine_111 (by decide +kernel) (by decide) ?_
    refine WQ_invVi (v := (2, 28)) (as := [(0, 0), (0, 9)]) dX7_readLine_113 l_X7_105 mw_X7_readNumber mi_X7_readNumber ms_X7_readNumber mo_X7_readNumber (rcv (ci := 7) (n := 11) (r := (RX7, TX7, 11)) k_28 rfl rfl) (Nat.le_of_ble_eq_true rfl) h rfl (fun r16 μ17 h => ?_)
    refine WQ_put (ci := 6) (j := 6) (n := 7) dX7_readLine_116 f_X7_127 (kf_1_10 g15) rfl (fun μ18 eμ18 => ?_)
    replace h := h μ18 eμ18
    refine WP_goto (tgt := 151) dX7_readLine_119 (by decide) ?_
    exact h

theorem s_X7_readLine_151 {d : Nat} {sc : SC} {Q : Mem → Prop} {μ : Mem}
    (h : CAv mX7_expect d sc [(2, 28), (0, 30)] μ (fun μ2 => isK 1 (μ2 28 3) ∧ (-2147483648 ≤ (μ2 (μ2 28 3) 2) + 1 ∧ (μ2 (μ2 28 3) 2) + 1 < 2147483648) ∧ (∀ μ5, μ5 = mup μ2 (μ2 28 3) 2 ((μ2 (μ2 28 3) 2) + 1) → Q μ5))) :
    WQ mX7_readLine d sc (ZV sc Q) 151 [(2, 28)] [] μ := by
  refine WP_aload_n dX7_readLine_151 rfl rfl ⟨Nat.le_of_ble_eq_true rfl, Nat.le_of_ble_eq_true rfl⟩ ?_
  refine WP_bipush dX7_readLine_152 (by decide +kernel) (by decide) ?_
  refine WQ_invVv (v := (2, 28)) (as := [(0, 30)]) dX7_readLine_154 l_X7_102 mw_X7_expect mi_X7_expect ms_X7_expect mo_X7_expect (rcv (ci := 7) (n := 11) (r := (RX7, TX7, 11)) k_28 rfl rfl) (Nat.le_of_ble_eq_true rfl) h rfl (fun μ2 h => ?_)
  refine WP_aload_n dX7_readLine_157 rfl rfl ⟨Nat.le_of_ble_eq_true rfl, Nat.le_of_ble_eq_true rfl⟩ ?_
  refine WP_getfield (ci := 7) (j := 3) (n := 11) (t := 2) (x := μ2 28 3) dX7_readLine_158 f_X7_29 k_28 rfl rfl ?_
  refine WP_dup dX7_readLine_161 (by simp) ?_
  obtain ⟨g3, h⟩ := h
  refine WP_getfield (ci := 1) (j := 2) (n := 11) (t := 0) (x := μ2 (μ2 28 3) 2) dX7_readLine_162 f_X7_114 g3 rfl rfl ?_
  refine WP_iconst dX7_readLine_165 (by decide) ?_
  obtain ⟨g4, h⟩ := h
  refine WP_iadd dX7_readLine_166 g4 ?_
  refine WQ_put (ci := 1) (j := 2) (n := 11) dX7_readLine_167 f_X7_114 g3 rfl (fun μ5 eμ5 => ?_)
  replace h := h μ5 eμ5
  exact WQ_return dX7_readLine_170 rfl h

theorem s_X7_readNaming_0 {d : Nat} {sc : SC} {Q : Mem → Prop} {μ : Mem}
    (h : isK 1 (μ 28 3) ∧ (μ (μ 28 3 + 7) 0 < 8 → CAv mX7_step d sc [(2, 28)] μ (fun μ4 => isK 1 (μ4 28 3) ∧ (-2147483648 ≤ (μ4 (μ4 28 3) 3) - 1 ∧ (μ4 (μ4 28 3) 3) - 1 < 2147483648) ∧ CAi mX7_readNumber d sc [(2, 28), (0, 0), (0, (μ4 (μ4 28 3) 3) - 1)] μ4 (fun r7 μ8 => CAi mX7_isAt d sc [(2, 28), (0, 50)] μ8 (fun r9 μ10 => (r9 = 0 → isK 1 (μ10 28 3) ∧ (-2147483648 ≤ (μ10 (μ10 28 3) 3) - 1 ∧ (μ10 (μ10 28 3) 3) - 1 < 2147483648) ∧ CAi mX7_readNumber d sc [(2, 28), (0, 0), (0, (μ10 (μ10 28 3) 3) - 1)] μ10 (fun r14 μ15 => CAv mX7_expect d sc [(2, 28), (0, 3)] μ15 (fun μ17 => CAi mX7_readNumber d sc [(2, 28), (0, 0), (0, 99)] μ17 (fun r18 μ19 => ∀ v20 : Int, v20 = μ19 28 4 → WQ mX7_readNaming d sc (ZV sc Q) 105 [(2, 28), (0, r7), (0, r14), (0, r18), (0, 10), (0, v20)] [] μ19)))) ∧ (r9 ≠ 0 → (0 ≤ μ10 28 8 ∧ μ10 28 8 < 901) ∧ (μ10 31 (μ10 28 8) ≠ r7 → isK 1 (μ10 28 3) ∧ (-2147483648 ≤ (μ10 (μ10 28 3) 3) - 1 ∧ (μ10 (μ10 28 3) 3) - 1 < 2147483648) ∧ CAi mX7_readNumber d sc [(2, 28), (0, 0), (0, (μ10 (μ10 28 3) 3) - 1)] μ10 (fun r25 μ26 => CAv mX7_expect d sc [(2, 28), (0, 3)] μ26 (fun μ28 => CAi mX7_readNumber d sc [(2, 28), (0, 0), (0, 99)] μ28 (fun r29 μ30 => ∀ v31 : Int, v31 = μ30 28 4 → WQ mX7_readNaming d sc (ZV sc Q) 105 [(2, 28), (0, r7), (0, r25), (0, r29), (0, 10), (0, v31)] [] μ30)))) ∧ (μ10 31 (μ10 28 8) = r7 → CAv mX7_fail d sc [(2, 28), (0, 3)] μ10 (fun μ33 => isK 1 (μ33 28 3) ∧ (-2147483648 ≤ (μ33 (μ33 28 3) 3) - 1 ∧ (μ33 (μ33 28 3) 3) - 1 < 2147483648) ∧ CAi mX7_readNumber d sc [(2, 28), (0, 0), (0, (μ33 (μ33 28 3) 3) - 1)] μ33 (fun r36 μ37 => CAv mX7_expect d sc [(2, 28), (0, 3)] μ37 (fun μ39 => CAi mX7_readNumber d sc [(2, 28), (0, 0), (0, 99)] μ39 (fun r40 μ41 => ∀ v42 : Int, v42 = μ41 28 4 → WQ mX7_readNaming d sc (ZV sc Q) 105 [(2, 28), (0, r7), (0, r36), (0, r40), (0, 10), (0, v42)] [] μ41)))))))))) ∧ (8 ≤ μ (μ 28 3 + 7) 0 → CAv mX7_fail d sc [(2, 28), (0, 4)] μ (fun μ44 => Q μ44))) :
    WQ mX7_readNaming d sc (ZV sc Q) 0 [(2, 28), (9, 0), (9, 0), (9, 0), (9, 0), (9, 0)] [] μ := by
  refine WP_aload_n dX7_readNaming_0 rfl rfl ⟨Nat.le_of_ble_eq_true rfl, Nat.le_of_ble_eq_true rfl⟩ ?_
  refine WP_getfield (ci := 7) (j := 3) (n := 11) (t := 2) (x := μ 28 3) dX7_readNaming_1 f_X7_29 k_28 rfl rfl ?_
  obtain ⟨g1, h⟩ := h
  refine WP_getfield (ci := 1) (j := 10) (n := 11) (t := 2) (x := μ 28 3 + 7) dX7_readNaming_4 f_X7_123 g1 rfl rfl ?_
  refine WP_getfield (ci := 6) (j := 0) (n := 7) (t := 0) (x := μ (μ 28 3 + 7) 0) dX7_readNaming_7 f_X7_154 (kf_1_10 g1) rfl rfl ?_
  refine WP_bipush dX7_readNaming_10 (by decide +kernel) (by decide) ?_
  refine WQ_icmp_lt (tgt := 21) dX7_readNaming_12 (by decide) (fun c2 => ?_) (fun c2 => ?_)
  · replace h := h.1 c2
    refine WP_aload_n dX7_readNaming_21 rfl rfl ⟨Nat.le_of_ble_eq_true rfl, Nat.le_of_ble_eq_true rfl⟩ ?_
    refine WQ_invVv (v := (2, 28)) (as := []) dX7_readNaming_22 l_X7_96 mw_X7_step mi_X7_step ms_X7_step mo_X7_step (rcv (ci := 7) (n := 11) (r := (RX7, TX7, 11)) k_28 rfl rfl) (Nat.le_of_ble_eq_true rfl) h rfl (fun μ4 h => ?_)
    refine WP_aload_n dX7_readNaming_25 rfl rfl ⟨Nat.le_of_ble_eq_true rfl, Nat.le_of_ble_eq_true rfl⟩ ?_
    refine WP_iconst dX7_readNaming_26 (by decide) ?_
    refine WP_aload_n dX7_readNaming_27 rfl rfl ⟨Nat.le_of_ble_eq_true rfl, Nat.le_of_ble_eq_true rfl⟩ ?_
    refine WP_getfield (ci := 7) (j := 3) (n := 11) (t := 2) (x := μ4 28 3) dX7_readNaming_28 f_X7_29 k_28 rfl rfl ?_
    obtain ⟨g5, h⟩ := h
    refine WP_getfield (ci := 1) (j := 3) (n := 11) (t := 0) (x := μ4 (μ4 28 3) 3) dX7_readNaming_31 f_X7_135 g5 rfl rfl ?_
    refine WP_iconst dX7_readNaming_34 (by decide) ?_
    obtain ⟨g6, h⟩ := h
    refine WP_isub dX7_readNaming_35 g6 ?_
    refine WQ_invVi (v := (2, 28)) (as := [(0, 0), (0, (μ4 (μ4 28 3) 3) - 1)]) dX7_readNaming_36 l_X7_105 mw_X7_readNumber mi_X7_readNumber ms_X7_readNumber mo_X7_readNumber (rcv (ci := 7) (n := 11) (r := (RX7, TX7, 11)) k_28 rfl rfl) (Nat.le_of_ble_eq_true rfl) h rfl (fun r7 μ8 h => ?_)
    refine WP_istore_n (L' := [(2, 28), (0, r7), (9, 0), (9, 0), (9, 0), (9, 0)]) dX7_readNaming_39 rfl (by decide) rfl ?_
    refine WP_aload_n dX7_readNaming_40 rfl rfl ⟨Nat.le_of_ble_eq_true rfl, Nat.le_of_ble_eq_true rfl⟩ ?_
    refine WP_bipush dX7_readNaming_41 (by decide +kernel) (by decide) ?_
    refine WQ_invVi (v := (2, 28)) (as := [(0, 50)]) dX7_readNaming_43 l_X7_93 mw_X7_isAt mi_X7_isAt ms_X7_isAt mo_X7_isAt (rcv (ci := 7) (n := 11) (r := (RX7, TX7, 11)) k_28 rfl rfl) (Nat.le_of_ble_eq_true rfl) h rfl (fun r9 μ10 h => ?_)
    refine WQ_ifeq (tgt := 67) dX7_readNaming_46 (by decide) (fun c11 => ?_) (fun c11 => ?_)
    · replace h := h.1 c11
      refine WP_aload_n dX7_readNaming_67 rfl rfl ⟨Nat.le_of_ble_eq_true rfl, Nat.le_of_ble_eq_true rfl⟩ ?_
      refine WP_iconst dX7_readNaming_68 (by decide) ?_
      refine WP_aload_n dX7_readNaming_69 rfl rfl ⟨Nat.le_of_ble_eq_true rfl, Nat.le_of_ble_eq_true rfl⟩ ?_
      refine WP_getfield (ci := 7) (j := 3) (n := 11) (t := 2) (x := μ10 28 3) dX7_readNaming_70 f_X7_29 k_28 rfl rfl ?_
      obtain ⟨g12, h⟩ := h
      refine WP_getfield (ci := 1) (j := 3) (n := 11) (t := 0) (x := μ10 (μ10 28 3) 3) dX7_readNaming_73 f_X7_135 g12 rfl rfl ?_
      refine WP_iconst dX7_readNaming_76 (by decide) ?_
      obtain ⟨g13, h⟩ := h
      refine WP_isub dX7_readNaming_77 g13 ?_
      refine WQ_invVi (v := (2, 28)) (as := [(0, 0), (0, (μ10 (μ10 28 3) 3) - 1)]) dX7_readNaming_78 l_X7_105 mw_X7_readNumber mi_X7_readNumber ms_X7_readNumber mo_X7_readNumber (rcv (ci := 7) (n := 11) (r := (RX7, TX7, 11)) k_28 rfl rfl) (Nat.le_of_ble_eq_true rfl) h rfl (fun r14 μ15 h => ?_)
      refine WP_istore_n (L' := [(2, 28), (0, r7), (0, r14), (9, 0), (9, 0), (9, 0)]) dX7_readNaming_81 rfl (by decide) rfl ?_
      refine WP_aload_n dX7_readNaming_82 rfl rfl ⟨Nat.le_of_ble_eq_true rfl, Nat.le_of_ble_eq_true rfl⟩ ?_
      refine WP_iconst dX7_readNaming_83 (by decide) ?_
      refine WQ_invVv (v := (2, 28)) (as := [(0, 3)]) dX7_readNaming_84 l_X7_102 mw_X7_expect mi_X7_expect ms_X7_expect mo_X7_expect (rcv (ci := 7) (n := 11) (r := (RX7, TX7, 11)) k_28 rfl rfl) (Nat.le_of_ble_eq_true rfl) h rfl (fun μ17 h => ?_)
      refine WP_aload_n dX7_readNaming_87 rfl rfl ⟨Nat.le_of_ble_eq_true rfl, Nat.le_of_ble_eq_true rfl⟩ ?_
      refine WP_iconst dX7_readNaming_88 (by decide) ?_
      refine WP_bipush dX7_readNaming_89 (by decide +kernel) (by decide) ?_
      refine WQ_invVi (v := (2, 28)) (as := [(0, 0), (0, 99)]) dX7_readNaming_91 l_X7_105 mw_X7_readNumber mi_X7_readNumber ms_X7_readNumber mo_X7_readNumber (rcv (ci := 7) (n := 11) (r := (RX7, TX7, 11)) k_28 rfl rfl) (Nat.le_of_ble_eq_true rfl) h rfl (fun r18 μ19 h => ?_)
      refine WP_istore_n (L' := [(2, 28), (0, r7), (0, r14), (0, r18), (9, 0), (9, 0)]) dX7_readNaming_94 rfl (by decide) rfl ?_
      refine WP_bipush dX7_readNaming_95 (by decide +kernel) (by decide) ?_
      refine WP_istore (L' := [(2, 28), (0, r7), (0, r14), (0, r18), (0, 10), (9, 0)]) dX7_readNaming_97 (by decide) rfl ?_
      refine WP_aload_n dX7_readNaming_99 rfl rfl ⟨Nat.le_of_ble_eq_true rfl, Nat.le_of_ble_eq_true rfl⟩ ?_
      refine WP_getfield (ci := 7) (j := 4) (n := 11) (t := 0) (x := μ19 28 4) dX7_readNaming_100 f_X7_54 k_28 rfl rfl ?_
      refine WQ_nm0 (fun v20 e20 => ?_)
      replace h := h v20 e20
      refine WP_istore (L' := [(2, 28), (0, r7), (0, r14), (0, r18), (0, 10), (0, v20)]) dX7_readNaming_103 (by decide) rfl ?_
      exact h
    · replace h := h.2 c11
      refine WP_aload_n dX7_readNaming_49 rfl rfl ⟨Nat.le_of_ble_eq_true rfl, Nat.le_of_ble_eq_true rfl⟩ ?_
      refine WP_getfield (ci := 7) (j := 7) (n := 11) (t := 2) (x := 31) dX7_readNaming_50 f_X7_22 k_28 rfl rfl ?_
      refine WP_aload_n dX7_readNaming_53 rfl rfl ⟨Nat.le_of_ble_eq_true rfl, Nat.le_of_ble_eq_true rfl⟩ ?_
      refine WP_getfield (ci := 7) (j := 8) (n := 11) (t := 0) (x := μ10 28 8) dX7_readNaming_54 f_X7_42 k_28 rfl rfl ?_
      obtain ⟨g21, h⟩ := h
      refine WP_iaload (n := 901) dX7_readNaming_57 k_31 g21 ?_
      refine WP_iload_n dX7_readNaming_58 rfl rfl ?_
      refine WQ_icmp_ne (tgt := 67) dX7_readNaming_59 (by decide) (fun c22 => ?_) (fun c22 => ?_)
      · replace h := h.1 c22
        refine WP_aload_n dX7_readNaming_67 rfl rfl ⟨Nat.le_of_ble_eq_true rfl, Nat.le_of_ble_eq_true rfl⟩ ?_
        refine WP_iconst dX7_readNaming_68 (by decide) ?_
        refine WP_aload_n dX7_readNaming_69 rfl rfl ⟨Nat.le_of_ble_eq_true rfl, Nat.le_of_ble_eq_true rfl⟩ ?_
        refine WP_getfield (ci := 7) (j := 3) (n := 11) (t := 2) (x := μ10 28 3) dX7_readNaming_70 f_X7_29 k_28 rfl rfl ?_
        obtain ⟨g23, h⟩ := h
        refine WP_getfield (ci := 1) (j := 3) (n := 11) (t := 0) (x := μ10 (μ10 28 3) 3) dX7_readNaming_73 f_X7_135 g23 rfl rfl ?_
        refine WP_iconst dX7_readNaming_76 (by decide) ?_
        obtain ⟨g24, h⟩ := h
        refine WP_isub dX7_readNaming_77 g24 ?_
        refine WQ_invVi (v := (2, 28)) (as := [(0, 0), (0, (μ10 (μ10 28 3) 3) - 1)]) dX7_readNaming_78 l_X7_105 mw_X7_readNumber mi_X7_readNumber ms_X7_readNumber mo_X7_readNumber (rcv (ci := 7) (n := 11) (r := (RX7, TX7, 11)) k_28 rfl rfl) (Nat.le_of_ble_eq_true rfl) h rfl (fun r25 μ26 h => ?_)
        refine WP_istore_n (L' := [(2, 28), (0, r7), (0, r25), (9, 0), (9, 0), (9, 0)]) dX7_readNaming_81 rfl (by decide) rfl ?_
        refine WP_aload_n dX7_readNaming_82 rfl rfl ⟨Nat.le_of_ble_eq_true rfl, Nat.le_of_ble_eq_true rfl⟩ ?_
        refine WP_iconst dX7_readNaming_83 (by decide) ?_
        refine WQ_invVv (v := (2, 28)) (as := [(0, 3)]) dX7_readNaming_84 l_X7_102 mw_X7_expect mi_X7_expect ms_X7_expect mo_X7_expect (rcv (ci := 7) (n := 11) (r := (RX7, TX7, 11)) k_28 rfl rfl) (Nat.le_of_ble_eq_true rfl) h rfl (fun μ28 h => ?_)
        refine WP_aload_n dX7_readNaming_87 rfl rfl ⟨Nat.le_of_ble_eq_true rfl, Nat.le_of_ble_eq_true rfl⟩ ?_
        refine WP_iconst dX7_readNaming_88 (by decide) ?_
        refine WP_bipush dX7_readNaming_89 (by decide +kernel) (by decide) ?_
        refine WQ_invVi (v := (2, 28)) (as := [(0, 0), (0, 99)]) dX7_readNaming_91 l_X7_105 mw_X7_readNumber mi_X7_readNumber ms_X7_readNumber mo_X7_readNumber (rcv (ci := 7) (n := 11) (r := (RX7, TX7, 11)) k_28 rfl rfl) (Nat.le_of_ble_eq_true rfl) h rfl (fun r29 μ30 h => ?_)
        refine WP_istore_n (L' := [(2, 28), (0, r7), (0, r25), (0, r29), (9, 0), (9, 0)]) dX7_readNaming_94 rfl (by decide) rfl ?_
        refine WP_bipush dX7_readNaming_95 (by decide +kernel) (by decide) ?_
        refine WP_istore (L' := [(2, 28), (0, r7), (0, r25), (0, r29), (0, 10), (9, 0)]) dX7_readNaming_97 (by decide) rfl ?_
        refine WP_aload_n dX7_readNaming_99 rfl rfl ⟨Nat.le_of_ble_eq_true rfl, Nat.le_of_ble_eq_true rfl⟩ ?_
        refine WP_getfield (ci := 7) (j := 4) (n := 11) (t := 0) (x := μ30 28 4) dX7_readNaming_100 f_X7_54 k_28 rfl rfl ?_
        refine WQ_nm0 (fun v31 e31 => ?_)
        replace h := h v31 e31
        refine WP_istore (L' := [(2, 28), (0, r7), (0, r25), (0, r29), (0, 10), (0, v31)]) dX7_readNaming_103 (by decide) rfl ?_
        exact h
      · replace h := h.2 c22
        refine WP_aload_n dX7_readNaming_62 rfl rfl ⟨Nat.le_of_ble_eq_true rfl, Nat.le_of_ble_eq_true rfl⟩ ?_
        refine WP_iconst dX7_readNaming_63 (by decide) ?_
        refine WQ_invVv (v := (2, 28)) (as := [(0, 3)]) dX7_readNaming_64 l_X7_99 mw_X7_fail mi_X7_fail ms_X7_fail mo_X7_fail (rcv (ci := 7) (n := 11) (r := (RX7, TX7, 11)) k_28 rfl rfl) (Nat.le_of_ble_eq_true rfl) h rfl (fun μ33 h => ?_)
        refine WP_aload_n dX7_readNaming_67 rfl rfl ⟨Nat.le_of_ble_eq_true rfl, Nat.le_of_ble_eq_true rfl⟩ ?_
        refine WP_iconst dX7_readNaming_68 (by decide) ?_
        refine WP_aload_n dX7_readNaming_69 rfl rfl ⟨Nat.le_of_ble_eq_true rfl, Nat.le_of_ble_eq_true rfl⟩ ?_
        refine WP_getfield (ci := 7) (j := 3) (n := 11) (t := 2) (x := μ33 28 3) dX7_readNaming_70 f_X7_29 k_28 rfl rfl ?_
        obtain ⟨g34, h⟩ := h
        refine WP_getfield (ci := 1) (j := 3) (n := 11) (t := 0) (x := μ33 (μ33 28 3) 3) dX7_readNaming_73 f_X7_135 g34 rfl rfl ?_
        refine WP_iconst dX7_readNaming_76 (by decide) ?_
        obtain ⟨g35, h⟩ := h
        refine WP_isub dX7_readNaming_77 g35 ?_
        refine WQ_invVi (v := (2, 28)) (as := [(0, 0), (0, (μ33 (μ33 28 3) 3) - 1)]) dX7_readNaming_78 l_X7_105 mw_X7_readNumber mi_X7_readNumber ms_X7_readNumber mo_X7_readNumber (rcv (ci := 7) (n := 11) (r := (RX7, TX7, 11)) k_28 rfl rfl) (Nat.le_of_ble_eq_true rfl) h rfl (fun r36 μ37 h => ?_)
        refine WP_istore_n (L' := [(2, 28), (0, r7), (0, r36), (9, 0), (9, 0), (9, 0)]) dX7_readNaming_81 rfl (by decide) rfl ?_
        refine WP_aload_n dX7_readNaming_82 rfl rfl ⟨Nat.le_of_ble_eq_true rfl, Nat.le_of_ble_eq_true rfl⟩ ?_
        refine WP_iconst dX7_readNaming_83 (by decide) ?_
        refine WQ_invVv (v := (2, 28)) (as := [(0, 3)]) dX7_readNaming_84 l_X7_102 mw_X7_expect mi_X7_expect ms_X7_expect mo_X7_expect (rcv (ci := 7) (n := 11) (r := (RX7, TX7, 11)) k_28 rfl rfl) (Nat.le_of_ble_eq_true rfl) h rfl (fun μ39 h => ?_)
        refine WP_aload_n dX7_readNaming_87 rfl rfl ⟨Nat.le_of_ble_eq_true rfl, Nat.le_of_ble_eq_true rfl⟩ ?_
        refine WP_iconst dX7_readNaming_88 (by decide) ?_
        refine WP_bipush dX7_readNaming_89 (by decide +kernel) (by decide) ?_
        refine WQ_invVi (v := (2, 28)) (as := [(0, 0), (0, 99)]) dX7_readNaming_91 l_X7_105 mw_X7_readNumber mi_X7_readNumber ms_X7_readNumber mo_X7_readNumber (rcv (ci := 7) (n := 11) (r := (RX7, TX7, 11)) k_28 rfl rfl) (Nat.le_of_ble_eq_true rfl) h rfl (fun r40 μ41 h => ?_)
        refine WP_istore_n (L' := [(2, 28), (0, r7), (0, r36), (0, r40), (9, 0), (9, 0)]) dX7_readNaming_94 rfl (by decide) rfl ?_
        refine WP_bipush dX7_readNaming_95 (by decide +kernel) (by decide) ?_
        refine WP_istore (L' := [(2, 28), (0, r7), (0, r36), (0, r40), (0, 10), (9, 0)]) dX7_readNaming_97 (by decide) rfl ?_
        refine WP_aload_n dX7_readNaming_99 rfl rfl ⟨Nat.le_of_ble_eq_true rfl, Nat.le_of_ble_eq_true rfl⟩ ?_
        refine WP_getfield (ci := 7) (j := 4) (n := 11) (t := 0) (x := μ41 28 4) dX7_readNaming_100 f_X7_54 k_28 rfl rfl ?_
        refine WQ_nm0 (fun v42 e42 => ?_)
        replace h := h v42 e42
        refine WP_istore (L' := [(2, 28), (0, r7), (0, r36), (0, r40), (0, 10), (0, v42)]) dX7_readNaming_103 (by decide) rfl ?_
        exact h
  · replace h := h.2 c2
    refine WP_aload_n dX7_readNaming_15 rfl rfl ⟨Nat.le_of_ble_eq_true rfl, Nat.le_of_ble_eq_true rfl⟩ ?_
    refine WP_iconst dX7_readNaming_16 (by decide) ?_
    refine WQ_invVv (v := (2, 28)) (as := [(0, 4)]) dX7_readNaming_17 l_X7_99 mw_X7_fail mi_X7_fail ms_X7_fail mo_X7_fail (rcv (ci := 7) (n := 11) (r := (RX7, TX7, 11)) k_28 rfl rfl) (Nat.le_of_ble_eq_true rfl) h rfl (fun μ44 h => ?_)
    exact WQ_return dX7_readNaming_20 rfl h

theorem s_X7_readNaming_105 {d : Nat} {sc : SC} {Q : Mem → Prop} {μ : Mem} {x1 x2 x3 x4 x5 : Int}
    (h : (x5 ≤ 0 → isK 1 (μ 28 3) ∧ CAv mX6_add d sc [(2, μ 28 3 + 7), (0, x1), (0, x2), (0, x3), (0, x4)] μ (fun μ4 => Q μ4)) ∧ (0 < x5 → CAi mX7_isAt d sc [(2, 28), (0, 4)] μ (fun r5 μ6 => (r5 = 0 → isK 1 (μ6 28 3) ∧ CAv mX6_add d sc [(2, μ6 28 3 + 7), (0, x1), (0, x2), (0, x3), (0, x4)] μ6 (fun μ10 => Q μ10)) ∧ (r5 ≠ 0 → CAv mX7_step d sc [(2, 28)] μ6 (fun μ12 => CAi mX7_readNumber d sc [(2, 28), (0, 0), (0, 10)] μ12 (fun r13 μ14 => (-2147483648 ≤ x5 + (-1) ∧ x5 + (-1) < 2147483648) ∧ ∀ v16 : Int, v16 = x5 + (-1) → WQ mX7_readNaming d sc (ZV sc Q) 105 [(2, 28), (0, x1), (0, x2), (0, x3), (0, r13), (0, v16)] [] μ14)))))) :
    WQ mX7_readNaming d sc (ZV sc Q) 105 [(2, 28), (0, x1), (0, x2), (0, x3), (0, x4), (0, x5)] [] μ := by
  refine WP_iload dX7_readNaming_105 rfl ?_
  refine WQ_ifle (tgt := 137) dX7_readNaming_107 (by decide) (fun c1 => ?_) (fun c1 => ?_)
  · replace h := h.1 c1
    refine WP_aload_n dX7_readNaming_137 rfl rfl ⟨Nat.le_of_ble_eq_true rfl, Nat.le_of_ble_eq_true rfl⟩ ?_
    refine WP_getfield (ci := 7) (j := 3) (n := 11) (t := 2) (x := μ 28 3) dX7_readNaming_138 f_X7_29 k_28 rfl rfl ?_
    obtain ⟨g2, h⟩ := h
    refine WP_getfield (ci := 1) (j := 10) (n := 11) (t := 2) (x := μ 28 3 + 7) dX7_readNaming_141 f_X7_123 g2 rfl rfl ?_
    refine WP_iload_n dX7_readNaming_144 rfl rfl ?_
    refine WP_iload_n dX7_readNaming_145 rfl rfl ?_
    refine WP_iload_n dX7_readNaming_146 rfl rfl ?_
    refine WP_iload dX7_readNaming_147 rfl ?_
    refine WQ_invVv (v := (2, μ 28 3 + 7)) (as := [(0, x1), (0, x2), (0, x3), (0, x4)]) dX7_readNaming_149 l_X7_157 mw_X6_add mi_X6_add ms_X6_add mo_X6_add (rcv (ci := 6) (n := 7) (r := (RX6, TX6, 7)) (kf_1_10 g2) rfl rfl) (Nat.le_of_ble_eq_true rfl) h rfl (fun μ4 h => ?_)
    exact WQ_return dX7_readNaming_152 rfl h
  · replace h := h.2 c1
    refine WP_aload_n dX7_readNaming_110 rfl rfl ⟨Nat.le_of_ble_eq_true rfl, Nat.le_of_ble_eq_true rfl⟩ ?_
    refine WP_iconst dX7_readNaming_111 (by decide) ?_
    refine WQ_invVi (v := (2, 28)) (as := [(0, 4)]) dX7_readNaming_112 l_X7_93 mw_X7_isAt mi_X7_isAt ms_X7_isAt mo_X7_isAt (rcv (ci := 7) (n := 11) (r := (RX7, TX7, 11)) k_28 rfl rfl) (Nat.le_of_ble_eq_true rfl) h rfl (fun r5 μ6 h => ?_)
    refine WQ_ifeq (tgt := 137) dX7_readNaming_115 (by decide) (fun c7 => ?_) (fun c7 => ?_)
    · replace h := h.1 c7
      refine WP_aload_n dX7_readNaming_137 rfl rfl ⟨Nat.le_of_ble_eq_true rfl, Nat.le_of_ble_eq_true rfl⟩ ?_
      refine WP_getfield (ci := 7) (j := 3) (n := 11) (t := 2) (x := μ6 28 3) dX7_readNaming_138 f_X7_29 k_28 rfl rfl ?_
      obtain ⟨g8, h⟩ := h
      refine WP_getfield (ci := 1) (j := 10) (n := 11) (t := 2) (x := μ6 28 3 + 7) dX7_readNaming_141 f_X7_123 g8 rfl rfl ?_
      refine WP_iload_n dX7_readNaming_144 rfl rfl ?_
      refine WP_iload_n dX7_readNaming_145 rfl rfl ?_
      refine WP_iload_n dX7_readNaming_146 rfl rfl ?_
      refine WP_iload dX7_readNaming_147 rfl ?_
      refine WQ_invVv (v := (2, μ6 28 3 + 7)) (as := [(0, x1), (0, x2), (0, x3), (0, x4)]) dX7_readNaming_149 l_X7_157 mw_X6_add mi_X6_add ms_X6_add mo_X6_add (rcv (ci := 6) (n := 7) (r := (RX6, TX6, 7)) (kf_1_10 g8) rfl rfl) (Nat.le_of_ble_eq_true rfl) h rfl (fun μ10 h => ?_)
      exact WQ_return dX7_readNaming_152 rfl h
    · replace h := h.2 c7
      refine WP_aload_n dX7_readNaming_118 rfl rfl ⟨Nat.le_of_ble_eq_true rfl, Nat.le_of_ble_eq_true rfl⟩ ?_
      refine WQ_invVv (v := (2, 28)) (as := []) dX7_readNaming_119 l_X7_96 mw_X7_step mi_X7_step ms_X7_step mo_X7_step (rcv (ci := 7) (n := 11) (r := (RX7, TX7, 11)) k_28 rfl rfl) (Nat.le_of_ble_eq_true rfl) h rfl (fun μ12 h => ?_)
      refine WP_aload_n dX7_readNaming_122 rfl rfl ⟨Nat.le_of_ble_eq_true rfl, Nat.le_of_ble_eq_true rfl⟩ ?_
      refine WP_iconst dX7_readNaming_123 (by decide) ?_
      refine WP_bipush dX7_readNaming_124 (by decide +kernel) (by decide) ?_
      refine WQ_invVi (v := (2, 28)) (as := [(0, 0), (0, 10)]) dX7_readNaming_126 l_X7_105 mw_X7_readNumber mi_X7_readNumber ms_X7_readNumber mo_X7_readNumber (rcv (ci := 7) (n := 11) (r := (RX7, TX7, 11)) k_28 rfl rfl) (Nat.le_of_ble_eq_true rfl) h rfl (fun r13 μ14 h => ?_)
      refine WP_istore (L' := [(2, 28), (0, x1), (0, x2), (0, x3), (0, r13), (0, x5)]) dX7_readNaming_129 (by decide) rfl ?_
      obtain ⟨g15, h⟩ := h
      refine WQ_iinc dX7_readNaming_131 rfl (by decide) g15 (fun v16 e16 => ?_)
      refine WP_same (L' := [(2, 28), (0, x1), (0, x2), (0, x3), (0, r13), (0, v16)]) rfl ?_
      replace h := h v16 e16
      refine WP_goto (tgt := 105) dX7_readNaming_134 (by decide) ?_
      exact h

theorem s_X7_readNumber_0 {d : Nat} {sc : SC} {Q : Int → Mem → Prop} {μ : Mem} {a1 a2 : Int}
    (h : CAi mX7_isAt d sc [(2, 28), (0, 50)] μ (fun r1 μ2 => (r1 ≠ 0 → (0 ≤ μ2 28 8 ∧ μ2 28 8 < 901) ∧ (∀ v5 : Int, v5 = μ2 31 (μ2 28 8) → (v5 < a1 → CAv mX7_fail d sc [(2, 28), (0, 3)] μ2 (fun μ8 => Q 0 μ8)) ∧ (a1 ≤ v5 → (v5 ≤ a2 → CAv mX7_step d sc [(2, 28)] μ2 (fun μ11 => Q v5 μ11)) ∧ (a2 < v5 → CAv mX7_fail d sc [(2, 28), (0, 3)] μ2 (fun μ13 => Q 0 μ13))))) ∧ (r1 = 0 → CAv mX7_fail d sc [(2, 28), (0, 2)] μ2 (fun μ15 => Q 0 μ15)))) :
    WQ mX7_readNumber d sc (ZI sc Q) 0 [(2, 28), (0, a1), (0, a2), (9, 0)] [] μ := by
  refine WP_aload_n dX7_readNumber_0 rfl rfl ⟨Nat.le_of_ble_eq_true rfl, Nat.le_of_ble_eq_true rfl⟩ ?_
  refine WP_bipush dX7_readNumber_1 (by decide +kernel) (by decide) ?_
  refine WQ_invVi (v := (2, 28)) (as := [(0, 50)]) dX7_readNumber_3 l_X7_93 mw_X7_isAt mi_X7_isAt ms_X7_isAt mo_X7_isAt (rcv (ci := 7) (n := 11) (r := (RX7, TX7, 11)) k_28 rfl rfl) (Nat.le_of_ble_eq_true rfl) h rfl (fun r1 μ2 h => ?_)
  refine WQ_ifne (tgt := 16) dX7_readNumber_6 (by decide) (fun c3 => ?_) (fun c3 => ?_)
  · replace h := h.1 c3
    refine WP_aload_n dX7_readNumber_16 rfl rfl ⟨Nat.le_of_ble_eq_true rfl, Nat.le_of_ble_eq_true rfl⟩ ?_
    refine WP_getfield (ci := 7) (j := 7) (n := 11) (t := 2) (x := 31) dX7_readNumber_17 f_X7_22 k_28 rfl rfl ?_
    refine WP_aload_n dX7_readNumber_20 rfl rfl ⟨Nat.le_of_ble_eq_true rfl, Nat.le_of_ble_eq_true rfl⟩ ?_
    refine WP_getfield (ci := 7) (j := 8) (n := 11) (t := 0) (x := μ2 28 8) dX7_readNumber_21 f_X7_42 k_28 rfl rfl ?_
    obtain ⟨g4, h⟩ := h
    refine WP_iaload (n := 901) dX7_readNumber_24 k_31 g4 ?_
    refine WQ_nm0 (fun v5 e5 => ?_)
    replace h := h v5 e5
    refine WP_istore_n (L' := [(2, 28), (0, a1), (0, a2), (0, v5)]) dX7_readNumber_25 rfl (by decide) rfl ?_
    refine WP_iload_n dX7_readNumber_26 rfl rfl ?_
    refine WP_iload_n dX7_readNumber_27 rfl rfl ?_
    refine WQ_icmp_lt (tgt := 36) dX7_readNumber_28 (by decide) (fun c6 => ?_) (fun c6 => ?_)
    · replace h := h.1 c6
      refine WP_aload_n dX7_readNumber_36 rfl rfl ⟨Nat.le_of_ble_eq_true rfl, Nat.le_of_ble_eq_true rfl⟩ ?_
      refine WP_iconst dX7_readNumber_37 (by decide) ?_
      refine WQ_invVv (v := (2, 28)) (as := [(0, 3)]) dX7_readNumber_38 l_X7_99 mw_X7_fail mi_X7_fail ms_X7_fail mo_X7_fail (rcv (ci := 7) (n := 11) (r := (RX7, TX7, 11)) k_28 rfl rfl) (Nat.le_of_ble_eq_true rfl) h rfl (fun μ8 h => ?_)
      refine WP_iconst dX7_readNumber_41 (by decide) ?_
      exact WQ_ireturn dX7_readNumber_42 rfl h
    · replace h := h.2 c6
      refine WP_iload_n dX7_readNumber_31 rfl rfl ?_
      refine WP_iload_n dX7_readNumber_32 rfl rfl ?_
      refine WQ_icmp_le (tgt := 43) dX7_readNumber_33 (by decide) (fun c9 => ?_) (fun c9 => ?_)
      · replace h := h.1 c9
        refine WP_aload_n dX7_readNumber_43 rfl rfl ⟨Nat.le_of_ble_eq_true rfl, Nat.le_of_ble_eq_true rfl⟩ ?_
        refine WQ_invVv (v := (2, 28)) (as := []) dX7_readNumber_44 l_X7_96 mw_X7_step mi_X7_step ms_X7_step mo_X7_step (rcv (ci := 7) (n := 11) (r := (RX7, TX7, 11)) k_28 rfl rfl) (Nat.le_of_ble_eq_true rfl) h rfl (fun μ11 h => ?_)
        refine WP_iload_n dX7_readNumber_47 rfl rfl ?_
        exact WQ_ireturn dX7_readNumber_48 rfl h
      · replace h := h.2 c9
        refine WP_aload_n dX7_readNumber_36 rfl rfl ⟨Nat.le_of_ble_eq_true rfl, Nat.le_of_ble_eq_true rfl⟩ ?_
        refine WP_iconst dX7_readNumber_37 (by decide) ?_
        refine WQ_invVv (v := (2, 28)) (as := [(0, 3)]) dX7_readNumber_38 l_X7_99 mw_X7_fail mi_X7_fail ms_X7_fail mo_X7_fail (rcv (ci := 7) (n := 11) (r := (RX7, TX7, 11)) k_28 rfl rfl) (Nat.le_of_ble_eq_true rfl) h rfl (fun μ13 h => ?_)
        refine WP_iconst dX7_readNumber_41 (by decide) ?_
        exact WQ_ireturn dX7_readNumber_42 rfl h
  · replace h := h.2 c3
    refine WP_aload_n dX7_readNumber_9 rfl rfl ⟨Nat.le_of_ble_eq_true rfl, Nat.le_of_ble_eq_true rfl⟩ ?_
    refine WP_iconst dX7_readNumber_10 (by decide) ?_
    refine WQ_invVv (v := (2, 28)) (as := [(0, 2)]) dX7_readNumber_11 l_X7_99 mw_X7_fail mi_X7_fail ms_X7_fail mo_X7_fail (rcv (ci := 7) (n := 11) (r := (RX7, TX7, 11)) k_28 rfl rfl) (Nat.le_of_ble_eq_true rfl) h rfl (fun μ15 h => ?_)
    refine WP_iconst dX7_readNumber_14 (by decide) ?_
    exact WQ_ireturn dX7_readNumber_15 rfl h

theorem s_X7_readPerson_0 {d : Nat} {sc : SC} {Q : Mem → Prop} {μ : Mem}
    (h : isK 1 (μ 28 3) ∧ (∀ v2 : Int, v2 = μ (μ 28 3) 3 → (v2 < 6 → CAv mX7_step d sc [(2, 28)] μ (fun μ5 => isK 1 (μ5 28 3) ∧ CAi mX1_cells d sc [(2, μ5 28 3)] μ5 (fun r7 μ8 => (-2147483648 ≤ r7 - 1 ∧ r7 - 1 < 2147483648) ∧ CAi mX7_readNumber d sc [(2, 28), (0, 0), (0, r7 - 1)] μ8 (fun r10 μ11 => (0 ≤ v2 ∧ v2 < 6) ∧ (∀ μ13, μ13 = mup μ11 (μ5 28 3 + 7 + 5) v2 r10 → isK 1 (μ13 28 3) ∧ (0 ≤ v2 ∧ v2 < 6) ∧ (∀ μ16, μ16 = mup μ13 (μ13 28 3 + 1) v2 0 → isK 1 (μ16 28 3) ∧ (0 ≤ v2 ∧ v2 < 6) ∧ (∀ μ19, μ19 = mup μ16 (μ16 28 3 + 2) v2 0 → isK 1 (μ19 28 3) ∧ (0 ≤ v2 ∧ v2 < 6) ∧ (∀ μ22, μ22 = mup μ19 (μ19 28 3 + 3) v2 0 → ∀ v23 : Int, v23 = μ22 28 4 → WQ mX7_readPerson d sc (ZV sc Q) 85 [(2, 28), (0, v2), (0, v23), (9, 0), (9, 0)] [] μ22)))))))) ∧ (6 ≤ v2 → CAv mX7_fail d sc [(2, 28), (0, 4)] μ (fun μ25 => Q μ25)))) :
    WQ mX7_readPerson d sc (ZV sc Q) 0 [(2, 28), (9, 0), (9, 0), (9, 0), (9, 0)] [] μ := by
  refine WP_aload_n dX7_readPerson_0 rfl rfl ⟨Nat.le_of_ble_eq_true rfl, Nat.le_of_ble_eq_true rfl⟩ ?_
  refine WP_getfield (ci := 7) (j := 3) (n := 11) (t := 2) (x := μ 28 3) dX7_readPerson_1 f_X7_29 k_28 rfl rfl ?_
  obtain ⟨g1, h⟩ := h
  refine WP_getfield (ci := 1) (j := 3) (n := 11) (t := 0) (x := μ (μ 28 3) 3) dX7_readPerson_4 f_X7_135 g1 rfl rfl ?_
  refine WQ_nm0 (fun v2 e2 => ?_)
  replace h := h v2 e2
  refine WP_istore_n (L' := [(2, 28), (0, v2), (9, 0), (9, 0), (9, 0)]) dX7_readPerson_7 rfl (by decide) rfl ?_
  refine WP_iload_n dX7_readPerson_8 rfl rfl ?_
  refine WP_bipush dX7_readPerson_9 (by decide +kernel) (by decide) ?_
  refine WQ_icmp_lt (tgt := 20) dX7_readPerson_11 (by decide) (fun c3 => ?_) (fun c3 => ?_)
  · replace h := h.1 c3
    refine WP_aload_n dX7_readPerson_20 rfl rfl ⟨Nat.le_of_ble_eq_true rfl, Nat.le_of_ble_eq_true rfl⟩ ?_
    refine WQ_invVv (v := (2, 28)) (as := []) dX7_readPerson_21 l_X7_96 mw_X7_step mi_X7_step ms_X7_step mo_X7_step (rcv (ci := 7) (n := 11) (r := (RX7, TX7, 11)) k_28 rfl rfl) (Nat.le_of_ble_eq_true rfl) h rfl (fun μ5 h => ?_)
    refine WP_aload_n dX7_readPerson_24 rfl rfl ⟨Nat.le_of_ble_eq_true rfl, Nat.le_of_ble_eq_true rfl⟩ ?_
    refine WP_getfield (ci := 7) (j := 3) (n := 11) (t := 2) (x := μ5 28 3) dX7_readPerson_25 f_X7_29 k_28 rfl rfl ?_
    obtain ⟨g6, h⟩ := h
    refine WP_getfield (ci := 1) (j := 10) (n := 11) (t := 2) (x := μ5 28 3 + 7) dX7_readPerson_28 f_X7_123 g6 rfl rfl ?_
    refine WP_getfield (ci := 6) (j := 5) (n := 7) (t := 2) (x := μ5 28 3 + 7 + 5) dX7_readPerson_31 f_X7_138 (kf_1_10 g6) rfl rfl ?_
    refine WP_iload_n dX7_readPerson_34 rfl rfl ?_
    refine WP_aload_n dX7_readPerson_35 rfl rfl ⟨Nat.le_of_ble_eq_true rfl, Nat.le_of_ble_eq_true rfl⟩ ?_
    refine WP_iconst dX7_readPerson_36 (by decide) ?_
    refine WP_aload_n dX7_readPerson_37 rfl rfl ⟨Nat.le_of_ble_eq_true rfl, Nat.le_of_ble_eq_true rfl⟩ ?_
    refine WP_getfield (ci := 7) (j := 3) (n := 11) (t := 2) (x := μ5 28 3) dX7_readPerson_38 f_X7_29 k_28 rfl rfl ?_
    refine WQ_invVi (v := (2, μ5 28 3)) (as := []) dX7_readPerson_41 l_X7_141 mw_X1_cells mi_X1_cells ms_X1_cells mo_X1_cells (rcv (ci := 1) (n := 11) (r := (RX1, TX1, 11)) g6 rfl rfl) (Nat.le_of_ble_eq_true rfl) h rfl (fun r7 μ8 h => ?_)
    refine WP_iconst dX7_readPerson_44 (by decide) ?_
    obtain ⟨g9, h⟩ := h
    refine WP_isub dX7_readPerson_45 g9 ?_
    refine WQ_invVi (v := (2, 28)) (as := [(0, 0), (0, r7 - 1)]) dX7_readPerson_46 l_X7_105 mw_X7_readNumber mi_X7_readNumber ms_X7_readNumber mo_X7_readNumber (rcv (ci := 7) (n := 11) (r := (RX7, TX7, 11)) k_28 rfl rfl) (Nat.le_of_ble_eq_true rfl) h rfl (fun r10 μ11 h => ?_)
    obtain ⟨g12, h⟩ := h
    refine WQ_iast (n := 6) dX7_readPerson_49 (kf_6_5 (kf_1_10 g6)) g12 (fun μ13 eμ13 => ?_)
    replace h := h μ13 eμ13
    refine WP_aload_n dX7_readPerson_50 rfl rfl ⟨Nat.le_of_ble_eq_true rfl, Nat.le_of_ble_eq_true rfl⟩ ?_
    refine WP_getfield (ci := 7) (j := 3) (n := 11) (t := 2) (x := μ13 28 3) dX7_readPerson_51 f_X7_29 k_28 rfl rfl ?_
    obtain ⟨g14, h⟩ := h
    refine WP_getfield (ci := 1) (j := 4) (n := 11) (t := 2) (x := μ13 28 3 + 1) dX7_readPerson_54 f_X7_145 g14 rfl rfl ?_
    refine WP_iload_n dX7_readPerson_57 rfl rfl ?_
    refine WP_iconst dX7_readPerson_58 (by decide) ?_
    obtain ⟨g15, h⟩ := h
    refine WQ_iast (n := 6) dX7_readPerson_59 (kf_1_4 g14) g15 (fun μ16 eμ16 => ?_)
    replace h := h μ16 eμ16
    refine WP_aload_n dX7_readPerson_60 rfl rfl ⟨Nat.le_of_ble_eq_true rfl, Nat.le_of_ble_eq_true rfl⟩ ?_
    refine WP_getfield (ci := 7) (j := 3) (n := 11) (t := 2) (x := μ16 28 3) dX7_readPerson_61 f_X7_29 k_28 rfl rfl ?_
    obtain ⟨g17, h⟩ := h
    refine WP_getfield (ci := 1) (j := 5) (n := 11) (t := 2) (x := μ16 28 3 + 2) dX7_readPerson_64 f_X7_148 g17 rfl rfl ?_
    refine WP_iload_n dX7_readPerson_67 rfl rfl ?_
    refine WP_iconst dX7_readPerson_68 (by decide) ?_
    obtain ⟨g18, h⟩ := h
    refine WQ_iast (n := 6) dX7_readPerson_69 (kf_1_5 g17) g18 (fun μ19 eμ19 => ?_)
    replace h := h μ19 eμ19
    refine WP_aload_n dX7_readPerson_70 rfl rfl ⟨Nat.le_of_ble_eq_true rfl, Nat.le_of_ble_eq_true rfl⟩ ?_
    refine WP_getfield (ci := 7) (j := 3) (n := 11) (t := 2) (x := μ19 28 3) dX7_readPerson_71 f_X7_29 k_28 rfl rfl ?_
    obtain ⟨g20, h⟩ := h
    refine WP_getfield (ci := 1) (j := 6) (n := 11) (t := 2) (x := μ19 28 3 + 3) dX7_readPerson_74 f_X7_151 g20 rfl rfl ?_
    refine WP_iload_n dX7_readPerson_77 rfl rfl ?_
    refine WP_iconst dX7_readPerson_78 (by decide) ?_
    obtain ⟨g21, h⟩ := h
    refine WQ_iast (n := 6) dX7_readPerson_79 (kf_1_6 g20) g21 (fun μ22 eμ22 => ?_)
    replace h := h μ22 eμ22
    refine WP_aload_n dX7_readPerson_80 rfl rfl ⟨Nat.le_of_ble_eq_true rfl, Nat.le_of_ble_eq_true rfl⟩ ?_
    refine WP_getfield (ci := 7) (j := 4) (n := 11) (t := 0) (x := μ22 28 4) dX7_readPerson_81 f_X7_54 k_28 rfl rfl ?_
    refine WQ_nm0 (fun v23 e23 => ?_)
    replace h := h v23 e23
    refine WP_istore_n (L' := [(2, 28), (0, v2), (0, v23), (9, 0), (9, 0)]) dX7_readPerson_84 rfl (by decide) rfl ?_
    exact h
  · replace h := h.2 c3
    refine WP_aload_n dX7_readPerson_14 rfl rfl ⟨Nat.le_of_ble_eq_true rfl, Nat.le_of_ble_eq_true rfl⟩ ?_
    refine WP_iconst dX7_readPerson_15 (by decide) ?_
    refine WQ_invVv (v := (2, 28)) (as := [(0, 4)]) dX7_readPerson_16 l_X7_99 mw_X7_fail mi_X7_fail ms_X7_fail mo_X7_fail (rcv (ci := 7) (n := 11) (r := (RX7, TX7, 11)) k_28 rfl rfl) (Nat.le_of_ble_eq_true rfl) h rfl (fun μ25 h => ?_)
    exact WQ_return dX7_readPerson_19 rfl h

theorem s_X7_readPerson_85 {d : Nat} {sc : SC} {Q : Mem → Prop} {μ : Mem} {x1 x2 : Int}
    (h : (x2 ≤ 0 → isK 1 (μ 28 3) ∧ (-2147483648 ≤ (μ (μ 28 3) 3) + 1 ∧ (μ (μ 28 3) 3) + 1 < 2147483648) ∧ (∀ μ4, μ4 = mup μ (μ 28 3) 3 ((μ (μ 28 3) 3) + 1) → Q μ4)) ∧ (0 < x2 → CAi mX7_isAt d sc [(2, 28), (0, 16)] μ (fun r5 μ6 => (r5 ≠ 0 → WQ mX7_readPerson d sc (ZV sc Q) 116 [(2, 28), (0, x1), (0, x2), (9, 0), (9, 0)] [] μ6) ∧ (r5 = 0 → CAi mX7_isAt d sc [(2, 28), (0, 17)] μ6 (fun r8 μ9 => (r8 ≠ 0 → WQ mX7_readPerson d sc (ZV sc Q) 116 [(2, 28), (0, x1), (0, x2), (9, 0), (9, 0)] [] μ9) ∧ (r8 = 0 → CAi mX7_isAt d sc [(2, 28), (0, 18)] μ9 (fun r11 μ12 => (r11 = 0 → isK 1 (μ12 28 3) ∧ (-2147483648 ≤ (μ12 (μ12 28 3) 3) + 1 ∧ (μ12 (μ12 28 3) 3) + 1 < 2147483648) ∧ (∀ μ16, μ16 = mup μ12 (μ12 28 3) 3 ((μ12 (μ12 28 3) 3) + 1) → Q μ16)) ∧ (r11 ≠ 0 → WQ mX7_readPerson d sc (ZV sc Q) 116 [(2, 28), (0, x1), (0, x2), (9, 0), (9, 0)] [] μ12)))))))) :
    WQ mX7_readPerson d sc (ZV sc Q) 85 [(2, 28), (0, x1), (0, x2), (9, 0), (9, 0)] [] μ := by
  refine WP_iload_n dX7_readPerson_85 rfl rfl ?_
  refine WQ_ifle (tgt := 196) dX7_readPerson_86 (by decide) (fun c1 => ?_) (fun c1 => ?_)
  · replace h := h.1 c1
    refine WP_aload_n dX7_readPerson_196 rfl rfl ⟨Nat.le_of_ble_eq_true rfl, Nat.le_of_ble_eq_true rfl⟩ ?_
    refine WP_getfield (ci := 7) (j := 3) (n := 11) (t := 2) (x := μ 28 3) dX7_readPerson_197 f_X7_29 k_28 rfl rfl ?_
    refine WP_dup dX7_readPerson_200 (by simp) ?_
    obtain ⟨g2, h⟩ := h
    refine WP_getfield (ci := 1) (j := 3) (n := 11) (t := 0) (x := μ (μ 28 3) 3) dX7_readPerson_201 f_X7_135 g2 rfl rfl ?_
    refine WP_iconst dX7_readPerson_204 (by decide) ?_
    obtain ⟨g3, h⟩ := h
    refine WP_iadd dX7_readPerson_205 g3 ?_
    refine WQ_put (ci := 1) (j := 3) (n := 11) dX7_readPerson_206 f_X7_135 g2 rfl (fun μ4 eμ4 => ?_)
    replace h := h μ4 eμ4
    exact WQ_return dX7_readPerson_209 rfl h
  · replace h := h.2 c1
    refine WP_aload_n dX7_readPerson_89 rfl rfl ⟨Nat.le_of_ble_eq_true rfl, Nat.le_of_ble_eq_true rfl⟩ ?_
    refine WP_bipush dX7_readPerson_90 (by decide +kernel) (by decide) ?_
    refine WQ_invVi (v := (2, 28)) (as := [(0, 16)]) dX7_readPerson_92 l_X7_93 mw_X7_isAt mi_X7_isAt ms_X7_isAt mo_X7_isAt (rcv (ci := 7) (n := 11) (r := (RX7, TX7, 11)) k_28 rfl rfl) (Nat.le_of_ble_eq_true rfl) h rfl (fun r5 μ6 h => ?_)
    refine WQ_ifne (tgt := 116) dX7_readPerson_95 (by decide) (fun c7 => ?_) (fun c7 => ?_)
    · replace h := h.1 c7
      exact h
    · replace h := h.2 c7
      refine WP_aload_n dX7_readPerson_98 rfl rfl ⟨Nat.le_of_ble_eq_true rfl, Nat.le_of_ble_eq_true rfl⟩ ?_
      refine WP_bipush dX7_readPerson_99 (by decide +kernel) (by decide) ?_
      refine WQ_invVi (v := (2, 28)) (as := [(0, 17)]) dX7_readPerson_101 l_X7_93 mw_X7_isAt mi_X7_isAt ms_X7_isAt mo_X7_isAt (rcv (ci := 7) (n := 11) (r := (RX7, TX7, 11)) k_28 rfl rfl) (Nat.le_of_ble_eq_true rfl) h rfl (fun r8 μ9 h => ?_)
      refine WQ_ifne (tgt := 116) dX7_readPerson_104 (by decide) (fun c10 => ?_) (fun c10 => ?_)
      · replace h := h.1 c10
        exact h
      · replace h := h.2 c10
        refine WP_aload_n dX7_readPerson_107 rfl rfl ⟨Nat.le_of_ble_eq_true rfl, Nat.le_of_ble_eq_true rfl⟩ ?_
        refine WP_bipush dX7_readPerson_108 (by decide +kernel) (by decide) ?_
        refine WQ_invVi (v := (2, 28)) (as := [(0, 18)]) dX7_readPerson_110 l_X7_93 mw_X7_isAt mi_X7_isAt ms_X7_isAt mo_X7_isAt (rcv (ci := 7) (n := 11) (r := (RX7, TX7, 11)) k_28 rfl rfl) (Nat.le_of_ble_eq_true rfl) h rfl (fun r11 μ12 h => ?_)
        refine WQ_ifeq (tgt := 196) dX7_readPerson_113 (by decide) (fun c13 => ?_) (fun c13 => ?_)
        · replace h := h.1 c13
          refine WP_aload_n dX7_readPerson_196 rfl rfl ⟨Nat.le_of_ble_eq_true rfl, Nat.le_of_ble_eq_true rfl⟩ ?_
          refine WP_getfield (ci := 7) (j := 3) (n := 11) (t := 2) (x := μ12 28 3) dX7_readPerson_197 f_X7_29 k_28 rfl rfl ?_
          refine WP_dup dX7_readPerson_200 (by simp) ?_
          obtain ⟨g14, h⟩ := h
          refine WP_getfield (ci := 1) (j := 3) (n := 11) (t := 0) (x := μ12 (μ12 28 3) 3) dX7_readPerson_201 f_X7_135 g14 rfl rfl ?_
          refine WP_iconst dX7_readPerson_204 (by decide) ?_
          obtain ⟨g15, h⟩ := h
          refine WP_iadd dX7_readPerson_205 g15 ?_
          refine WQ_put (ci := 1) (j := 3) (n := 11) dX7_readPerson_206 f_X7_135 g14 rfl (fun μ16 eμ16 => ?_)
          replace h := h μ16 eμ16
          exact WQ_return dX7_readPerson_209 rfl h
        · replace h := h.2 c13
          exact h

theorem s_X7_readPerson_116 {d : Nat} {sc : SC} {Q : Mem → Prop} {μ : Mem} {x1 x2 : Int}
    (h : (0 ≤ μ 28 8 ∧ μ 28 8 < 901) ∧ (∀ v2 : Int, v2 = μ 29 (μ 28 8) → CAv mX7_step d sc [(2, 28)] μ (fun μ4 => CAi mX7_readNumber d sc [(2, 28), (0, 0), (0, 9)] μ4 (fun r5 μ6 => (v2 ≠ 16 → (v2 ≠ 17 → isK 1 (μ6 28 3) ∧ (0 ≤ x1 ∧ x1 < 6) ∧ (∀ μ11, μ11 = mup μ6 (μ6 28 3 + 3) x1 r5 → (-2147483648 ≤ x2 + (-1) ∧ x2 + (-1) < 2147483648) ∧ ∀ v13 : Int, v13 = x2 + (-1) → WQ mX7_readPerson d sc (ZV sc Q) 85 [(2, 28), (0, x1), (0, v13), (9, 0), (9, 0)] [] μ11)) ∧ (v2 = 17 → isK 1 (μ6 28 3) ∧ (0 ≤ x1 ∧ x1 < 6) ∧ (∀ μ16, μ16 = mup μ6 (μ6 28 3 + 2) x1 r5 → (-2147483648 ≤ x2 + (-1) ∧ x2 + (-1) < 2147483648) ∧ ∀ v18 : Int, v18 = x2 + (-1) → WQ mX7_readPerson d sc (ZV sc Q) 85 [(2, 28), (0, x1), (0, v18), (9, 0), (9, 0)] [] μ16))) ∧ (v2 = 16 → isK 1 (μ6 28 3) ∧ (0 ≤ x1 ∧ x1 < 6) ∧ (∀ μ21, μ21 = mup μ6 (μ6 28 3 + 1) x1 r5 → (-2147483648 ≤ x2 + (-1) ∧ x2 + (-1) < 2147483648) ∧ ∀ v23 : Int, v23 = x2 + (-1) → WQ mX7_readPerson d sc (ZV sc Q) 85 [(2, 28), (0, x1), (0, v23), (9, 0), (9, 0)] [] μ21)))))) :
    WQ mX7_readPerson d sc (ZV sc Q) 116 [(2, 28), (0, x1), (0, x2), (9, 0), (9, 0)] [] μ := by
  refine WP_aload_n dX7_readPerson_116 rfl rfl ⟨Nat.le_of_ble_eq_true rfl, Nat.le_of_ble_eq_true rfl⟩ ?_
  refine WP_getfield (ci := 7) (j := 5) (n := 11) (t := 2) (x := 29) dX7_readPerson_117 f_X7_15 k_28 rfl rfl ?_
  refine WP_aload_n dX7_readPerson_120 rfl rfl ⟨Nat.le_of_ble_eq_true rfl, Nat.le_of_ble_eq_true rfl⟩ ?_
  refine WP_getfield (ci := 7) (j := 8) (n := 11) (t := 0) (x := μ 28 8) dX7_readPerson_121 f_X7_42 k_28 rfl rfl ?_
  obtain ⟨g1, h⟩ := h
  refine WP_iaload (n := 901) dX7_readPerson_124 k_29 g1 ?_
  refine WQ_nm0 (fun v2 e2 => ?_)
  replace h := h v2 e2
  refine WP_istore_n (L' := [(2, 28), (0, x1), (0, x2), (0, v2), (9, 0)]) dX7_readPerson_125 rfl (by decide) rfl ?_
  refine WP_aload_n dX7_readPerson_126 rfl rfl ⟨Nat.le_of_ble_eq_true rfl, Nat.le_of_ble_eq_true rfl⟩ ?_
  refine WQ_invVv (v := (2, 28)) (as := []) dX7_readPerson_127 l_X7_96 mw_X7_step mi_X7_step ms_X7_step mo_X7_step (rcv (ci := 7) (n := 11) (r := (RX7, TX7, 11)) k_28 rfl rfl) (Nat.le_of_ble_eq_true rfl) h rfl (fun μ4 h => ?_)
  refine WP_aload_n dX7_readPerson_130 rfl rfl ⟨Nat.le_of_ble_eq_true rfl, Nat.le_of_ble_eq_true rfl⟩ ?_
  refine WP_iconst dX7_readPerson_131 (by decide) ?_
  refine WP_bipush dX7_readPerson_132 (by decide +kernel) (by decide) ?_
  refine WQ_invVi (v := (2, 28)) (as := [(0, 0), (0, 9)]) dX7_readPerson_134 l_X7_105 mw_X7_readNumber mi_X7_readNumber ms_X7_readNumber mo_X7_readNumber (rcv (ci := 7) (n := 11) (r := (RX7, TX7, 11)) k_28 rfl rfl) (Nat.le_of_ble_eq_true rfl) h rfl (fun r5 μ6 h => ?_)
  refine WP_istore (L' := [(2, 28), (0, x1), (0, x2), (0, v2), (0, r5)]) dX7_readPerson_137 (by decide) rfl ?_
  refine WP_iload_n dX7_readPerson_139 rfl rfl ?_
  refine WP_bipush dX7_readPerson_140 (by decide +kernel) (by decide) ?_
  refine WQ_icmp_ne (tgt := 159) dX7_readPerson_142 (by decide) (fun c7 => ?_) (fun c7 => ?_)
  · replace h := h.1 c7
    refine WP_iload_n dX7_readPerson_159 rfl rfl ?_
    refine WP_bipush dX7_readPerson_160 (by decide +kernel) (by decide) ?_
    refine WQ_icmp_ne (tgt := 179) dX7_readPerson_162 (by decide) (fun c8 => ?_) (fun c8 => ?_)
    · replace h := h.1 c8
      refine WP_aload_n dX7_readPerson_179 rfl rfl ⟨Nat.le_of_ble_eq_true rfl, Nat.le_of_ble_eq_true rfl⟩ ?_
      refine WP_getfield (ci := 7) (j := 3) (n := 11) (t := 2) (x := μ6 28 3) dX7_readPerson_180 f_X7_29 k_28 rfl rfl ?_
      obtain ⟨g9, h⟩ := h
      refine WP_getfield (ci := 1) (j := 6) (n := 11) (t := 2) (x := μ6 28 3 + 3) dX7_readPerson_183 f_X7_151 g9 rfl rfl ?_
      refine WP_iload_n dX7_readPerson_186 rfl rfl ?_
      refine WP_iload dX7_readPerson_187 rfl ?_
      obtain ⟨g10, h⟩ := h
      refine WQ_iast (n := 6) dX7_readPerson_189 (kf_1_6 g9) g10 (fun μ11 eμ11 => ?_)
      replace h := h μ11 eμ11
      obtain ⟨g12, h⟩ := h
      refine WQ_iinc dX7_readPerson_190 rfl (by decide) g12 (fun v13 e13 => ?_)
      refine WP_same (L' := [(2, 28), (0, x1), (0, v13), (0, v2), (0, r5)]) rfl ?_
      replace h := h v13 e13
      refine WP_goto (tgt := 85) dX7_readPerson_193 (by decide) ?_
      refine WP_lforget (L' := [(2, 28), (0, x1), (0, v13), (9, 0), (9, 0)]) rfl (fun i hi => ?_) h
      match i, hi with
      | 0, _ => exact Or.inl rfl
      | 1, _ => exact Or.inl rfl
      | 2, _ => exact Or.inl rfl
      | 3, _ => exact Or.inr rfl
      | 4, _ => exact Or.inr rfl
      | i + 5, hi => exact absurd hi (by simp only [List.length_cons, List.length_nil]; omega)
    · replace h := h.2 c8
      refine WP_aload_n dX7_readPerson_165 rfl rfl ⟨Nat.le_of_ble_eq_true rfl, Nat.le_of_ble_eq_true rfl⟩ ?_
      refine WP_getfield (ci := 7) (j := 3) (n := 11) (t := 2) (x := μ6 28 3) dX7_readPerson_166 f_X7_29 k_28 rfl rfl ?_
      obtain ⟨g14, h⟩ := h
      refine WP_getfield (ci := 1) (j := 5) (n := 11) (t := 2) (x := μ6 28 3 + 2) dX7_readPerson_169 f_X7_148 g14 rfl rfl ?_
      refine WP_iload_n dX7_readPerson_172 rfl rfl ?_
      refine WP_iload dX7_readPerson_173 rfl ?_
      obtain ⟨g15, h⟩ := h
      refine WQ_iast (n := 6) dX7_readPerson_175 (kf_1_5 g14) g15 (fun μ16 eμ16 => ?_)
      replace h := h μ16 eμ16
      refine WP_goto (tgt := 190) dX7_readPerson_176 (by decide) ?_
      obtain ⟨g17, h⟩ := h
      refine WQ_iinc dX7_readPerson_190 rfl (by decide) g17 (fun v18 e18 => ?_)
      refine WP_same (L' := [(2, 28), (0, x1), (0, v18), (0, v2), (0, r5)]) rfl ?_
      replace h := h v18 e18
      refine WP_goto (tgt := 85) dX7_readPerson_193 (by decide) ?_
      refine WP_lforget (L' := [(2, 28), (0, x1), (0, v18), (9, 0), (9, 0)]) rfl (fun i hi => ?_) h
      match i, hi with
      | 0, _ => exact Or.inl rfl
      | 1, _ => exact Or.inl rfl
      | 2, _ => exact Or.inl rfl
      | 3, _ => exact Or.inr rfl
      | 4, _ => exact Or.inr rfl
      | i + 5, hi => exact absurd hi (by simp only [List.length_cons, List.length_nil]; omega)
  · replace h := h.2 c7
    refine WP_aload_n dX7_readPerson_145 rfl rfl ⟨Nat.le_of_ble_eq_true rfl, Nat.le_of_ble_eq_true rfl⟩ ?_
    refine WP_getfield (ci := 7) (j := 3) (n := 11) (t := 2) (x := μ6 28 3) dX7_readPerson_146 f_X7_29 k_28 rfl rfl ?_
    obtain ⟨g19, h⟩ := h
    refine WP_getfield (ci := 1) (j := 4) (n := 11) (t := 2) (x := μ6 28 3 + 1) dX7_readPerson_149 f_X7_145 g19 rfl rfl ?_
    refine WP_iload_n dX7_readPerson_152 rfl rfl ?_
    refine WP_iload dX7_readPerson_153 rfl ?_
    obtain ⟨g20, h⟩ := h
    refine WQ_iast (n := 6) dX7_readPerson_155 (kf_1_4 g19) g20 (fun μ21 eμ21 => ?_)
    replace h := h μ21 eμ21
    refine WP_goto (tgt := 190) dX7_readPerson_156 (by decide) ?_
    obtain ⟨g22, h⟩ := h
    refine WQ_iinc dX7_readPerson_190 rfl (by decide) g22 (fun v23 e23 => ?_)
    refine WP_same (L' := [(2, 28), (0, x1), (0, v23), (0, v2), (0, r5)]) rfl ?_
    replace h := h v23 e23
    refine WP_goto (tgt := 85) dX7_readPerson_193 (by decide) ?_
    refine WP_lforget (L' := [(2, 28), (0, x1), (0, v23), (9, 0), (9, 0)]) rfl (fun i hi => ?_) h
    match i, hi with
    | 0, _ => exact Or.inl rfl
    | 1, _ => exact Or.inl rfl
    | 2, _ => exact Or.inl rfl
    | 3, _ => exact Or.inr rfl
    | 4, _ => exact Or.inr rfl
    | i + 5, hi => exact absurd hi (by simp only [List.length_cons, List.length_nil]; omega)

theorem s_X7_readSum_0 {d : Nat} {sc : SC} {Q : Mem → Prop} {μ : Mem} {a1 : Int}
    (h : CAv mX7_readTerm d sc [(2, 28), (0, a1)] μ (fun μ2 => ∀ v3 : Int, v3 = μ2 28 4 → WQ mX7_readSum d sc (ZV sc Q) 10 [(2, 28), (0, a1), (0, v3), (9, 0)] [] μ2)) :
    WQ mX7_readSum d sc (ZV sc Q) 0 [(2, 28), (0, a1), (9, 0), (9, 0)] [] μ := by
  refine WP_aload_n dX7_readSum_0 rfl rfl ⟨Nat.le_of_ble_eq_true rfl, Nat.le_of_ble_eq_true rfl⟩ ?_
  refine WP_iload_n dX7_readSum_1 rfl rfl ?_
  refine WQ_invVv (v := (2, 28)) (as := [(0, a1)]) dX7_readSum_2 l_X7_192 mw_X7_readTerm mi_X7_readTerm ms_X7_readTerm mo_X7_readTerm (rcv (ci := 7) (n := 11) (r := (RX7, TX7, 11)) k_28 rfl rfl) (Nat.le_of_ble_eq_true rfl) h rfl (fun μ2 h => ?_)
  refine WP_aload_n dX7_readSum_5 rfl rfl ⟨Nat.le_of_ble_eq_true rfl, Nat.le_of_ble_eq_true rfl⟩ ?_
  refine WP_getfield (ci := 7) (j := 4) (n := 11) (t := 0) (x := μ2 28 4) dX7_readSum_6 f_X7_54 k_28 rfl rfl ?_
  refine WQ_nm0 (fun v3 e3 => ?_)
  replace h := h v3 e3
  refine WP_istore_n (L' := [(2, 28), (0, a1), (0, v3), (9, 0)]) dX7_readSum_9 rfl (by decide) rfl ?_
  exact h

theorem s_X7_readSum_10 {d : Nat} {sc : SC} {Q : Mem → Prop} {μ : Mem} {x1 x2 : Int}
    (h : (x2 ≤ 0 → Q μ) ∧ (0 < x2 → CAi mX7_isAt d sc [(2, 28), (0, 32)] μ (fun r2 μ3 => (r2 ≠ 0 → (0 ≤ μ3 28 8 ∧ μ3 28 8 < 901) ∧ (∀ v6 : Int, v6 = μ3 29 (μ3 28 8) → CAv mX7_step d sc [(2, 28)] μ3 (fun μ8 => CAv mX7_readTerm d sc [(2, 28), (0, x1)] μ8 (fun μ10 => (-2147483648 ≤ 1000 + v6 ∧ 1000 + v6 < 2147483648) ∧ CAv mX7_emit d sc [(2, 28), (0, 1000 + v6)] μ10 (fun μ13 => (-2147483648 ≤ x2 + (-1) ∧ x2 + (-1) < 2147483648) ∧ ∀ v15 : Int, v15 = x2 + (-1) → WQ mX7_readSum d sc (ZV sc Q) 10 [(2, 28), (0, x1), (0, v15), (9, 0)] [] μ13))))) ∧ (r2 = 0 → CAi mX7_isAt d sc [(2, 28), (0, 33)] μ3 (fun r16 μ17 => (r16 = 0 → Q μ17) ∧ (r16 ≠ 0 → (0 ≤ μ17 28 8 ∧ μ17 28 8 < 901) ∧ (∀ v20 : Int, v20 = μ17 29 (μ17 28 8) → CAv mX7_step d sc [(2, 28)] μ17 (fun μ22 => CAv mX7_readTerm d sc [(2, 28), (0, x1)] μ22 (fun μ24 => (-2147483648 ≤ 1000 + v20 ∧ 1000 + v20 < 2147483648) ∧ CAv mX7_emit d sc [(2, 28), (0, 1000 + v20)] μ24 (fun μ27 => (-2147483648 ≤ x2 + (-1) ∧ x2 + (-1) < 2147483648) ∧ ∀ v29 : Int, v29 = x2 + (-1) → WQ mX7_readSum d sc (ZV sc Q) 10 [(2, 28), (0, x1), (0, v29), (9, 0)] [] μ27)))))))))) :
    WQ mX7_readSum d sc (ZV sc Q) 10 [(2, 28), (0, x1), (0, x2), (9, 0)] [] μ := by
  refine WP_iload_n dX7_readSum_10 rfl rfl ?_
  refine WQ_ifle (tgt := 66) dX7_readSum_11 (by decide) (fun c1 => ?_) (fun c1 => ?_)
  · replace h := h.1 c1
    exact WQ_return dX7_readSum_66 rfl h
  · replace h := h.2 c1
    refine WP_aload_n dX7_readSum_14 rfl rfl ⟨Nat.le_of_ble_eq_true rfl, Nat.le_of_ble_eq_true rfl⟩ ?_
    refine WP_bipush dX7_readSum_15 (by decide +kernel) (by decide) ?_
    refine WQ_invVi (v := (2, 28)) (as := [(0, 32)]) dX7_readSum_17 l_X7_93 mw_X7_isAt mi_X7_isAt ms_X7_isAt mo_X7_isAt (rcv (ci := 7) (n := 11) (r := (RX7, TX7, 11)) k_28 rfl rfl) (Nat.le_of_ble_eq_true rfl) h rfl (fun r2 μ3 h => ?_)
    refine WQ_ifne (tgt := 32) dX7_readSum_20 (by decide) (fun c4 => ?_) (fun c4 => ?_)
    · replace h := h.1 c4
      refine WP_aload_n dX7_readSum_32 rfl rfl ⟨Nat.le_of_ble_eq_true rfl, Nat.le_of_ble_eq_true rfl⟩ ?_
      refine WP_getfield (ci := 7) (j := 5) (n := 11) (t := 2) (x := 29) dX7_readSum_33 f_X7_15 k_28 rfl rfl ?_
      refine WP_aload_n dX7_readSum_36 rfl rfl ⟨Nat.le_of_ble_eq_true rfl, Nat.le_of_ble_eq_true rfl⟩ ?_
      refine WP_getfield (ci := 7) (j := 8) (n := 11) (t := 0) (x := μ3 28 8) dX7_readSum_37 f_X7_42 k_28 rfl rfl ?_
      obtain ⟨g5, h⟩ := h
      refine WP_iaload (n := 901) dX7_readSum_40 k_29 g5 ?_
      refine WQ_nm0 (fun v6 e6 => ?_)
      replace h := h v6 e6
      refine WP_istore_n (L' := [(2, 28), (0, x1), (0, x2), (0, v6)]) dX7_readSum_41 rfl (by decide) rfl ?_
      refine WP_aload_n dX7_readSum_42 rfl rfl ⟨Nat.le_of_ble_eq_true rfl, Nat.le_of_ble_eq_true rfl⟩ ?_
      refine WQ_invVv (v := (2, 28)) (as := []) dX7_readSum_43 l_X7_96 mw_X7_step mi_X7_step ms_X7_step mo_X7_step (rcv (ci := 7) (n := 11) (r := (RX7, TX7, 11)) k_28 rfl rfl) (Nat.le_of_ble_eq_true rfl) h rfl (fun μ8 h => ?_)
      refine WP_aload_n dX7_readSum_46 rfl rfl ⟨Nat.le_of_ble_eq_true rfl, Nat.le_of_ble_eq_true rfl⟩ ?_
      refine WP_iload_n dX7_readSum_47 rfl rfl ?_
      refine WQ_invVv (v := (2, 28)) (as := [(0, x1)]) dX7_readSum_48 l_X7_192 mw_X7_readTerm mi_X7_readTerm ms_X7_readTerm mo_X7_readTerm (rcv (ci := 7) (n := 11) (r := (RX7, TX7, 11)) k_28 rfl rfl) (Nat.le_of_ble_eq_true rfl) h rfl (fun μ10 h => ?_)
      refine WP_aload_n dX7_readSum_51 rfl rfl ⟨Nat.le_of_ble_eq_true rfl, Nat.le_of_ble_eq_true rfl⟩ ?_
      refine WP_sipush dX7_readSum_52 (by decide +kernel) (by decide) ?_
      refine WP_iload_n dX7_readSum_55 rfl rfl ?_
      obtain ⟨g11, h⟩ := h
      refine WP_iadd dX7_readSum_56 g11 ?_
      refine WQ_invVv (v := (2, 28)) (as := [(0, 1000 + v6)]) dX7_readSum_57 l_X7_183 mw_X7_emit mi_X7_emit ms_X7_emit mo_X7_emit (rcv (ci := 7) (n := 11) (r := (RX7, TX7, 11)) k_28 rfl rfl) (Nat.le_of_ble_eq_true rfl) h rfl (fun μ13 h => ?_)
      obtain ⟨g14, h⟩ := h
      refine WQ_iinc dX7_readSum_60 rfl (by decide) g14 (fun v15 e15 => ?_)
      refine WP_same (L' := [(2, 28), (0, x1), (0, v15), (0, v6)]) rfl ?_
      replace h := h v15 e15
      refine WP_goto (tgt := 10) dX7_readSum_63 (by decide) ?_
      refine WP_lforget (L' := [(2, 28), (0, x1), (0, v15), (9, 0)]) rfl (fun i hi => ?_) h
      match i, hi with
      | 0, _ => exact Or.inl rfl
      | 1, _ => exact Or.inl rfl
      | 2, _ => exact Or.inl rfl
      | 3, _ => exact Or.inr rfl
      | i + 4, hi => exact absurd hi (by simp only [List.length_cons, List.length_nil]; omega)
    · replace h := h.2 c4
      refine WP_aload_n dX7_readSum_23 rfl rfl ⟨Nat.le_of_ble_eq_true rfl, Nat.le_of_ble_eq_true rfl⟩ ?_
      refine WP_bipush dX7_readSum_24 (by decide +kernel) (by decide) ?_
      refine WQ_invVi (v := (2, 28)) (as := [(0, 33)]) dX7_readSum_26 l_X7_93 mw_X7_isAt mi_X7_isAt ms_X7_isAt mo_X7_isAt (rcv (ci := 7) (n := 11) (r := (RX7, TX7, 11)) k_28 rfl rfl) (Nat.le_of_ble_eq_true rfl) h rfl (fun r16 μ17 h => ?_)
      refine WQ_ifeq (tgt := 66) dX7_readSum_29 (by decide) (fun c18 => ?_) (fun c18 => ?_)
      · replace h := h.1 c18
        exact WQ_return dX7_readSum_66 rfl h
      · replace h := h.2 c18
        refine WP_aload_n dX7_readSum_32 rfl rfl ⟨Nat.le_of_ble_eq_true rfl, Nat.le_of_ble_eq_true rfl⟩ ?_
        refine WP_getfield (ci := 7) (j := 5) (n := 11) (t := 2) (x := 29) dX7_readSum_33 f_X7_15 k_28 rfl rfl ?_
        refine WP_aload_n dX7_readSum_36 rfl rfl ⟨Nat.le_of_ble_eq_true rfl, Nat.le_of_ble_eq_true rfl⟩ ?_
        refine WP_getfield (ci := 7) (j := 8) (n := 11) (t := 0) (x := μ17 28 8) dX7_readSum_37 f_X7_42 k_28 rfl rfl ?_
        obtain ⟨g19, h⟩ := h
        refine WP_iaload (n := 901) dX7_readSum_40 k_29 g19 ?_
        refine WQ_nm0 (fun v20 e20 => ?_)
        replace h := h v20 e20
        refine WP_istore_n (L' := [(2, 28), (0, x1), (0, x2), (0, v20)]) dX7_readSum_41 rfl (by decide) rfl ?_
        refine WP_aload_n dX7_readSum_42 rfl rfl ⟨Nat.le_of_ble_eq_true rfl, Nat.le_of_ble_eq_true rfl⟩ ?_
        refine WQ_invVv (v := (2, 28)) (as := []) dX7_readSum_43 l_X7_96 mw_X7_step mi_X7_step ms_X7_step mo_X7_step (rcv (ci := 7) (n := 11) (r := (RX7, TX7, 11)) k_28 rfl rfl) (Nat.le_of_ble_eq_true rfl) h rfl (fun μ22 h => ?_)
        refine WP_aload_n dX7_readSum_46 rfl rfl ⟨Nat.le_of_ble_eq_true rfl, Nat.le_of_ble_eq_true rfl⟩ ?_
        refine WP_iload_n dX7_readSum_47 rfl rfl ?_
        refine WQ_invVv (v := (2, 28)) (as := [(0, x1)]) dX7_readSum_48 l_X7_192 mw_X7_readTerm mi_X7_readTerm ms_X7_readTerm mo_X7_readTerm (rcv (ci := 7) (n := 11) (r := (RX7, TX7, 11)) k_28 rfl rfl) (Nat.le_of_ble_eq_true rfl) h rfl (fun μ24 h => ?_)
        refine WP_aload_n dX7_readSum_51 rfl rfl ⟨Nat.le_of_ble_eq_true rfl, Nat.le_of_ble_eq_true rfl⟩ ?_
        refine WP_sipush dX7_readSum_52 (by decide +kernel) (by decide) ?_
        refine WP_iload_n dX7_readSum_55 rfl rfl ?_
        obtain ⟨g25, h⟩ := h
        refine WP_iadd dX7_readSum_56 g25 ?_
        refine WQ_invVv (v := (2, 28)) (as := [(0, 1000 + v20)]) dX7_readSum_57 l_X7_183 mw_X7_emit mi_X7_emit ms_X7_emit mo_X7_emit (rcv (ci := 7) (n := 11) (r := (RX7, TX7, 11)) k_28 rfl rfl) (Nat.le_of_ble_eq_true rfl) h rfl (fun μ27 h => ?_)
        obtain ⟨g28, h⟩ := h
        refine WQ_iinc dX7_readSum_60 rfl (by decide) g28 (fun v29 e29 => ?_)
        refine WP_same (L' := [(2, 28), (0, x1), (0, v29), (0, v20)]) rfl ?_
        replace h := h v29 e29
        refine WP_goto (tgt := 10) dX7_readSum_63 (by decide) ?_
        refine WP_lforget (L' := [(2, 28), (0, x1), (0, v29), (9, 0)]) rfl (fun i hi => ?_) h
        match i, hi with
        | 0, _ => exact Or.inl rfl
        | 1, _ => exact Or.inl rfl
        | 2, _ => exact Or.inl rfl
        | 3, _ => exact Or.inr rfl
        | i + 4, hi => exact absurd hi (by simp only [List.length_cons, List.length_nil]; omega)

theorem s_X7_readTerm_0 {d : Nat} {sc : SC} {Q : Mem → Prop} {μ : Mem} {a1 : Int}
    (h : CAv mX7_readAtom d sc [(2, 28), (0, a1)] μ (fun μ2 => ∀ v3 : Int, v3 = μ2 28 4 → WQ mX7_readTerm d sc (ZV sc Q) 10 [(2, 28), (0, a1), (0, v3)] [] μ2)) :
    WQ mX7_readTerm d sc (ZV sc Q) 0 [(2, 28), (0, a1), (9, 0)] [] μ := by
  refine WP_aload_n dX7_readTerm_0 rfl rfl ⟨Nat.le_of_ble_eq_true rfl, Nat.le_of_ble_eq_true rfl⟩ ?_
  refine WP_iload_n dX7_readTerm_1 rfl rfl ?_
  refine WQ_invVv (v := (2, 28)) (as := [(0, a1)]) dX7_readTerm_2 l_X7_195 mw_X7_readAtom mi_X7_readAtom ms_X7_readAtom mo_X7_readAtom (rcv (ci := 7) (n := 11) (r := (RX7, TX7, 11)) k_28 rfl rfl) (Nat.le_of_ble_eq_true rfl) h rfl (fun μ2 h => ?_)
  refine WP_aload_n dX7_readTerm_5 rfl rfl ⟨Nat.le_of_ble_eq_true rfl, Nat.le_of_ble_eq_true rfl⟩ ?_
  refine WP_getfield (ci := 7) (j := 4) (n := 11) (t := 0) (x := μ2 28 4) dX7_readTerm_6 f_X7_54 k_28 rfl rfl ?_
  refine WQ_nm0 (fun v3 e3 => ?_)
  replace h := h v3 e3
  refine WP_istore_n (L' := [(2, 28), (0, a1), (0, v3)]) dX7_readTerm_9 rfl (by decide) rfl ?_
  exact h

theorem s_X7_readTerm_10 {d : Nat} {sc : SC} {Q : Mem → Prop} {μ : Mem} {x1 x2 : Int}
    (h : (x2 ≤ 0 → Q μ) ∧ (0 < x2 → CAi mX7_isAt d sc [(2, 28), (0, 34)] μ (fun r2 μ3 => (r2 = 0 → Q μ3) ∧ (r2 ≠ 0 → CAv mX7_step d sc [(2, 28)] μ3 (fun μ6 => CAv mX7_readAtom d sc [(2, 28), (0, x1)] μ6 (fun μ8 => CAv mX7_emit d sc [(2, 28), (0, 1034)] μ8 (fun μ10 => (-2147483648 ≤ x2 + (-1) ∧ x2 + (-1) < 2147483648) ∧ ∀ v12 : Int, v12 = x2 + (-1) → WQ mX7_readTerm d sc (ZV sc Q) 10 [(2, 28), (0, x1), (0, v12)] [] μ10))))))) :
    WQ mX7_readTerm d sc (ZV sc Q) 10 [(2, 28), (0, x1), (0, x2)] [] μ := by
  refine WP_iload_n dX7_readTerm_10 rfl rfl ?_
  refine WQ_ifle (tgt := 45) dX7_readTerm_11 (by decide) (fun c1 => ?_) (fun c1 => ?_)
  · replace h := h.1 c1
    exact WQ_return dX7_readTerm_45 rfl h
  · replace h := h.2 c1
    refine WP_aload_n dX7_readTerm_14 rfl rfl ⟨Nat.le_of_ble_eq_true rfl, Nat.le_of_ble_eq_true rfl⟩ ?_
    refine WP_bipush dX7_readTerm_15 (by decide +kernel) (by decide) ?_
    refine WQ_invVi (v := (2, 28)) (as := [(0, 34)]) dX7_readTerm_17 l_X7_93 mw_X7_isAt mi_X7_isAt ms_X7_isAt mo_X7_isAt (rcv (ci := 7) (n := 11) (r := (RX7, TX7, 11)) k_28 rfl rfl) (Nat.le_of_ble_eq_true rfl) h rfl (fun r2 μ3 h => ?_)
    refine WQ_ifeq (tgt := 45) dX7_readTerm_20 (by decide) (fun c4 => ?_) (fun c4 => ?_)
    · replace h := h.1 c4
      exact WQ_return dX7_readTerm_45 rfl h
    · replace h := h.2 c4
      refine WP_aload_n dX7_readTerm_23 rfl rfl ⟨Nat.le_of_ble_eq_true rfl, Nat.le_of_ble_eq_true rfl⟩ ?_
      refine WQ_invVv (v := (2, 28)) (as := []) dX7_readTerm_24 l_X7_96 mw_X7_step mi_X7_step ms_X7_step mo_X7_step (rcv (ci := 7) (n := 11) (r := (RX7, TX7, 11)) k_28 rfl rfl) (Nat.le_of_ble_eq_true rfl) h rfl (fun μ6 h => ?_)
      refine WP_aload_n dX7_readTerm_27 rfl rfl ⟨Nat.le_of_ble_eq_true rfl, Nat.le_of_ble_eq_true rfl⟩ ?_
      refine WP_iload_n dX7_readTerm_28 rfl rfl ?_
      refine WQ_invVv (v := (2, 28)) (as := [(0, x1)]) dX7_readTerm_29 l_X7_195 mw_X7_readAtom mi_X7_readAtom ms_X7_readAtom mo_X7_readAtom (rcv (ci := 7) (n := 11) (r := (RX7, TX7, 11)) k_28 rfl rfl) (Nat.le_of_ble_eq_true rfl) h rfl (fun μ8 h => ?_)
      refine WP_aload_n dX7_readTerm_32 rfl rfl ⟨Nat.le_of_ble_eq_true rfl, Nat.le_of_ble_eq_true rfl⟩ ?_
      refine WP_sipush dX7_readTerm_33 (by decide +kernel) (by decide) ?_
      refine WQ_invVv (v := (2, 28)) (as := [(0, 1034)]) dX7_readTerm_36 l_X7_183 mw_X7_emit mi_X7_emit ms_X7_emit mo_X7_emit (rcv (ci := 7) (n := 11) (r := (RX7, TX7, 11)) k_28 rfl rfl) (Nat.le_of_ble_eq_true rfl) h rfl (fun μ10 h => ?_)
      obtain ⟨g11, h⟩ := h
      refine WQ_iinc dX7_readTerm_39 rfl (by decide) g11 (fun v12 e12 => ?_)
      refine WP_same (L' := [(2, 28), (0, x1), (0, v12)]) rfl ?_
      replace h := h v12 e12
      refine WP_goto (tgt := 10) dX7_readTerm_42 (by decide) ?_
      exact h

theorem s_X7_readTruth_0 {d : Nat} {sc : SC} {Q : Mem → Prop} {μ : Mem} {a1 : Int}
    (h : CAv mX7_readBoth d sc [(2, 28), (0, a1)] μ (fun μ2 => ∀ v3 : Int, v3 = μ2 28 4 → WQ mX7_readTruth d sc (ZV sc Q) 10 [(2, 28), (0, a1), (0, v3)] [] μ2)) :
    WQ mX7_readTruth d sc (ZV sc Q) 0 [(2, 28), (0, a1), (9, 0)] [] μ := by
  refine WP_aload_n dX7_readTruth_0 rfl rfl ⟨Nat.le_of_ble_eq_true rfl, Nat.le_of_ble_eq_true rfl⟩ ?_
  refine WP_iload_n dX7_readTruth_1 rfl rfl ?_
  refine WQ_invVv (v := (2, 28)) (as := [(0, a1)]) dX7_readTruth_2 l_X7_180 mw_X7_readBoth mi_X7_readBoth ms_X7_readBoth mo_X7_readBoth (rcv (ci := 7) (n := 11) (r := (RX7, TX7, 11)) k_28 rfl rfl) (Nat.le_of_ble_eq_true rfl) h rfl (fun μ2 h => ?_)
  refine WP_aload_n dX7_readTruth_5 rfl rfl ⟨Nat.le_of_ble_eq_true rfl, Nat.le_of_ble_eq_true rfl⟩ ?_
  refine WP_getfield (ci := 7) (j := 4) (n := 11) (t := 0) (x := μ2 28 4) dX7_readTruth_6 f_X7_54 k_28 rfl rfl ?_
  refine WQ_nm0 (fun v3 e3 => ?_)
  replace h := h v3 e3
  refine WP_istore_n (L' := [(2, 28), (0, a1), (0, v3)]) dX7_readTruth_9 rfl (by decide) rfl ?_
  exact h

theorem s_X7_readTruth_10 {d : Nat} {sc : SC} {Q : Mem → Prop} {μ : Mem} {x1 x2 : Int}
    (h : (x2 ≤ 0 → Q μ) ∧ (0 < x2 → CAi mX7_isAt d sc [(2, 28), (0, 13)] μ (fun r2 μ3 => (r2 = 0 → Q μ3) ∧ (r2 ≠ 0 → CAv mX7_step d sc [(2, 28)] μ3 (fun μ6 => CAv mX7_readBoth d sc [(2, 28), (0, x1)] μ6 (fun μ8 => CAv mX7_emit d sc [(2, 28), (0, 1013)] μ8 (fun μ10 => (-2147483648 ≤ x2 + (-1) ∧ x2 + (-1) < 2147483648) ∧ ∀ v12 : Int, v12 = x2 + (-1) → WQ mX7_readTruth d sc (ZV sc Q) 10 [(2, 28), (0, x1), (0, v12)] [] μ10))))))) :
    WQ mX7_readTruth d sc (ZV sc Q) 10 [(2, 28), (0, x1), (0, x2)] [] μ := by
  refine WP_iload_n dX7_readTruth_10 rfl rfl ?_
  refine WQ_ifle (tgt := 45) dX7_readTruth_11 (by decide) (fun c1 => ?_) (fun c1 => ?_)
  · replace h := h.1 c1
    exact WQ_return dX7_readTruth_45 rfl h
  · replace h := h.2 c1
    refine WP_aload_n dX7_readTruth_14 rfl rfl ⟨Nat.le_of_ble_eq_true rfl, Nat.le_of_ble_eq_true rfl⟩ ?_
    refine WP_bipush dX7_readTruth_15 (by decide +kernel) (by decide) ?_
    refine WQ_invVi (v := (2, 28)) (as := [(0, 13)]) dX7_readTruth_17 l_X7_93 mw_X7_isAt mi_X7_isAt ms_X7_isAt mo_X7_isAt (rcv (ci := 7) (n := 11) (r := (RX7, TX7, 11)) k_28 rfl rfl) (Nat.le_of_ble_eq_true rfl) h rfl (fun r2 μ3 h => ?_)
    refine WQ_ifeq (tgt := 45) dX7_readTruth_20 (by decide) (fun c4 => ?_) (fun c4 => ?_)
    · replace h := h.1 c4
      exact WQ_return dX7_readTruth_45 rfl h
    · replace h := h.2 c4
      refine WP_aload_n dX7_readTruth_23 rfl rfl ⟨Nat.le_of_ble_eq_true rfl, Nat.le_of_ble_eq_true rfl⟩ ?_
      refine WQ_invVv (v := (2, 28)) (as := []) dX7_readTruth_24 l_X7_96 mw_X7_step mi_X7_step ms_X7_step mo_X7_step (rcv (ci := 7) (n := 11) (r := (RX7, TX7, 11)) k_28 rfl rfl) (Nat.le_of_ble_eq_true rfl) h rfl (fun μ6 h => ?_)
      refine WP_aload_n dX7_readTruth_27 rfl rfl ⟨Nat.le_of_ble_eq_true rfl, Nat.le_of_ble_eq_true rfl⟩ ?_
      refine WP_iload_n dX7_readTruth_28 rfl rfl ?_
      refine WQ_invVv (v := (2, 28)) (as := [(0, x1)]) dX7_readTruth_29 l_X7_180 mw_X7_readBoth mi_X7_readBoth ms_X7_readBoth mo_X7_readBoth (rcv (ci := 7) (n := 11) (r := (RX7, TX7, 11)) k_28 rfl rfl) (Nat.le_of_ble_eq_true rfl) h rfl (fun μ8 h => ?_)
      refine WP_aload_n dX7_readTruth_32 rfl rfl ⟨Nat.le_of_ble_eq_true rfl, Nat.le_of_ble_eq_true rfl⟩ ?_
      refine WP_sipush dX7_readTruth_33 (by decide +kernel) (by decide) ?_
      refine WQ_invVv (v := (2, 28)) (as := [(0, 1013)]) dX7_readTruth_36 l_X7_183 mw_X7_emit mi_X7_emit ms_X7_emit mo_X7_emit (rcv (ci := 7) (n := 11) (r := (RX7, TX7, 11)) k_28 rfl rfl) (Nat.le_of_ble_eq_true rfl) h rfl (fun μ10 h => ?_)
      obtain ⟨g11, h⟩ := h
      refine WQ_iinc dX7_readTruth_39 rfl (by decide) g11 (fun v12 e12 => ?_)
      refine WP_same (L' := [(2, 28), (0, x1), (0, v12)]) rfl ?_
      replace h := h v12 e12
      refine WP_goto (tgt := 10) dX7_readTruth_42 (by decide) ?_
      exact h

theorem s_X7_readUnit_0 {d : Nat} {sc : SC} {Q : Mem → Prop} {μ : Mem} {a1 : Int}
    (h : CAi mX7_isAt d sc [(2, 28), (0, 14)] μ (fun r1 μ2 => (r1 = 0 → CAi mX7_isAt d sc [(2, 28), (0, 37)] μ2 (fun r4 μ5 => (r4 = 0 → CAv mX7_readSum d sc [(2, 28), (0, a1)] μ5 (fun μ8 => (0 ≤ μ8 28 8 ∧ μ8 28 8 < 901) ∧ (∀ v10 : Int, v10 = μ8 29 (μ8 28 8) → CAi mX7_isAt d sc [(2, 28), (0, 39)] μ8 (fun r11 μ12 => (r11 ≠ 0 → CAv mX7_step d sc [(2, 28)] μ12 (fun μ15 => WQ mX7_readUnit d sc (ZV sc Q) 121 [(2, 28), (0, a1), (0, v10)] [] μ15)) ∧ (r11 = 0 → CAi mX7_isAt d sc [(2, 28), (0, 40)] μ12 (fun r16 μ17 => (r16 ≠ 0 → CAv mX7_step d sc [(2, 28)] μ17 (fun μ20 => WQ mX7_readUnit d sc (ZV sc Q) 121 [(2, 28), (0, a1), (0, v10)] [] μ20)) ∧ (r16 = 0 → CAi mX7_isAt d sc [(2, 28), (0, 41)] μ17 (fun r21 μ22 => (r21 = 0 → CAv mX7_fail d sc [(2, 28), (0, 2)] μ22 (fun μ25 => WQ mX7_readUnit d sc (ZV sc Q) 121 [(2, 28), (0, a1), (0, v10)] [] μ25)) ∧ (r21 ≠ 0 → CAv mX7_step d sc [(2, 28)] μ22 (fun μ27 => WQ mX7_readUnit d sc (ZV sc Q) 121 [(2, 28), (0, a1), (0, v10)] [] μ27)))))))))) ∧ (r4 ≠ 0 → CAi mX7_enter d sc [(2, 28), (0, a1)] μ5 (fun r28 μ29 => (r28 = 0 → Q μ29) ∧ (r28 ≠ 0 → (-2147483648 ≤ a1 + 1 ∧ a1 + 1 < 2147483648) ∧ CAv mX7_readTruth d sc [(2, 28), (0, a1 + 1)] μ29 (fun μ33 => CAv mX7_expect d sc [(2, 28), (0, 38)] μ33 (fun μ35 => Q μ35))))))) ∧ (r1 ≠ 0 → CAi mX7_enter d sc [(2, 28), (0, a1)] μ2 (fun r36 μ37 => (r36 = 0 → Q μ37) ∧ (r36 ≠ 0 → (-2147483648 ≤ a1 + 1 ∧ a1 + 1 < 2147483648) ∧ CAv mX7_readUnit d sc [(2, 28), (0, a1 + 1)] μ37 (fun μ41 => CAv mX7_emit d sc [(2, 28), (0, 1014)] μ41 (fun μ43 => Q μ43))))))) :
    WQ mX7_readUnit d sc (ZV sc Q) 0 [(2, 28), (0, a1), (9, 0)] [] μ := by
  refine WP_aload_n dX7_readUnit_0 rfl rfl ⟨Nat.le_of_ble_eq_true rfl, Nat.le_of_ble_eq_true rfl⟩ ?_
  refine WP_bipush dX7_readUnit_1 (by decide +kernel) (by decide) ?_
  refine WQ_invVi (v := (2, 28)) (as := [(0, 14)]) dX7_readUnit_3 l_X7_93 mw_X7_isAt mi_X7_isAt ms_X7_isAt mo_X7_isAt (rcv (ci := 7) (n := 11) (r := (RX7, TX7, 11)) k_28 rfl rfl) (Nat.le_of_ble_eq_true rfl) h rfl (fun r1 μ2 h => ?_)
  refine WQ_ifeq (tgt := 34) dX7_readUnit_6 (by decide) (fun c3 => ?_) (fun c3 => ?_)
  · replace h := h.1 c3
    refine WP_aload_n dX7_readUnit_34 rfl rfl ⟨Nat.le_of_ble_eq_true rfl, Nat.le_of_ble_eq_true rfl⟩ ?_
    refine WP_bipush dX7_readUnit_35 (by decide +kernel) (by decide) ?_
    refine WQ_invVi (v := (2, 28)) (as := [(0, 37)]) dX7_readUnit_37 l_X7_93 mw_X7_isAt mi_X7_isAt ms_X7_isAt mo_X7_isAt (rcv (ci := 7) (n := 11) (r := (RX7, TX7, 11)) k_28 rfl rfl) (Nat.le_of_ble_eq_true rfl) h rfl (fun r4 μ5 h => ?_)
    refine WQ_ifeq (tgt := 67) dX7_readUnit_40 (by decide) (fun c6 => ?_) (fun c6 => ?_)
    · replace h := h.1 c6
      refine WP_aload_n dX7_readUnit_67 rfl rfl ⟨Nat.le_of_ble_eq_true rfl, Nat.le_of_ble_eq_true rfl⟩ ?_
      refine WP_iload_n dX7_readUnit_68 rfl rfl ?_
      refine WQ_invVv (v := (2, 28)) (as := [(0, a1)]) dX7_readUnit_69 l_X7_168 mw_X7_readSum mi_X7_readSum ms_X7_readSum mo_X7_readSum (rcv (ci := 7) (n := 11) (r := (RX7, TX7, 11)) k_28 rfl rfl) (Nat.le_of_ble_eq_true rfl) h rfl (fun μ8 h => ?_)
      refine WP_aload_n dX7_readUnit_72 rfl rfl ⟨Nat.le_of_ble_eq_true rfl, Nat.le_of_ble_eq_true rfl⟩ ?_
      refine WP_getfield (ci := 7) (j := 5) (n := 11) (t := 2) (x := 29) dX7_readUnit_73 f_X7_15 k_28 rfl rfl ?_
      refine WP_aload_n dX7_readUnit_76 rfl rfl ⟨Nat.le_of_ble_eq_true rfl, Nat.le_of_ble_eq_true rfl⟩ ?_
      refine WP_getfield (ci := 7) (j := 8) (n := 11) (t := 0) (x := μ8 28 8) dX7_readUnit_77 f_X7_42 k_28 rfl rfl ?_
      obtain ⟨g9, h⟩ := h
      refine WP_iaload (n := 901) dX7_readUnit_80 k_29 g9 ?_
      refine WQ_nm0 (fun v10 e10 => ?_)
      replace h := h v10 e10
      refine WP_istore_n (L' := [(2, 28), (0, a1), (0, v10)]) dX7_readUnit_81 rfl (by decide) rfl ?_
      refine WP_aload_n dX7_readUnit_82 rfl rfl ⟨Nat.le_of_ble_eq_true rfl, Nat.le_of_ble_eq_true rfl⟩ ?_
      refine WP_bipush dX7_readUnit_83 (by decide +kernel) (by decide) ?_
      refine WQ_invVi (v := (2, 28)) (as := [(0, 39)]) dX7_readUnit_85 l_X7_93 mw_X7_isAt mi_X7_isAt ms_X7_isAt mo_X7_isAt (rcv (ci := 7) (n := 11) (r := (RX7, TX7, 11)) k_28 rfl rfl) (Nat.le_of_ble_eq_true rfl) h rfl (fun r11 μ12 h => ?_)
      refine WQ_ifne (tgt := 109) dX7_readUnit_88 (by decide) (fun c13 => ?_) (fun c13 => ?_)
      · replace h := h.1 c13
        refine WP_aload_n dX7_readUnit_109 rfl rfl ⟨Nat.le_of_ble_eq_true rfl, Nat.le_of_ble_eq_true rfl⟩ ?_
        refine WQ_invVv (v := (2, 28)) (as := []) dX7_readUnit_110 l_X7_96 mw_X7_step mi_X7_step ms_X7_step mo_X7_step (rcv (ci := 7) (n := 11) (r := (RX7, TX7, 11)) k_28 rfl rfl) (Nat.le_of_ble_eq_true rfl) h rfl (fun μ15 h => ?_)
        refine WP_goto (tgt := 121) dX7_readUnit_113 (by decide) ?_
        exact h
      · replace h := h.2 c13
        refine WP_aload_n dX7_readUnit_91 rfl rfl ⟨Nat.le_of_ble_eq_true rfl, Nat.le_of_ble_eq_true rfl⟩ ?_
        refine WP_bipush dX7_readUnit_92 (by decide +kernel) (by decide) ?_
        refine WQ_invVi (v := (2, 28)) (as := [(0, 40)]) dX7_readUnit_94 l_X7_93 mw_X7_isAt mi_X7_isAt ms_X7_isAt mo_X7_isAt (rcv (ci := 7) (n := 11) (r := (RX7, TX7, 11)) k_28 rfl rfl) (Nat.le_of_ble_eq_true rfl) h rfl (fun r16 μ17 h => ?_)
        refine WQ_ifne (tgt := 109) dX7_readUnit_97 (by decide) (fun c18 => ?_) (fun c18 => ?_)
        · replace h := h.1 c18
          refine WP_aload_n dX7_readUnit_109 rfl rfl ⟨Nat.le_of_ble_eq_true rfl, Nat.le_of_ble_eq_true rfl⟩ ?_
          refine WQ_invVv (v := (2, 28)) (as := []) dX7_readUnit_110 l_X7_96 mw_X7_step mi_X7_step ms_X7_step mo_X7_step (rcv (ci := 7) (n := 11) (r := (RX7, TX7, 11)) k_28 rfl rfl) (Nat.le_of_ble_eq_true rfl) h rfl (fun μ20 h => ?_)
          refine WP_goto (tgt := 121) dX7_readUnit_113 (by decide) ?_
          exact h
        · replace h := h.2 c18
          refine WP_aload_n dX7_readUnit_100 rfl rfl ⟨Nat.le_of_ble_eq_true rfl, Nat.le_of_ble_eq_true rfl⟩ ?_
          refine WP_bipush dX7_readUnit_101 (by decide +kernel) (by decide) ?_
          refine WQ_invVi (v := (2, 28)) (as := [(0, 41)]) dX7_readUnit_103 l_X7_93 mw_X7_isAt mi_X7_isAt ms_X7_isAt mo_X7_isAt (rcv (ci := 7) (n := 11) (r := (RX7, TX7, 11)) k_28 rfl rfl) (Nat.le_of_ble_eq_true rfl) h rfl (fun r21 μ22 h => ?_)
          refine WQ_ifeq (tgt := 116) dX7_readUnit_106 (by decide) (fun c23 => ?_) (fun c23 => ?_)
          · replace h := h.1 c23
            refine WP_aload_n dX7_readUnit_116 rfl rfl ⟨Nat.le_of_ble_eq_true rfl, Nat.le_of_ble_eq_true rfl⟩ ?_
            refine WP_iconst dX7_readUnit_117 (by decide) ?_
            refine WQ_invVv (v := (2, 28)) (as := [(0, 2)]) dX7_readUnit_118 l_X7_99 mw_X7_fail mi_X7_fail ms_X7_fail mo_X7_fail (rcv (ci := 7) (n := 11) (r := (RX7, TX7, 11)) k_28 rfl rfl) (Nat.le_of_ble_eq_true rfl) h rfl (fun μ25 h => ?_)
            exact h
          · replace h := h.2 c23
            refine WP_aload_n dX7_readUnit_109 rfl rfl ⟨Nat.le_of_ble_eq_true rfl, Nat.le_of_ble_eq_true rfl⟩ ?_
            refine WQ_invVv (v := (2, 28)) (as := []) dX7_readUnit_110 l_X7_96 mw_X7_step mi_X7_step ms_X7_step mo_X7_step (rcv (ci := 7) (n := 11) (r := (RX7, TX7, 11)) k_28 rfl rfl) (Nat.le_of_ble_eq_true rfl) h rfl (fun μ27 h => ?_)
            refine WP_goto (tgt := 121) dX7_readUnit_113 (by decide) ?_
            exact h
    · replace h := h.2 c6
      refine WP_aload_n dX7_readUnit_43 rfl rfl ⟨Nat.le_of_ble_eq_true rfl, Nat.le_of_ble_eq_true rfl⟩ ?_
      refine WP_iload_n dX7_readUnit_44 rfl rfl ?_
      refine WQ_invVi (v := (2, 28)) (as := [(0, a1)]) dX7_readUnit_45 l_X7_189 mw_X7_enter mi_X7_enter ms_X7_enter mo_X7_enter (rcv (ci := 7) (n := 11) (r := (RX7, TX7, 11)) k_28 rfl rfl) (Nat.le_of_ble_eq_true rfl) h rfl (fun r28 μ29 h => ?_)
      refine WQ_ifeq (tgt := 142) dX7_readUnit_48 (by decide) (fun c30 => ?_) (fun c30 => ?_)
      · replace h := h.1 c30
        exact WQ_return dX7_readUnit_142 rfl h
      · replace h := h.2 c30
        refine WP_aload_n dX7_readUnit_51 rfl rfl ⟨Nat.le_of_ble_eq_true rfl, Nat.le_of_ble_eq_true rfl⟩ ?_
        refine WP_iload_n dX7_readUnit_52 rfl rfl ?_
        refine WP_iconst dX7_readUnit_53 (by decide) ?_
        obtain ⟨g31, h⟩ := h
        refine WP_iadd dX7_readUnit_54 g31 ?_
        refine WQ_invVv (v := (2, 28)) (as := [(0, a1 + 1)]) dX7_readUnit_55 l_X7_165 mw_X7_readTruth mi_X7_readTruth ms_X7_readTruth mo_X7_readTruth (rcv (ci := 7) (n := 11) (r := (RX7, TX7, 11)) k_28 rfl rfl) (Nat.le_of_ble_eq_true rfl) h rfl (fun μ33 h => ?_)
        refine WP_aload_n dX7_readUnit_58 rfl rfl ⟨Nat.le_of_ble_eq_true rfl, Nat.le_of_ble_eq_true rfl⟩ ?_
        refine WP_bipush dX7_readUnit_59 (by decide +kernel) (by decide) ?_
        refine WQ_invVv (v := (2, 28)) (as := [(0, 38)]) dX7_readUnit_61 l_X7_102 mw_X7_expect mi_X7_expect ms_X7_expect mo_X7_expect (rcv (ci := 7) (n := 11) (r := (RX7, TX7, 11)) k_28 rfl rfl) (Nat.le_of_ble_eq_true rfl) h rfl (fun μ35 h => ?_)
        refine WP_goto (tgt := 142) dX7_readUnit_64 (by decide) ?_
        exact WQ_return dX7_readUnit_142 rfl h
  · replace h := h.2 c3
    refine WP_aload_n dX7_readUnit_9 rfl rfl ⟨Nat.le_of_ble_eq_true rfl, Nat.le_of_ble_eq_true rfl⟩ ?_
    refine WP_iload_n dX7_readUnit_10 rfl rfl ?_
    refine WQ_invVi (v := (2, 28)) (as := [(0, a1)]) dX7_readUnit_11 l_X7_189 mw_X7_enter mi_X7_enter ms_X7_enter mo_X7_enter (rcv (ci := 7) (n := 11) (r := (RX7, TX7, 11)) k_28 rfl rfl) (Nat.le_of_ble_eq_true rfl) h rfl (fun r36 μ37 h => ?_)
    refine WQ_ifeq (tgt := 142) dX7_readUnit_14 (by decide) (fun c38 => ?_) (fun c38 => ?_)
    · replace h := h.1 c38
      exact WQ_return dX7_readUnit_142 rfl h
    · replace h := h.2 c38
      refine WP_aload_n dX7_readUnit_17 rfl rfl ⟨Nat.le_of_ble_eq_true rfl, Nat.le_of_ble_eq_true rfl⟩ ?_
      refine WP_iload_n dX7_readUnit_18 rfl rfl ?_
      refine WP_iconst dX7_readUnit_19 (by decide) ?_
      obtain ⟨g39, h⟩ := h
      refine WP_iadd dX7_readUnit_20 g39 ?_
      refine WQ_invVv (v := (2, 28)) (as := [(0, a1 + 1)]) dX7_readUnit_21 l_X7_186 mw_X7_readUnit mi_X7_readUnit ms_X7_readUnit mo_X7_readUnit (rcv (ci := 7) (n := 11) (r := (RX7, TX7, 11)) k_28 rfl rfl) (Nat.le_of_ble_eq_true rfl) h rfl (fun μ41 h => ?_)
      refine WP_aload_n dX7_readUnit_24 rfl rfl ⟨Nat.le_of_ble_eq_true rfl, Nat.le_of_ble_eq_true rfl⟩ ?_
      refine WP_sipush dX7_readUnit_25 (by decide +kernel) (by decide) ?_
      refine WQ_invVv (v := (2, 28)) (as := [(0, 1014)]) dX7_readUnit_28 l_X7_183 mw_X7_emit mi_X7_emit ms_X7_emit mo_X7_emit (rcv (ci := 7) (n := 11) (r := (RX7, TX7, 11)) k_28 rfl rfl) (Nat.le_of_ble_eq_true rfl) h rfl (fun μ43 h => ?_)
      refine WP_goto (tgt := 142) dX7_readUnit_31 (by decide) ?_
      exact WQ_return dX7_readUnit_142 rfl h

theorem s_X7_readUnit_121 {d : Nat} {sc : SC} {Q : Mem → Prop} {μ : Mem} {x1 x2 : Int}
    (h : (μ 28 0 ≠ 0 → Q μ) ∧ (μ 28 0 = 0 → CAv mX7_readSum d sc [(2, 28), (0, x1)] μ (fun μ3 => (-2147483648 ≤ 1000 + x2 ∧ 1000 + x2 < 2147483648) ∧ CAv mX7_emit d sc [(2, 28), (0, 1000 + x2)] μ3 (fun μ6 => Q μ6)))) :
    WQ mX7_readUnit d sc (ZV sc Q) 121 [(2, 28), (0, x1), (0, x2)] [] μ := by
  refine WP_aload_n dX7_readUnit_121 rfl rfl ⟨Nat.le_of_ble_eq_true rfl, Nat.le_of_ble_eq_true rfl⟩ ?_
  refine WP_getfield (ci := 7) (j := 0) (n := 11) (t := 0) (x := μ 28 0) dX7_readUnit_122 f_X7_48 k_28 rfl rfl ?_
  refine WQ_ifne (tgt := 142) dX7_readUnit_125 (by decide) (fun c1 => ?_) (fun c1 => ?_)
  · replace h := h.1 c1
    exact WQ_return dX7_readUnit_142 rfl h
  · replace h := h.2 c1
    refine WP_aload_n dX7_readUnit_128 rfl rfl ⟨Nat.le_of_ble_eq_true rfl, Nat.le_of_ble_eq_true rfl⟩ ?_
    refine WP_iload_n dX7_readUnit_129 rfl rfl ?_
    refine WQ_invVv (v := (2, 28)) (as := [(0, x1)]) dX7_readUnit_130 l_X7_168 mw_X7_readSum mi_X7_readSum ms_X7_readSum mo_X7_readSum (rcv (ci := 7) (n := 11) (r := (RX7, TX7, 11)) k_28 rfl rfl) (Nat.le_of_ble_eq_true rfl) h rfl (fun μ3 h => ?_)
    refine WP_aload_n dX7_readUnit_133 rfl rfl ⟨Nat.le_of_ble_eq_true rfl, Nat.le_of_ble_eq_true rfl⟩ ?_
    refine WP_sipush dX7_readUnit_134 (by decide +kernel) (by decide) ?_
    refine WP_iload_n dX7_readUnit_137 rfl rfl ?_
    obtain ⟨g4, h⟩ := h
    refine WP_iadd dX7_readUnit_138 g4 ?_
    refine WQ_invVv (v := (2, 28)) (as := [(0, 1000 + x2)]) dX7_readUnit_139 l_X7_183 mw_X7_emit mi_X7_emit ms_X7_emit mo_X7_emit (rcv (ci := 7) (n := 11) (r := (RX7, TX7, 11)) k_28 rfl rfl) (Nat.le_of_ble_eq_true rfl) h rfl (fun μ6 h => ?_)
    exact WQ_return dX7_readUnit_142 rfl h

theorem s_X7_split_0 {d : Nat} {sc : SC} {Q : Mem → Prop} {μ : Mem} {a1 : Int}
    (h : ∀ μ1, μ1 = mup μ 28 4 0 → WQ mX7_split d sc (ZV sc Q) 7 [(2, 28), (0, a1), (9, 0), (0, 0), (9, 0), (9, 0)] [] μ1) :
    WQ mX7_split d sc (ZV sc Q) 0 [(2, 28), (0, a1), (9, 0), (9, 0), (9, 0), (9, 0)] [] μ := by
  refine WP_aload_n dX7_split_0 rfl rfl ⟨Nat.le_of_ble_eq_true rfl, Nat.le_of_ble_eq_true rfl⟩ ?_
  refine WP_iconst dX7_split_1 (by decide) ?_
  refine WQ_put (ci := 7) (j := 4) (n := 11) dX7_split_2 f_X7_54 k_28 rfl (fun μ1 eμ1 => ?_)
  replace h := h μ1 eμ1
  refine WP_iconst dX7_split_5 (by decide) ?_
  refine WP_istore_n (L' := [(2, 28), (0, a1), (9, 0), (0, 0), (9, 0), (9, 0)]) dX7_split_6 rfl (by decide) rfl ?_
  exact h

theorem s_X7_split_7 {d : Nat} {sc : SC} {Q : Mem → Prop} {μ : Mem} {x1 x3 : Int}
    (h : (x1 ≤ x3 → CAv mX7_putToken d sc [(2, 28), (0, 52), (0, x1), (0, 0)] μ (fun μ3 => Q μ3)) ∧ (x3 < x1 → (-2147483648 ≤ x3 + 1 ∧ x3 + 1 < 2147483648) ∧ (∀ v5 : Int, v5 = x3 + 1 → kd0 (μ 28 2) = some (4, 900) ∧ (0 ≤ x3 ∧ x3 < 900) ∧ (∀ v8 : Int, v8 = μ (μ 28 2) x3 → CAi mX7_isLetter d sc [(0, v8)] μ (fun r9 μ10 => (r9 = 0 → CAi mX7_isDigit d sc [(0, v8)] μ10 (fun r12 μ13 => (r12 = 0 → (v8 = 10 → WQ mX7_split d sc (ZV sc Q) 7 [(2, 28), (0, x1), (9, 0), (0, v5), (9, 0), (9, 0)] [] μ13) ∧ (v8 ≠ 10 → (v8 = 32 → WQ mX7_split d sc (ZV sc Q) 7 [(2, 28), (0, x1), (9, 0), (0, v5), (9, 0), (9, 0)] [] μ13) ∧ (v8 ≠ 32 → (0 ≤ v8 → CAi mJ0_indexOf_0f7a4 d sc [(3, 1), (0, toC v8)] μ13 (fun r18 μ19 => (0 ≤ r18 → (-2147483648 ≤ 30 + r18 ∧ 30 + r18 < 2147483648) ∧ CAv mX7_putToken d sc [(2, 28), (0, 30 + r18), (0, x3), (0, 0)] μ19 (fun μ23 => WQ mX7_split d sc (ZV sc Q) 7 [(2, 28), (0, x1), (9, 0), (0, v5), (9, 0), (9, 0)] [] μ23)) ∧ (r18 < 0 → CAv mX7_putToken d sc [(2, 28), (0, 53), (0, x3), (0, 0)] μ19 (fun μ25 => WQ mX7_split d sc (ZV sc Q) 7 [(2, 28), (0, x1), (9, 0), (0, v5), (9, 0), (9, 0)] [] μ25)))) ∧ (v8 < 0 → CAv mX7_putToken d sc [(2, 28), (0, 53), (0, x3), (0, 0)] μ13 (fun μ27 => WQ mX7_split d sc (ZV sc Q) 7 [(2, 28), (0, x1), (9, 0), (0, v5), (9, 0), (9, 0)] [] μ27))))) ∧ (r12 ≠ 0 → WQ mX7_split d sc (ZV sc Q) 78 [(2, 28), (0, x1), (0, v5), (0, x3), (9, 0), (9, 0)] [] μ13))) ∧ (r9 ≠ 0 → WQ mX7_split d sc (ZV sc Q) 32 [(2, 28), (0, x1), (0, v5), (0, x3), (9, 0), (9, 0)] [] μ10)))))) :
    WQ mX7_split d sc (ZV sc Q) 7 [(2, 28), (0, x1), (9, 0), (0, x3), (9, 0), (9, 0)] [] μ := by
  refine WP_iload_n dX7_split_7 rfl rfl ?_
  refine WP_iload_n dX7_split_8 rfl rfl ?_
  refine WQ_icmp_ge (tgt := 169) dX7_split_9 (by decide) (fun c1 => ?_) (fun c1 => ?_)
  · replace h := h.1 c1
    refine WP_aload_n dX7_split_169 rfl rfl ⟨Nat.le_of_ble_eq_true rfl, Nat.le_of_ble_eq_true rfl⟩ ?_
    refine WP_bipush dX7_split_170 (by decide +kernel) (by decide) ?_
    refine WP_iload_n dX7_split_172 rfl rfl ?_
    refine WP_iconst dX7_split_173 (by decide) ?_
    refine WQ_invVv (v := (2, 28)) (as := [(0, 52), (0, x1), (0, 0)]) dX7_split_174 l_X7_68 mw_X7_putToken mi_X7_putToken ms_X7_putToken mo_X7_putToken (rcv (ci := 7) (n := 11) (r := (RX7, TX7, 11)) k_28 rfl rfl) (Nat.le_of_ble_eq_true rfl) h rfl (fun μ3 h => ?_)
    exact WQ_return dX7_split_177 rfl h
  · replace h := h.2 c1
    refine WP_iload_n dX7_split_12 rfl rfl ?_
    refine WP_iconst dX7_split_13 (by decide) ?_
    obtain ⟨g4, h⟩ := h
    refine WP_iadd dX7_split_14 g4 ?_
    refine WQ_nm0 (fun v5 e5 => ?_)
    replace h := h v5 e5
    refine WP_istore_n (L' := [(2, 28), (0, x1), (0, v5), (0, x3), (9, 0), (9, 0)]) dX7_split_15 rfl (by decide) rfl ?_
    refine WP_aload_n dX7_split_16 rfl rfl ⟨Nat.le_of_ble_eq_true rfl, Nat.le_of_ble_eq_true rfl⟩ ?_
    refine WP_getfield (ci := 7) (j := 2) (n := 11) (t := 2) (x := μ 28 2) dX7_split_17 f_X7_25 k_28 rfl rfl ?_
    refine WP_iload_n dX7_split_20 rfl rfl ?_
    obtain ⟨g6, h⟩ := h
    obtain ⟨g7, h⟩ := h
    refine WP_baload (n := 900) dX7_split_21 g6 g7 ?_
    refine WQ_nm0 (fun v8 e8 => ?_)
    replace h := h v8 e8
    refine WP_istore (L' := [(2, 28), (0, x1), (0, v5), (0, x3), (0, v8), (9, 0)]) dX7_split_22 (by decide) rfl ?_
    refine WP_iload dX7_split_24 rfl ?_
    refine WQ_invSi (as := [(0, v8)]) dX7_split_26 l_X7_60 mw_X7_isLetter mt_X7_isLetter mo_X7_isLetter (Nat.le_of_ble_eq_true rfl) h rfl (fun r9 μ10 h => ?_)
    refine WQ_ifeq (tgt := 70) dX7_split_29 (by decide) (fun c11 => ?_) (fun c11 => ?_)
    · replace h := h.1 c11
      refine WP_iload dX7_split_70 rfl ?_
      refine WQ_invSi (as := [(0, v8)]) dX7_split_72 l_X7_72 mw_X7_isDigit mt_X7_isDigit mo_X7_isDigit (Nat.le_of_ble_eq_true rfl) h rfl (fun r12 μ13 h => ?_)
      refine WQ_ifeq (tgt := 110) dX7_split_75 (by decide) (fun c14 => ?_) (fun c14 => ?_)
      · replace h := h.1 c14
        refine WP_iload dX7_split_110 rfl ?_
        refine WP_bipush dX7_split_112 (by decide +kernel) (by decide) ?_
        refine WQ_icmp_eq (tgt := 164) dX7_split_114 (by decide) (fun c15 => ?_) (fun c15 => ?_)
        · replace h := h.1 c15
          refine WP_iload_n dX7_split_164 rfl rfl ?_
          refine WP_istore_n (L' := [(2, 28), (0, x1), (0, v5), (0, v5), (0, v8), (9, 0)]) dX7_split_165 rfl (by decide) rfl ?_
          refine WP_goto (tgt := 7) dX7_split_166 (by decide) ?_
          refine WP_lforget (L' := [(2, 28), (0, x1), (9, 0), (0, v5), (9, 0), (9, 0)]) rfl (fun i hi => ?_) h
          match i, hi with
          | 0, _ => exact Or.inl rfl
          | 1, _ => exact Or.inl rfl
          | 2, _ => exact Or.inr rfl
          | 3, _ => exact Or.inl rfl
          | 4, _ => exact Or.inr rfl
          | 5, _ => exact Or.inl rfl
          | i + 6, hi => exact absurd hi (by simp only [List.length_cons, List.length_nil]; omega)
        · replace h := h.2 c15
          refine WP_iload dX7_split_117 rfl ?_
          refine WP_bipush dX7_split_119 (by decide +kernel) (by decide) ?_
          refine WQ_icmp_eq (tgt := 164) dX7_split_121 (by decide) (fun c16 => ?_) (fun c16 => ?_)
          · replace h := h.1 c16
            refine WP_iload_n dX7_split_164 rfl rfl ?_
            refine WP_istore_n (L' := [(2, 28), (0, x1), (0, v5), (0, v5), (0, v8), (9, 0)]) dX7_split_165 rfl (by decide) rfl ?_
            refine WP_goto (tgt := 7) dX7_split_166 (by decide) ?_
            refine WP_lforget (L' := [(2, 28), (0, x1), (9, 0), (0, v5), (9, 0), (9, 0)]) rfl (fun i hi => ?_) h
            match i, hi with
            | 0, _ => exact Or.inl rfl
            | 1, _ => exact Or.inl rfl
            | 2, _ => exact Or.inr rfl
            | 3, _ => exact Or.inl rfl
            | 4, _ => exact Or.inr rfl
            | 5, _ => exact Or.inl rfl
            | i + 6, hi => exact absurd hi (by simp only [List.length_cons, List.length_nil]; omega)
          · replace h := h.2 c16
            refine WP_iload dX7_split_124 rfl ?_
            refine WQ_ifge (tgt := 133) dX7_split_126 (by decide) (fun c17 => ?_) (fun c17 => ?_)
            · replace h := h.1 c17
              refine WP_ldcS (i := 1) dX7_split_133 (by decide) rfl rfl ?_
              refine WP_iload dX7_split_135 rfl ?_
              refine WP_i2c dX7_split_137 ?_
              refine WQ_invVi (v := (3, 1)) (as := [(0, toC v8)]) dX7_split_138 l_X7_81 mw_J0_indexOf_0f7a4 mi_J0_indexOf_0f7a4 ms_J0_indexOf_0f7a4 mo_J0_indexOf_0f7a4 (rcv_tx rfl) (Nat.le_of_ble_eq_true rfl) h rfl (fun r18 μ19 h => ?_)
              refine WP_istore (L' := [(2, 28), (0, x1), (0, v5), (0, x3), (0, v8), (0, r18)]) dX7_split_141 (by decide) rfl ?_
              refine WP_aload_n dX7_split_143 rfl rfl ⟨Nat.le_of_ble_eq_true rfl, Nat.le_of_ble_eq_true rfl⟩ ?_
              refine WP_iload dX7_split_144 rfl ?_
              refine WQ_ifge (tgt := 154) dX7_split_146 (by decide) (fun c20 => ?_) (fun c20 => ?_)
              · replace h := h.1 c20
                refine WP_bipush dX7_split_154 (by decide +kernel) (by decide) ?_
                refine WP_iload dX7_split_156 rfl ?_
                obtain ⟨g21, h⟩ := h
                refine WP_iadd dX7_split_158 g21 ?_
                refine WP_iload_n dX7_split_159 rfl rfl ?_
                refine WP_iconst dX7_split_160 (by decide) ?_
                refine WQ_invVv (v := (2, 28)) (as := [(0, 30 + r18), (0, x3), (0, 0)]) dX7_split_161 l_X7_68 mw_X7_putToken mi_X7_putToken ms_X7_putToken mo_X7_putToken (rcv (ci := 7) (n := 11) (r := (RX7, TX7, 11)) k_28 rfl rfl) (Nat.le_of_ble_eq_true rfl) h rfl (fun μ23 h => ?_)
                refine WP_iload_n dX7_split_164 rfl rfl ?_
                refine WP_istore_n (L' := [(2, 28), (0, x1), (0, v5), (0, v5), (0, v8), (0, r18)]) dX7_split_165 rfl (by decide) rfl ?_
                refine WP_goto (tgt := 7) dX7_split_166 (by decide) ?_
                refine WP_lforget (L' := [(2, 28), (0, x1), (9, 0), (0, v5), (9, 0), (9, 0)]) rfl (fun i hi => ?_) h
                match i, hi with
                | 0, _ => exact Or.inl rfl
                | 1, _ => exact Or.inl rfl
                | 2, _ => exact Or.inr rfl
                | 3, _ => exact Or.inl rfl
                | 4, _ => exact Or.inr rfl
                | 5, _ => exact Or.inr rfl
                | i + 6, hi => exact absurd hi (by simp only [List.length_cons, List.length_nil]; omega)
              · replace h := h.2 c20
                refine WP_bipush dX7_split_149 (by decide +kernel) (by decide) ?_
                refine WP_goto (tgt := 159) dX7_split_151 (by decide) ?_
                refine WP_iload_n dX7_split_159 rfl rfl ?_
                refine WP_iconst dX7_split_160 (by decide) ?_
                refine WQ_invVv (v := (2, 28)) (as := [(0, 53), (0, x3), (0, 0)]) dX7_split_161 l_X7_68 mw_X7_putToken mi_X7_putToken ms_X7_putToken mo_X7_putToken (rcv (ci := 7) (n := 11) (r := (RX7, TX7, 11)) k_28 rfl rfl) (Nat.le_of_ble_eq_true rfl) h rfl (fun μ25 h => ?_)
                refine WP_iload_n dX7_split_164 rfl rfl ?_
                refine WP_istore_n (L' := [(2, 28), (0, x1), (0, v5), (0, v5), (0, v8), (0, r18)]) dX7_split_165 rfl (by decide) rfl ?_
                refine WP_goto (tgt := 7) dX7_split_166 (by decide) ?_
                refine WP_lforget (L' := [(2, 28), (0, x1), (9, 0), (0, v5), (9, 0), (9, 0)]) rfl (fun i hi => ?_) h
                match i, hi with
                | 0, _ => exact Or.inl rfl
                | 1, _ => exact Or.inl rfl
                | 2, _ => exact Or.inr rfl
                | 3, _ => exact Or.inl rfl
                | 4, _ => exact Or.inr rfl
                | 5, _ => exact Or.inr rfl
                | i + 6, hi => exact absurd hi (by simp only [List.length_cons, List.length_nil]; omega)
            · replace h := h.2 c17
              refine WP_iconst dX7_split_129 (by decide) ?_
              refine WP_goto (tgt := 141) dX7_split_130 (by decide) ?_
              refine WP_istore (L' := [(2, 28), (0, x1), (0, v5), (0, x3), (0, v8), (0, (-1))]) dX7_split_141 (by decide) rfl ?_
              refine WP_aload_n dX7_split_143 rfl rfl ⟨Nat.le_of_ble_eq_true rfl, Nat.le_of_ble_eq_true rfl⟩ ?_
              refine WP_iload dX7_split_144 rfl ?_
              refine WQ_ifge (tgt := 154) dX7_split_146 (by decide) (fun q => absurd q (by decide)) (fun _ => ?_)
              refine WP_bipush dX7_split_149 (by decide +kernel) (by decide) ?_
              refine WP_goto (tgt := 159) dX7_split_151 (by decide) ?_
              refine WP_iload_n dX7_split_159 rfl rfl ?_
              refine WP_iconst dX7_split_160 (by decide) ?_
              refine WQ_invVv (v := (2, 28)) (as := [(0, 53), (0, x3), (0, 0)]) dX7_split_161 l_X7_68 mw_X7_putToken mi_X7_putToken ms_X7_putToken mo_X7_putToken (rcv (ci := 7) (n := 11) (r := (RX7, TX7, 11)) k_28 rfl rfl) (Nat.le_of_ble_eq_true rfl) h rfl (fun μ27 h => ?_)
              refine WP_iload_n dX7_split_164 rfl rfl ?_
              refine WP_istore_n (L' := [(2, 28), (0, x1), (0, v5), (0, v5), (0, v8), (0, (-1))]) dX7_split_165 rfl (by decide) rfl ?_
              refine WP_goto (tgt := 7) dX7_split_166 (by decide) ?_
              refine WP_lforget (L' := [(2, 28), (0, x1), (9, 0), (0, v5), (9, 0), (9, 0)]) rfl (fun i hi => ?_) h
              match i, hi with
              | 0, _ => exact Or.inl rfl
              | 1, _ => exact Or.inl rfl
              | 2, _ => exact Or.inr rfl
              | 3, _ => exact Or.inl rfl
              | 4, _ => exact Or.inr rfl
              | 5, _ => exact Or.inr rfl
              | i + 6, hi => exact absurd hi (by simp only [List.length_cons, List.length_nil]; omega)
      · replace h := h.2 c14
        refine WP_lforget (L' := [(2, 28), (0, x1), (0, v5), (0, x3), (9, 0), (9, 0)]) rfl (fun i hi => ?_) h
        match i, hi with
        | 0, _ => exact Or.inl rfl
        | 1, _ => exact Or.inl rfl
        | 2, _ => exact Or.inl rfl
        | 3, _ => exact Or.inl rfl
        | 4, _ => exact Or.inr rfl
        | 5, _ => exact Or.inl rfl
        | i + 6, hi => exact absurd hi (by simp only [List.length_cons, List.length_nil]; omega)
    · replace h := h.2 c11
      refine WP_lforget (L' := [(2, 28), (0, x1), (0, v5), (0, x3), (9, 0), (9, 0)]) rfl (fun i hi => ?_) h
      match i, hi with
      | 0, _ => exact Or.inl rfl
      | 1, _ => exact Or.inl rfl
      | 2, _ => exact Or.inl rfl
      | 3, _ => exact Or.inl rfl
      | 4, _ => exact Or.inr rfl
      | 5, _ => exact Or.inl rfl
      | i + 6, hi => exact absurd hi (by simp only [List.length_cons, List.length_nil]; omega)

theorem s_X7_split_32 {d : Nat} {sc : SC} {Q : Mem → Prop} {μ : Mem} {x1 x2 x3 : Int}
    (h : (x1 ≤ x2 → CAi mX7_wordKind d sc [(2, 28), (0, x3), (0, x2)] μ (fun r2 μ3 => CAv mX7_putToken d sc [(2, 28), (0, r2), (0, x3), (0, 0)] μ3 (fun μ5 => WQ mX7_split d sc (ZV sc Q) 7 [(2, 28), (0, x1), (9, 0), (0, x2), (9, 0), (9, 0)] [] μ5))) ∧ (x2 < x1 → kd0 (μ 28 2) = some (4, 900) ∧ (0 ≤ x2 ∧ x2 < 900) ∧ CAi mX7_isLetter d sc [(0, μ (μ 28 2) x2)] μ (fun r8 μ9 => (r8 = 0 → CAi mX7_wordKind d sc [(2, 28), (0, x3), (0, x2)] μ9 (fun r11 μ12 => CAv mX7_putToken d sc [(2, 28), (0, r11), (0, x3), (0, 0)] μ12 (fun μ14 => WQ mX7_split d sc (ZV sc Q) 7 [(2, 28), (0, x1), (9, 0), (0, x2), (9, 0), (9, 0)] [] μ14))) ∧ (r8 ≠ 0 → (-2147483648 ≤ x2 + 1 ∧ x2 + 1 < 2147483648) ∧ ∀ v16 : Int, v16 = x2 + 1 → WQ mX7_split d sc (ZV sc Q) 32 [(2, 28), (0, x1), (0, v16), (0, x3), (9, 0), (9, 0)] [] μ9)))) :
    WQ mX7_split d sc (ZV sc Q) 32 [(2, 28), (0, x1), (0, x2), (0, x3), (9, 0), (9, 0)] [] μ := by
  refine WP_iload_n dX7_split_32 rfl rfl ?_
  refine WP_iload_n dX7_split_33 rfl rfl ?_
  refine WQ_icmp_ge (tgt := 55) dX7_split_34 (by decide) (fun c1 => ?_) (fun c1 => ?_)
  · replace h := h.1 c1
    refine WP_aload_n dX7_split_55 rfl rfl ⟨Nat.le_of_ble_eq_true rfl, Nat.le_of_ble_eq_true rfl⟩ ?_
    refine WP_aload_n dX7_split_56 rfl rfl ⟨Nat.le_of_ble_eq_true rfl, Nat.le_of_ble_eq_true rfl⟩ ?_
    refine WP_iload_n dX7_split_57 rfl rfl ?_
    refine WP_iload_n dX7_split_58 rfl rfl ?_
    refine WQ_invVi (v := (2, 28)) (as := [(0, x3), (0, x2)]) dX7_split_59 l_X7_64 mw_X7_wordKind mi_X7_wordKind ms_X7_wordKind mo_X7_wordKind (rcv (ci := 7) (n := 11) (r := (RX7, TX7, 11)) k_28 rfl rfl) (Nat.le_of_ble_eq_true rfl) h rfl (fun r2 μ3 h => ?_)
    refine WP_iload_n dX7_split_62 rfl rfl ?_
    refine WP_iconst dX7_split_63 (by decide) ?_
    refine WQ_invVv (v := (2, 28)) (as := [(0, r2), (0, x3), (0, 0)]) dX7_split_64 l_X7_68 mw_X7_putToken mi_X7_putToken ms_X7_putToken mo_X7_putToken (rcv (ci := 7) (n := 11) (r := (RX7, TX7, 11)) k_28 rfl rfl) (Nat.le_of_ble_eq_true rfl) h rfl (fun μ5 h => ?_)
    refine WP_goto (tgt := 164) dX7_split_67 (by decide) ?_
    refine WP_iload_n dX7_split_164 rfl rfl ?_
    refine WP_istore_n (L' := [(2, 28), (0, x1), (0, x2), (0, x2), (9, 0), (9, 0)]) dX7_split_165 rfl (by decide) rfl ?_
    refine WP_goto (tgt := 7) dX7_split_166 (by decide) ?_
    refine WP_lforget (L' := [(2, 28), (0, x1), (9, 0), (0, x2), (9, 0), (9, 0)]) rfl (fun i hi => ?_) h
    match i, hi with
    | 0, _ => exact Or.inl rfl
    | 1, _ => exact Or.inl rfl
    | 2, _ => exact Or.inr rfl
    | 3, _ => exact Or.inl rfl
    | 4, _ => exact Or.inl rfl
    | 5, _ => exact Or.inl rfl
    | i + 6, hi => exact absurd hi (by simp only [List.length_cons, List.length_nil]; omega)
  · replace h := h.2 c1
    refine WP_aload_n dX7_split_37 rfl rfl ⟨Nat.le_of_ble_eq_true rfl, Nat.le_of_ble_eq_true rfl⟩ ?_
    refine WP_getfield (ci := 7) (j := 2) (n := 11) (t := 2) (x := μ 28 2) dX7_split_38 f_X7_25 k_28 rfl rfl ?_
    refine WP_iload_n dX7_split_41 rfl rfl ?_
    obtain ⟨g6, h⟩ := h
    obtain ⟨g7, h⟩ := h
    refine WP_baload (n := 900) dX7_split_42 g6 g7 ?_
    refine WQ_invSi (as := [(0, μ (μ 28 2) x2)]) dX7_split_43 l_X7_60 mw_X7_isLetter mt_X7_isLetter mo_X7_isLetter (Nat.le_of_ble_eq_true rfl) h rfl (fun r8 μ9 h => ?_)
    refine WQ_ifeq (tgt := 55) dX7_split_46 (by decide) (fun c10 => ?_) (fun c10 => ?_)
    · replace h := h.1 c10
      refine WP_aload_n dX7_split_55 rfl rfl ⟨Nat.le_of_ble_eq_true rfl, Nat.le_of_ble_eq_true rfl⟩ ?_
      refine WP_aload_n dX7_split_56 rfl rfl ⟨Nat.le_of_ble_eq_true rfl, Nat.le_of_ble_eq_true rfl⟩ ?_
      refine WP_iload_n dX7_split_57 rfl rfl ?_
      refine WP_iload_n dX7_split_58 rfl rfl ?_
      refine WQ_invVi (v := (2, 28)) (as := [(0, x3), (0, x2)]) dX7_split_59 l_X7_64 mw_X7_wordKind mi_X7_wordKind ms_X7_wordKind mo_X7_wordKind (rcv (ci := 7) (n := 11) (r := (RX7, TX7, 11)) k_28 rfl rfl) (Nat.le_of_ble_eq_true rfl) h rfl (fun r11 μ12 h => ?_)
      refine WP_iload_n dX7_split_62 rfl rfl ?_
      refine WP_iconst dX7_split_63 (by decide) ?_
      refine WQ_invVv (v := (2, 28)) (as := [(0, r11), (0, x3), (0, 0)]) dX7_split_64 l_X7_68 mw_X7_putToken mi_X7_putToken ms_X7_putToken mo_X7_putToken (rcv (ci := 7) (n := 11) (r := (RX7, TX7, 11)) k_28 rfl rfl) (Nat.le_of_ble_eq_true rfl) h rfl (fun μ14 h => ?_)
      refine WP_goto (tgt := 164) dX7_split_67 (by decide) ?_
      refine WP_iload_n dX7_split_164 rfl rfl ?_
      refine WP_istore_n (L' := [(2, 28), (0, x1), (0, x2), (0, x2), (9, 0), (9, 0)]) dX7_split_165 rfl (by decide) rfl ?_
      refine WP_goto (tgt := 7) dX7_split_166 (by decide) ?_
      refine WP_lforget (L' := [(2, 28), (0, x1), (9, 0), (0, x2), (9, 0), (9, 0)]) rfl (fun i hi => ?_) h
      match i, hi with
      | 0, _ => exact Or.inl rfl
      | 1, _ => exact Or.inl rfl
      | 2, _ => exact Or.inr rfl
      | 3, _ => exact Or.inl rfl
      | 4, _ => exact Or.inl rfl
      | 5, _ => exact Or.inl rfl
      | i + 6, hi => exact absurd hi (by simp only [List.length_cons, List.length_nil]; omega)
    · replace h := h.2 c10
      obtain ⟨g15, h⟩ := h
      refine WQ_iinc dX7_split_49 rfl (by decide) g15 (fun v16 e16 => ?_)
      refine WP_same (L' := [(2, 28), (0, x1), (0, v16), (0, x3), (9, 0), (9, 0)]) rfl ?_
      replace h := h v16 e16
      refine WP_goto (tgt := 32) dX7_split_52 (by decide) ?_
      exact h

theorem s_X7_split_78 {d : Nat} {sc : SC} {Q : Mem → Prop} {μ : Mem} {x1 x2 x3 : Int}
    (h : (x1 ≤ x2 → CAv mX7_putNumber d sc [(2, 28), (0, x3), (0, x2)] μ (fun μ3 => WQ mX7_split d sc (ZV sc Q) 7 [(2, 28), (0, x1), (9, 0), (0, x2), (9, 0), (9, 0)] [] μ3)) ∧ (x2 < x1 → kd0 (μ 28 2) = some (4, 900) ∧ (0 ≤ x2 ∧ x2 < 900) ∧ CAi mX7_isDigit d sc [(0, μ (μ 28 2) x2)] μ (fun r6 μ7 => (r6 = 0 → CAv mX7_putNumber d sc [(2, 28), (0, x3), (0, x2)] μ7 (fun μ10 => WQ mX7_split d sc (ZV sc Q) 7 [(2, 28), (0, x1), (9, 0), (0, x2), (9, 0), (9, 0)] [] μ10)) ∧ (r6 ≠ 0 → (-2147483648 ≤ x2 + 1 ∧ x2 + 1 < 2147483648) ∧ ∀ v12 : Int, v12 = x2 + 1 → WQ mX7_split d sc (ZV sc Q) 78 [(2, 28), (0, x1), (0, v12), (0, x3), (9, 0), (9, 0)] [] μ7)))) :
    WQ mX7_split d sc (ZV sc Q) 78 [(2, 28), (0, x1), (0, x2), (0, x3), (9, 0), (9, 0)] [] μ := by
  refine WP_iload_n dX7_split_78 rfl rfl ?_
  refine WP_iload_n dX7_split_79 rfl rfl ?_
  refine WQ_icmp_ge (tgt := 101) dX7_split_80 (by decide) (fun c1 => ?_) (fun c1 => ?_)
  · replace h := h.1 c1
    refine WP_aload_n dX7_split_101 rfl rfl ⟨Nat.le_of_ble_eq_true rfl, Nat.le_of_ble_eq_true rfl⟩ ?_
    refine WP_iload_n dX7_split_102 rfl rfl ?_
    refine WP_iload_n dX7_split_103 rfl rfl ?_
    refine WQ_invVv (v := (2, 28)) (as := [(0, x3), (0, x2)]) dX7_split_104 l_X7_75 mw_X7_putNumber mi_X7_putNumber ms_X7_putNumber mo_X7_putNumber (rcv (ci := 7) (n := 11) (r := (RX7, TX7, 11)) k_28 rfl rfl) (Nat.le_of_ble_eq_true rfl) h rfl (fun μ3 h => ?_)
    refine WP_goto (tgt := 164) dX7_split_107 (by decide) ?_
    refine WP_iload_n dX7_split_164 rfl rfl ?_
    refine WP_istore_n (L' := [(2, 28), (0, x1), (0, x2), (0, x2), (9, 0), (9, 0)]) dX7_split_165 rfl (by decide) rfl ?_
    refine WP_goto (tgt := 7) dX7_split_166 (by decide) ?_
    refine WP_lforget (L' := [(2, 28), (0, x1), (9, 0), (0, x2), (9, 0), (9, 0)]) rfl (fun i hi => ?_) h
    match i, hi with
    | 0, _ => exact Or.inl rfl
    | 1, _ => exact Or.inl rfl
    | 2, _ => exact Or.inr rfl
    | 3, _ => exact Or.inl rfl
    | 4, _ => exact Or.inl rfl
    | 5, _ => exact Or.inl rfl
    | i + 6, hi => exact absurd hi (by simp only [List.length_cons, List.length_nil]; omega)
  · replace h := h.2 c1
    refine WP_aload_n dX7_split_83 rfl rfl ⟨Nat.le_of_ble_eq_true rfl, Nat.le_of_ble_eq_true rfl⟩ ?_
    refine WP_getfield (ci := 7) (j := 2) (n := 11) (t := 2) (x := μ 28 2) dX7_split_84 f_X7_25 k_28 rfl rfl ?_
    refine WP_iload_n dX7_split_87 rfl rfl ?_
    obtain ⟨g4, h⟩ := h
    obtain ⟨g5, h⟩ := h
    refine WP_baload (n := 900) dX7_split_88 g4 g5 ?_
    refine WQ_invSi (as := [(0, μ (μ 28 2) x2)]) dX7_split_89 l_X7_72 mw_X7_isDigit mt_X7_isDigit mo_X7_isDigit (Nat.le_of_ble_eq_true rfl) h rfl (fun r6 μ7 h => ?_)
    refine WQ_ifeq (tgt := 101) dX7_split_92 (by decide) (fun c8 => ?_) (fun c8 => ?_)
    · replace h := h.1 c8
      refine WP_aload_n dX7_split_101 rfl rfl ⟨Nat.le_of_ble_eq_true rfl, Nat.le_of_ble_eq_true rfl⟩ ?_
      refine WP_iload_n dX7_split_102 rfl rfl ?_
      refine WP_iload_n dX7_split_103 rfl rfl ?_
      refine WQ_invVv (v := (2, 28)) (as := [(0, x3), (0, x2)]) dX7_split_104 l_X7_75 mw_X7_putNumber mi_X7_putNumber ms_X7_putNumber mo_X7_putNumber (rcv (ci := 7) (n := 11) (r := (RX7, TX7, 11)) k_28 rfl rfl) (Nat.le_of_ble_eq_true rfl) h rfl (fun μ10 h => ?_)
      refine WP_goto (tgt := 164) dX7_split_107 (by decide) ?_
      refine WP_iload_n dX7_split_164 rfl rfl ?_
      refine WP_istore_n (L' := [(2, 28), (0, x1), (0, x2), (0, x2), (9, 0), (9, 0)]) dX7_split_165 rfl (by decide) rfl ?_
      refine WP_goto (tgt := 7) dX7_split_166 (by decide) ?_
      refine WP_lforget (L' := [(2, 28), (0, x1), (9, 0), (0, x2), (9, 0), (9, 0)]) rfl (fun i hi => ?_) h
      match i, hi with
      | 0, _ => exact Or.inl rfl
      | 1, _ => exact Or.inl rfl
      | 2, _ => exact Or.inr rfl
      | 3, _ => exact Or.inl rfl
      | 4, _ => exact Or.inl rfl
      | 5, _ => exact Or.inl rfl
      | i + 6, hi => exact absurd hi (by simp only [List.length_cons, List.length_nil]; omega)
    · replace h := h.2 c8
      obtain ⟨g11, h⟩ := h
      refine WQ_iinc dX7_split_95 rfl (by decide) g11 (fun v12 e12 => ?_)
      refine WP_same (L' := [(2, 28), (0, x1), (0, v12), (0, x3), (9, 0), (9, 0)]) rfl ?_
      replace h := h v12 e12
      refine WP_goto (tgt := 78) dX7_split_98 (by decide) ?_
      exact h

theorem s_X7_step_0 {d : Nat} {sc : SC} {Q : Mem → Prop} {μ : Mem}
    (h : (μ 28 0 ≠ 0 → Q μ) ∧ (μ 28 0 = 0 → (-2147483648 ≤ (μ 28 8) + 1 ∧ (μ 28 8) + 1 < 2147483648) ∧ (μ 28 4 ≤ (μ 28 8) + 1 → Q μ) ∧ ((μ 28 8) + 1 < μ 28 4 → (-2147483648 ≤ (μ 28 8) + 1 ∧ (μ 28 8) + 1 < 2147483648) ∧ (∀ μ5, μ5 = mup μ 28 8 ((μ 28 8) + 1) → Q μ5)))) :
    WQ mX7_step d sc (ZV sc Q) 0 [(2, 28)] [] μ := by
  refine WP_aload_n dX7_step_0 rfl rfl ⟨Nat.le_of_ble_eq_true rfl, Nat.le_of_ble_eq_true rfl⟩ ?_
  refine WP_getfield (ci := 7) (j := 0) (n := 11) (t := 0) (x := μ 28 0) dX7_step_1 f_X7_48 k_28 rfl rfl ?_
  refine WQ_ifne (tgt := 30) dX7_step_4 (by decide) (fun c1 => ?_) (fun c1 => ?_)
  · replace h := h.1 c1
    exact WQ_return dX7_step_30 rfl h
  · replace h := h.2 c1
    refine WP_aload_n dX7_step_7 rfl rfl ⟨Nat.le_of_ble_eq_true rfl, Nat.le_of_ble_eq_true rfl⟩ ?_
    refine WP_getfield (ci := 7) (j := 8) (n := 11) (t := 0) (x := μ 28 8) dX7_step_8 f_X7_42 k_28 rfl rfl ?_
    refine WP_iconst dX7_step_11 (by decide) ?_
    obtain ⟨g2, h⟩ := h
    refine WP_iadd dX7_step_12 g2 ?_
    refine WP_aload_n dX7_step_13 rfl rfl ⟨Nat.le_of_ble_eq_true rfl, Nat.le_of_ble_eq_true rfl⟩ ?_
    refine WP_getfield (ci := 7) (j := 4) (n := 11) (t := 0) (x := μ 28 4) dX7_step_14 f_X7_54 k_28 rfl rfl ?_
    refine WQ_icmp_ge (tgt := 30) dX7_step_17 (by decide) (fun c3 => ?_) (fun c3 => ?_)
    · replace h := h.1 c3
      exact WQ_return dX7_step_30 rfl h
    · replace h := h.2 c3
      refine WP_aload_n dX7_step_20 rfl rfl ⟨Nat.le_of_ble_eq_true rfl, Nat.le_of_ble_eq_true rfl⟩ ?_
      refine WP_dup dX7_step_21 (by simp) ?_
      refine WP_getfield (ci := 7) (j := 8) (n := 11) (t := 0) (x := μ 28 8) dX7_step_22 f_X7_42 k_28 rfl rfl ?_
      refine WP_iconst dX7_step_25 (by decide) ?_
      obtain ⟨g4, h⟩ := h
      refine WP_iadd dX7_step_26 g4 ?_
      refine WQ_put (ci := 7) (j := 8) (n := 11) dX7_step_27 f_X7_42 k_28 rfl (fun μ5 eμ5 => ?_)
      replace h := h μ5 eμ5
      exact WQ_return dX7_step_30 rfl h

theorem s_X7_wordKind_0 {d : Nat} {sc : SC} {Q : Int → Mem → Prop} {μ : Mem} {a1 a2 : Int}
    (h : WQ mX7_wordKind d sc (ZI sc Q) 2 [(2, 28), (0, a1), (0, a2), (0, 0), (9, 0)] [] μ) :
    WQ mX7_wordKind d sc (ZI sc Q) 0 [(2, 28), (0, a1), (0, a2), (9, 0), (9, 0)] [] μ := by
  refine WP_iconst dX7_wordKind_0 (by decide) ?_
  refine WP_istore_n (L' := [(2, 28), (0, a1), (0, a2), (0, 0), (9, 0)]) dX7_wordKind_1 rfl (by decide) rfl ?_
  exact h

theorem s_X7_wordKind_2 {d : Nat} {sc : SC} {Q : Int → Mem → Prop} {μ : Mem} {x1 x2 x3 : Int}
    (h : (24 ≤ x3 → Q 51 μ) ∧ (x3 < 24 → (-2147483648 ≤ x2 - x1 ∧ x2 - x1 < 2147483648) ∧ (8 ≤ x2 - x1 → Q 51 μ) ∧ (x2 - x1 < 8 → WQ mX7_wordKind d sc (ZI sc Q) 19 [(2, 28), (0, x1), (0, x2), (0, x3), (0, 0)] [] μ))) :
    WQ mX7_wordKind d sc (ZI sc Q) 2 [(2, 28), (0, x1), (0, x2), (0, x3), (9, 0)] [] μ := by
  refine WP_iload_n dX7_wordKind_2 rfl rfl ?_
  refine WP_bipush dX7_wordKind_3 (by decide +kernel) (by decide) ?_
  refine WQ_icmp_ge (tgt := 90) dX7_wordKind_5 (by decide) (fun c1 => ?_) (fun c1 => ?_)
  · replace h := h.1 c1
    refine WP_bipush dX7_wordKind_90 (by decide +kernel) (by decide) ?_
    exact WQ_ireturn dX7_wordKind_92 rfl h
  · replace h := h.2 c1
    refine WP_iload_n dX7_wordKind_8 rfl rfl ?_
    refine WP_iload_n dX7_wordKind_9 rfl rfl ?_
    obtain ⟨g2, h⟩ := h
    refine WP_isub dX7_wordKind_10 g2 ?_
    refine WP_bipush dX7_wordKind_11 (by decide +kernel) (by decide) ?_
    refine WQ_icmp_ge (tgt := 90) dX7_wordKind_13 (by decide) (fun c3 => ?_) (fun c3 => ?_)
    · replace h := h.1 c3
      refine WP_bipush dX7_wordKind_90 (by decide +kernel) (by decide) ?_
      exact WQ_ireturn dX7_wordKind_92 rfl h
    · replace h := h.2 c3
      refine WP_iconst dX7_wordKind_16 (by decide) ?_
      refine WP_istore (L' := [(2, 28), (0, x1), (0, x2), (0, x3), (0, 0)]) dX7_wordKind_17 (by decide) rfl ?_
      exact h

theorem s_X7_wordKind_19 {d : Nat} {sc : SC} {Q : Int → Mem → Prop} {μ : Mem} {x1 x2 x3 x4 : Int}
    (h : (-2147483648 ≤ x1 + x4 ∧ x1 + x4 < 2147483648) ∧ (x2 ≤ x1 + x4 → (-2147483648 ≤ x1 + x4 ∧ x1 + x4 < 2147483648) ∧ (x1 + x4 ≠ x2 → (-2147483648 ≤ x3 + 1 ∧ x3 + 1 < 2147483648) ∧ ∀ v6 : Int, v6 = x3 + 1 → WQ mX7_wordKind d sc (ZI sc Q) 2 [(2, 28), (0, x1), (0, x2), (0, v6), (9, 0)] [] μ) ∧ (x1 + x4 = x2 → (-2147483648 ≤ x3 * 8 ∧ x3 * 8 < 2147483648) ∧ (-2147483648 ≤ (x3 * 8) + x4 ∧ (x3 * 8) + x4 < 2147483648) ∧ CAi mJ0_charAt_5068e d sc [(3, 0), (0, (x3 * 8) + x4)] μ (fun r9 μ10 => (r9 ≠ 32 → (-2147483648 ≤ x3 + 1 ∧ x3 + 1 < 2147483648) ∧ ∀ v13 : Int, v13 = x3 + 1 → WQ mX7_wordKind d sc (ZI sc Q) 2 [(2, 28), (0, x1), (0, x2), (0, v13), (9, 0)] [] μ10) ∧ (r9 = 32 → Q x3 μ10)))) ∧ (x1 + x4 < x2 → (-2147483648 ≤ x1 + x4 ∧ x1 + x4 < 2147483648) ∧ kd0 (μ 28 2) = some (4, 900) ∧ (0 ≤ x1 + x4 ∧ x1 + x4 < 900) ∧ (-2147483648 ≤ x3 * 8 ∧ x3 * 8 < 2147483648) ∧ (-2147483648 ≤ (x3 * 8) + x4 ∧ (x3 * 8) + x4 < 2147483648) ∧ CAi mJ0_charAt_5068e d sc [(3, 0), (0, (x3 * 8) + x4)] μ (fun r19 μ20 => (μ (μ 28 2) (x1 + x4) ≠ r19 → (-2147483648 ≤ x1 + x4 ∧ x1 + x4 < 2147483648) ∧ (x1 + x4 ≠ x2 → (-2147483648 ≤ x3 + 1 ∧ x3 + 1 < 2147483648) ∧ ∀ v25 : Int, v25 = x3 + 1 → WQ mX7_wordKind d sc (ZI sc Q) 2 [(2, 28), (0, x1), (0, x2), (0, v25), (9, 0)] [] μ20) ∧ (x1 + x4 = x2 → (-2147483648 ≤ x3 * 8 ∧ x3 * 8 < 2147483648) ∧ (-2147483648 ≤ (x3 * 8) + x4 ∧ (x3 * 8) + x4 < 2147483648) ∧ CAi mJ0_charAt_5068e d sc [(3, 0), (0, (x3 * 8) + x4)] μ20 (fun r28 μ29 => (r28 ≠ 32 → (-2147483648 ≤ x3 + 1 ∧ x3 + 1 < 2147483648) ∧ ∀ v32 : Int, v32 = x3 + 1 → WQ mX7_wordKind d sc (ZI sc Q) 2 [(2, 28), (0, x1), (0, x2), (0, v32), (9, 0)] [] μ29) ∧ (r28 = 32 → Q x3 μ29)))) ∧ (μ (μ 28 2) (x1 + x4) = r19 → (-2147483648 ≤ x4 + 1 ∧ x4 + 1 < 2147483648) ∧ ∀ v34 : Int, v34 = x4 + 1 → WQ mX7_wordKind d sc (ZI sc Q) 19 [(2, 28), (0, x1), (0, x2), (0, x3), (0, v34)] [] μ20)))) :
    WQ mX7_wordKind d sc (ZI sc Q) 19 [(2, 28), (0, x1), (0, x2), (0, x3), (0, x4)] [] μ := by
  refine WP_iload_n dX7_wordKind_19 rfl rfl ?_
  refine WP_iload dX7_wordKind_20 rfl ?_
  obtain ⟨g1, h⟩ := h
  refine WP_iadd dX7_wordKind_22 g1 ?_
  refine WP_iload_n dX7_wordKind_23 rfl rfl ?_
  refine WQ_icmp_ge (tgt := 57) dX7_wordKind_24 (by decide) (fun c2 => ?_) (fun c2 => ?_)
  · replace h := h.1 c2
    refine WP_iload_n dX7_wordKind_57 rfl rfl ?_
    refine WP_iload dX7_wordKind_58 rfl ?_
    obtain ⟨g3, h⟩ := h
    refine WP_iadd dX7_wordKind_60 g3 ?_
    refine WP_iload_n dX7_wordKind_61 rfl rfl ?_
    refine WQ_icmp_ne (tgt := 84) dX7_wordKind_62 (by decide) (fun c4 => ?_) (fun c4 => ?_)
    · replace h := h.1 c4
      obtain ⟨g5, h⟩ := h
      refine WQ_iinc dX7_wordKind_84 rfl (by decide) g5 (fun v6 e6 => ?_)
      refine WP_same (L' := [(2, 28), (0, x1), (0, x2), (0, v6), (0, x4)]) rfl ?_
      replace h := h v6 e6
      refine WP_goto (tgt := 2) dX7_wordKind_87 (by decide) ?_
      refine WP_lforget (L' := [(2, 28), (0, x1), (0, x2), (0, v6), (9, 0)]) rfl (fun i hi => ?_) h
      match i, hi with
      | 0, _ => exact Or.inl rfl
      | 1, _ => exact Or.inl rfl
      | 2, _ => exact Or.inl rfl
      | 3, _ => exact Or.inl rfl
      | 4, _ => exact Or.inr rfl
      | i + 5, hi => exact absurd hi (by simp only [List.length_cons, List.length_nil]; omega)
    · replace h := h.2 c4
      refine WP_ldcS (i := 0) dX7_wordKind_65 (by decide) rfl rfl ?_
      refine WP_iload_n dX7_wordKind_67 rfl rfl ?_
      refine WP_bipush dX7_wordKind_68 (by decide +kernel) (by decide) ?_
      obtain ⟨g7, h⟩ := h
      refine WP_imul dX7_wordKind_70 g7 ?_
      refine WP_iload dX7_wordKind_71 rfl ?_
      obtain ⟨g8, h⟩ := h
      refine WP_iadd dX7_wordKind_73 g8 ?_
      refine WQ_invVi (v := (3, 0)) (as := [(0, (x3 * 8) + x4)]) dX7_wordKind_74 l_X7_89 mw_J0_charAt_5068e mi_J0_charAt_5068e ms_J0_charAt_5068e mo_J0_charAt_5068e (rcv_tx rfl) (Nat.le_of_ble_eq_true rfl) h rfl (fun r9 μ10 h => ?_)
      refine WP_bipush dX7_wordKind_77 (by decide +kernel) (by decide) ?_
      refine WQ_icmp_ne (tgt := 84) dX7_wordKind_79 (by decide) (fun c11 => ?_) (fun c11 => ?_)
      · replace h := h.1 c11
        obtain ⟨g12, h⟩ := h
        refine WQ_iinc dX7_wordKind_84 rfl (by decide) g12 (fun v13 e13 => ?_)
        refine WP_same (L' := [(2, 28), (0, x1), (0, x2), (0, v13), (0, x4)]) rfl ?_
        replace h := h v13 e13
        refine WP_goto (tgt := 2) dX7_wordKind_87 (by decide) ?_
        refine WP_lforget (L' := [(2, 28), (0, x1), (0, x2), (0, v13), (9, 0)]) rfl (fun i hi => ?_) h
        match i, hi with
        | 0, _ => exact Or.inl rfl
        | 1, _ => exact Or.inl rfl
        | 2, _ => exact Or.inl rfl
        | 3, _ => exact Or.inl rfl
        | 4, _ => exact Or.inr rfl
        | i + 5, hi => exact absurd hi (by simp only [List.length_cons, List.length_nil]; omega)
      · replace h := h.2 c11
        refine WP_iload_n dX7_wordKind_82 rfl rfl ?_
        exact WQ_ireturn dX7_wordKind_83 rfl h
  · replace h := h.2 c2
    refine WP_aload_n dX7_wordKind_27 rfl rfl ⟨Nat.le_of_ble_eq_true rfl, Nat.le_of_ble_eq_true rfl⟩ ?_
    refine WP_getfield (ci := 7) (j := 2) (n := 11) (t := 2) (x := μ 28 2) dX7_wordKind_28 f_X7_25 k_28 rfl rfl ?_
    refine WP_iload_n dX7_wordKind_31 rfl rfl ?_
    refine WP_iload dX7_wordKind_32 rfl ?_
    obtain ⟨g14, h⟩ := h
    refine WP_iadd dX7_wordKind_34 g14 ?_
    obtain ⟨g15, h⟩ := h
    obtain ⟨g16, h⟩ := h
    refine WP_baload (n := 900) dX7_wordKind_35 g15 g16 ?_
    refine WP_ldcS (i := 0) dX7_wordKind_36 (by decide) rfl rfl ?_
    refine WP_iload_n dX7_wordKind_38 rfl rfl ?_
    refine WP_bipush dX7_wordKind_39 (by decide +kernel) (by decide) ?_
    obtain ⟨g17, h⟩ := h
    refine WP_imul dX7_wordKind_41 g17 ?_
    refine WP_iload dX7_wordKind_42 rfl ?_
    obtain ⟨g18, h⟩ := h
    refine WP_iadd dX7_wordKind_44 g18 ?_
    refine WQ_invVi (v := (3, 0)) (as := [(0, (x3 * 8) + x4)]) dX7_wordKind_45 l_X7_89 mw_J0_charAt_5068e mi_J0_charAt_5068e ms_J0_charAt_5068e mo_J0_charAt_5068e (rcv_tx rfl) (Nat.le_of_ble_eq_true rfl) h rfl (fun r19 μ20 h => ?_)
    refine WQ_icmp_ne (tgt := 57) dX7_wordKind_48 (by decide) (fun c21 => ?_) (fun c21 => ?_)
    · replace h := h.1 c21
      refine WP_iload_n dX7_wordKind_57 rfl rfl ?_
      refine WP_iload dX7_wordKind_58 rfl ?_
      obtain ⟨g22, h⟩ := h
      refine WP_iadd dX7_wordKind_60 g22 ?_
      refine WP_iload_n dX7_wordKind_61 rfl rfl ?_
      refine WQ_icmp_ne (tgt := 84) dX7_wordKind_62 (by decide) (fun c23 => ?_) (fun c23 => ?_)
      · replace h := h.1 c23
        obtain ⟨g24, h⟩ := h
        refine WQ_iinc dX7_wordKind_84 rfl (by decide) g24 (fun v25 e25 => ?_)
        refine WP_same (L' := [(2, 28), (0, x1), (0, x2), (0, v25), (0, x4)]) rfl ?_
        replace h := h v25 e25
        refine WP_goto (tgt := 2) dX7_wordKind_87 (by decide) ?_
        refine WP_lforget (L' := [(2, 28), (0, x1), (0, x2), (0, v25), (9, 0)]) rfl (fun i hi => ?_) h
        match i, hi with
        | 0, _ => exact Or.inl rfl
        | 1, _ => exact Or.inl rfl
        | 2, _ => exact Or.inl rfl
        | 3, _ => exact Or.inl rfl
        | 4, _ => exact Or.inr rfl
        | i + 5, hi => exact absurd hi (by simp only [List.length_cons, List.length_nil]; omega)
      · replace h := h.2 c23
        refine WP_ldcS (i := 0) dX7_wordKind_65 (by decide) rfl rfl ?_
        refine WP_iload_n dX7_wordKind_67 rfl rfl ?_
        refine WP_bipush dX7_wordKind_68 (by decide +kernel) (by decide) ?_
        obtain ⟨g26, h⟩ := h
        refine WP_imul dX7_wordKind_70 g26 ?_
        refine WP_iload dX7_wordKind_71 rfl ?_
        obtain ⟨g27, h⟩ := h
        refine WP_iadd dX7_wordKind_73 g27 ?_
        refine WQ_invVi (v := (3, 0)) (as := [(0, (x3 * 8) + x4)]) dX7_wordKind_74 l_X7_89 mw_J0_charAt_5068e mi_J0_charAt_5068e ms_J0_charAt_5068e mo_J0_charAt_5068e (rcv_tx rfl) (Nat.le_of_ble_eq_true rfl) h rfl (fun r28 μ29 h => ?_)
        refine WP_bipush dX7_wordKind_77 (by decide +kernel) (by decide) ?_
        refine WQ_icmp_ne (tgt := 84) dX7_wordKind_79 (by decide) (fun c30 => ?_) (fun c30 => ?_)
        · replace h := h.1 c30
          obtain ⟨g31, h⟩ := h
          refine WQ_iinc dX7_wordKind_84 rfl (by decide) g31 (fun v32 e32 => ?_)
          refine WP_same (L' := [(2, 28), (0, x1), (0, x2), (0, v32), (0, x4)]) rfl ?_
          replace h := h v32 e32
          refine WP_goto (tgt := 2) dX7_wordKind_87 (by decide) ?_
          refine WP_lforget (L' := [(2, 28), (0, x1), (0, x2), (0, v32), (9, 0)]) rfl (fun i hi => ?_) h
          match i, hi with
          | 0, _ => exact Or.inl rfl
          | 1, _ => exact Or.inl rfl
          | 2, _ => exact Or.inl rfl
          | 3, _ => exact Or.inl rfl
          | 4, _ => exact Or.inr rfl
          | i + 5, hi => exact absurd hi (by simp only [List.length_cons, List.length_nil]; omega)
        · replace h := h.2 c30
          refine WP_iload_n dX7_wordKind_82 rfl rfl ?_
          exact WQ_ireturn dX7_wordKind_83 rfl h
    · replace h := h.2 c21
      obtain ⟨g33, h⟩ := h
      refine WQ_iinc dX7_wordKind_51 rfl (by decide) g33 (fun v34 e34 => ?_)
      refine WP_same (L' := [(2, 28), (0, x1), (0, x2), (0, x3), (0, v34)]) rfl ?_
      replace h := h v34 e34
      refine WP_goto (tgt := 19) dX7_wordKind_54 (by decide) ?_
      exact h

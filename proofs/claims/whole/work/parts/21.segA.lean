/-! segments, printed by program -/
theorem s_X0_clear_0 {d : Nat} {sc : SC} {Q : Mem → Prop} {μ : Mem} {a0 : Int} (ha0 : isK 0 a0)
    (h : ∀ μ1, μ1 = mup μ a0 0 0 → ∀ μ2, μ2 = mup μ1 a0 13 0 → ∀ μ3, μ3 = mup μ2 a0 6 (-1) → CAv mJ7_fill_53178 d sc [(2, a0 + 3), (0, 0)] μ3 (fun μ5 => CAv mJ7_fill_53178 d sc [(2, a0 + 4), (0, 0)] μ5 (fun μ7 => CAv mJ7_fill_53178 d sc [(2, a0 + 5), (0, 0)] μ7 (fun μ9 => CAv mJ7_fill_53178 d sc [(2, a0 + 8), (0, (-1))] μ9 (fun μ11 => CAv mJ7_fill_53178 d sc [(2, a0 + 6), (0, (-1))] μ11 (fun μ13 => isK 6 (μ13 a0 7) ∧ (-2147483648 ≤ (μ13 (μ13 a0 7) 0) - 1 ∧ (μ13 (μ13 a0 7) 0) - 1 < 2147483648) ∧ (∀ v16 : Int, v16 = (μ13 (μ13 a0 7) 0) - 1 → WQ mX0_clear d sc (ZV sc Q) 65 [(2, a0), (0, v16)] [] μ13))))))) :
    WQ mX0_clear d sc (ZV sc Q) 0 [(2, a0), (9, 0)] [] μ := by
  refine WP_aload_n dX0_clear_0 rfl rfl ⟨Nat.le_of_ble_eq_true rfl, Nat.le_of_ble_eq_true rfl⟩ ?_
  refine WP_iconst dX0_clear_1 (by decide) ?_
  refine WQ_put (ci := 0) (j := 0) (n := 16) dX0_clear_2 f_X0_56 ha0 rfl (fun μ1 eμ1 => ?_)
  replace h := h μ1 eμ1
  refine WP_aload_n dX0_clear_5 rfl rfl ⟨Nat.le_of_ble_eq_true rfl, Nat.le_of_ble_eq_true rfl⟩ ?_
  refine WP_iconst dX0_clear_6 (by decide) ?_
  refine WQ_put (ci := 0) (j := 13) (n := 16) dX0_clear_7 f_X0_75 ha0 rfl (fun μ2 eμ2 => ?_)
  replace h := h μ2 eμ2
  refine WP_aload_n dX0_clear_10 rfl rfl ⟨Nat.le_of_ble_eq_true rfl, Nat.le_of_ble_eq_true rfl⟩ ?_
  refine WP_iconst dX0_clear_11 (by decide) ?_
  refine WQ_put (ci := 0) (j := 6) (n := 16) dX0_clear_12 f_X0_68 ha0 rfl (fun μ3 eμ3 => ?_)
  replace h := h μ3 eμ3
  refine WP_aload_n dX0_clear_15 rfl rfl ⟨Nat.le_of_ble_eq_true rfl, Nat.le_of_ble_eq_true rfl⟩ ?_
  refine WP_getfield (ci := 0) (j := 3) (n := 16) (t := 2) (x := a0 + 3) dX0_clear_16 f_X0_18 ha0 rfl rfl ?_
  refine WP_iconst dX0_clear_19 (by decide) ?_
  refine WQ_invSv (as := [(2, a0 + 3), (0, 0)]) dX0_clear_20 l_X0_78 mw_J7_fill_53178 mt_J7_fill_53178 mo_J7_fill_53178 (Nat.le_of_ble_eq_true rfl) h rfl (fun μ5 h => ?_)
  refine WP_aload_n dX0_clear_23 rfl rfl ⟨Nat.le_of_ble_eq_true rfl, Nat.le_of_ble_eq_true rfl⟩ ?_
  refine WP_getfield (ci := 0) (j := 4) (n := 16) (t := 2) (x := a0 + 4) dX0_clear_24 f_X0_21 ha0 rfl rfl ?_
  refine WP_iconst dX0_clear_27 (by decide) ?_
  refine WQ_invSv (as := [(2, a0 + 4), (0, 0)]) dX0_clear_28 l_X0_78 mw_J7_fill_53178 mt_J7_fill_53178 mo_J7_fill_53178 (Nat.le_of_ble_eq_true rfl) h rfl (fun μ7 h => ?_)
  refine WP_aload_n dX0_clear_31 rfl rfl ⟨Nat.le_of_ble_eq_true rfl, Nat.le_of_ble_eq_true rfl⟩ ?_
  refine WP_getfield (ci := 0) (j := 5) (n := 16) (t := 2) (x := a0 + 5) dX0_clear_32 f_X0_24 ha0 rfl rfl ?_
  refine WP_iconst dX0_clear_35 (by decide) ?_
  refine WQ_invSv (as := [(2, a0 + 5), (0, 0)]) dX0_clear_36 l_X0_78 mw_J7_fill_53178 mt_J7_fill_53178 mo_J7_fill_53178 (Nat.le_of_ble_eq_true rfl) h rfl (fun μ9 h => ?_)
  refine WP_aload_n dX0_clear_39 rfl rfl ⟨Nat.le_of_ble_eq_true rfl, Nat.le_of_ble_eq_true rfl⟩ ?_
  refine WP_getfield (ci := 0) (j := 11) (n := 16) (t := 2) (x := a0 + 8) dX0_clear_40 f_X0_33 ha0 rfl rfl ?_
  refine WP_iconst dX0_clear_43 (by decide) ?_
  refine WQ_invSv (as := [(2, a0 + 8), (0, (-1))]) dX0_clear_44 l_X0_78 mw_J7_fill_53178 mt_J7_fill_53178 mo_J7_fill_53178 (Nat.le_of_ble_eq_true rfl) h rfl (fun μ11 h => ?_)
  refine WP_aload_n dX0_clear_47 rfl rfl ⟨Nat.le_of_ble_eq_true rfl, Nat.le_of_ble_eq_true rfl⟩ ?_
  refine WP_getfield (ci := 0) (j := 9) (n := 16) (t := 2) (x := a0 + 6) dX0_clear_48 f_X0_27 ha0 rfl rfl ?_
  refine WP_iconst dX0_clear_51 (by decide) ?_
  refine WQ_invSv (as := [(2, a0 + 6), (0, (-1))]) dX0_clear_52 l_X0_78 mw_J7_fill_53178 mt_J7_fill_53178 mo_J7_fill_53178 (Nat.le_of_ble_eq_true rfl) h rfl (fun μ13 h => ?_)
  refine WP_aload_n dX0_clear_55 rfl rfl ⟨Nat.le_of_ble_eq_true rfl, Nat.le_of_ble_eq_true rfl⟩ ?_
  refine WP_getfield (ci := 0) (j := 7) (n := 16) (t := 2) (x := μ13 a0 7) dX0_clear_56 f_X0_45 ha0 rfl rfl ?_
  obtain ⟨g14, h⟩ := h
  refine WP_getfield (ci := 6) (j := 0) (n := 7) (t := 0) (x := μ13 (μ13 a0 7) 0) dX0_clear_59 f_X0_84 g14 rfl rfl ?_
  refine WP_iconst dX0_clear_62 (by decide) ?_
  obtain ⟨g15, h⟩ := h
  refine WP_isub dX0_clear_63 g15 ?_
  refine WQ_nm0 (fun v16 e16 => ?_)
  replace h := h v16 e16
  refine WP_istore_n (L' := [(2, a0), (0, v16)]) dX0_clear_64 rfl (by decide) rfl ?_
  exact h

theorem s_X0_clear_65 {d : Nat} {sc : SC} {Q : Mem → Prop} {μ : Mem} {x0 x1 : Int} (hx0 : isK 0 x0)
    (h : (x1 < 0 → Q μ) ∧ (0 ≤ x1 → isK 6 (μ x0 7) ∧ (0 ≤ x1 ∧ x1 < 10) ∧ (0 ≤ μ (μ x0 7 + 3) x1 ∧ μ (μ x0 7 + 3) x1 < 100) ∧ (0 ≤ x1 ∧ x1 < 10) ∧ (∀ μ6, μ6 = mup μ (x0 + 7) x1 (μ (x0 + 6) (μ (μ x0 7 + 3) x1)) → isK 6 (μ6 x0 7) ∧ (0 ≤ x1 ∧ x1 < 10) ∧ (0 ≤ μ6 (μ6 x0 7 + 3) x1 ∧ μ6 (μ6 x0 7 + 3) x1 < 100) ∧ (∀ μ10, μ10 = mup μ6 (x0 + 6) (μ6 (μ6 x0 7 + 3) x1) x1 → (-2147483648 ≤ x1 + (-1) ∧ x1 + (-1) < 2147483648) ∧ ∀ v12 : Int, v12 = x1 + (-1) → WQ mX0_clear d sc (ZV sc Q) 65 [(2, x0), (0, v12)] [] μ10)))) :
    WQ mX0_clear d sc (ZV sc Q) 65 [(2, x0), (0, x1)] [] μ := by
  refine WP_iload_n dX0_clear_65 rfl rfl ?_
  refine WQ_iflt (tgt := 110) dX0_clear_66 (by decide) (fun c1 => ?_) (fun c1 => ?_)
  · replace h := h.1 c1
    exact WQ_return dX0_clear_110 rfl h
  · replace h := h.2 c1
    refine WP_aload_n dX0_clear_69 rfl rfl ⟨Nat.le_of_ble_eq_true rfl, Nat.le_of_ble_eq_true rfl⟩ ?_
    refine WP_getfield (ci := 0) (j := 10) (n := 16) (t := 2) (x := x0 + 7) dX0_clear_70 f_X0_30 hx0 rfl rfl ?_
    refine WP_iload_n dX0_clear_73 rfl rfl ?_
    refine WP_aload_n dX0_clear_74 rfl rfl ⟨Nat.le_of_ble_eq_true rfl, Nat.le_of_ble_eq_true rfl⟩ ?_
    refine WP_getfield (ci := 0) (j := 9) (n := 16) (t := 2) (x := x0 + 6) dX0_clear_75 f_X0_27 hx0 rfl rfl ?_
    refine WP_aload_n dX0_clear_78 rfl rfl ⟨Nat.le_of_ble_eq_true rfl, Nat.le_of_ble_eq_true rfl⟩ ?_
    refine WP_getfield (ci := 0) (j := 7) (n := 16) (t := 2) (x := μ x0 7) dX0_clear_79 f_X0_45 hx0 rfl rfl ?_
    obtain ⟨g2, h⟩ := h
    refine WP_getfield (ci := 6) (j := 3) (n := 7) (t := 2) (x := μ x0 7 + 3) dX0_clear_82 f_X0_89 g2 rfl rfl ?_
    refine WP_iload_n dX0_clear_85 rfl rfl ?_
    obtain ⟨g3, h⟩ := h
    refine WP_iaload (n := 10) dX0_clear_86 (kf_6_3 g2) g3 ?_
    obtain ⟨g4, h⟩ := h
    refine WP_iaload (n := 100) dX0_clear_87 (kf_0_9 hx0) g4 ?_
    obtain ⟨g5, h⟩ := h
    refine WQ_iast (n := 10) dX0_clear_88 (kf_0_10 hx0) g5 (fun μ6 eμ6 => ?_)
    replace h := h μ6 eμ6
    refine WP_aload_n dX0_clear_89 rfl rfl ⟨Nat.le_of_ble_eq_true rfl, Nat.le_of_ble_eq_true rfl⟩ ?_
    refine WP_getfield (ci := 0) (j := 9) (n := 16) (t := 2) (x := x0 + 6) dX0_clear_90 f_X0_27 hx0 rfl rfl ?_
    refine WP_aload_n dX0_clear_93 rfl rfl ⟨Nat.le_of_ble_eq_true rfl, Nat.le_of_ble_eq_true rfl⟩ ?_
    refine WP_getfield (ci := 0) (j := 7) (n := 16) (t := 2) (x := μ6 x0 7) dX0_clear_94 f_X0_45 hx0 rfl rfl ?_
    obtain ⟨g7, h⟩ := h
    refine WP_getfield (ci := 6) (j := 3) (n := 7) (t := 2) (x := μ6 x0 7 + 3) dX0_clear_97 f_X0_89 g7 rfl rfl ?_
    refine WP_iload_n dX0_clear_100 rfl rfl ?_
    obtain ⟨g8, h⟩ := h
    refine WP_iaload (n := 10) dX0_clear_101 (kf_6_3 g7) g8 ?_
    refine WP_iload_n dX0_clear_102 rfl rfl ?_
    obtain ⟨g9, h⟩ := h
    refine WQ_iast (n := 100) dX0_clear_103 (kf_0_9 hx0) g9 (fun μ10 eμ10 => ?_)
    replace h := h μ10 eμ10
    obtain ⟨g11, h⟩ := h
    refine WQ_iinc dX0_clear_104 rfl (by decide) g11 (fun v12 e12 => ?_)
    refine WP_same (L' := [(2, x0), (0, v12)]) rfl ?_
    replace h := h v12 e12
    refine WP_goto (tgt := 65) dX0_clear_107 (by decide) ?_
    exact h

theorem s_X0_come_0 {d : Nat} {sc : SC} {Q : Int → Mem → Prop} {μ : Mem} {a0 a1 : Int} (ha0 : isK 0 a0)
    (h : (0 ≤ a1 ∧ a1 < 100) ∧ (∀ v2 : Int, v2 = μ (a0 + 8) a1 → WQ mX0_come d sc (ZI sc Q) 9 [(2, a0), (0, a1), (0, 0), (0, v2), (9, 0), (9, 0)] [] μ)) :
    WQ mX0_come d sc (ZI sc Q) 0 [(2, a0), (0, a1), (9, 0), (9, 0), (9, 0), (9, 0)] [] μ := by
  refine WP_iconst dX0_come_0 (by decide) ?_
  refine WP_istore_n (L' := [(2, a0), (0, a1), (0, 0), (9, 0), (9, 0), (9, 0)]) dX0_come_1 rfl (by decide) rfl ?_
  refine WP_aload_n dX0_come_2 rfl rfl ⟨Nat.le_of_ble_eq_true rfl, Nat.le_of_ble_eq_true rfl⟩ ?_
  refine WP_getfield (ci := 0) (j := 11) (n := 16) (t := 2) (x := a0 + 8) dX0_come_3 f_X0_33 ha0 rfl rfl ?_
  refine WP_iload_n dX0_come_6 rfl rfl ?_
  obtain ⟨g1, h⟩ := h
  refine WP_iaload (n := 100) dX0_come_7 (kf_0_11 ha0) g1 ?_
  refine WQ_nm0 (fun v2 e2 => ?_)
  replace h := h v2 e2
  refine WP_istore_n (L' := [(2, a0), (0, a1), (0, 0), (0, v2), (9, 0), (9, 0)]) dX0_come_8 rfl (by decide) rfl ?_
  exact h

theorem s_X0_come_9 {d : Nat} {sc : SC} {Q : Int → Mem → Prop} {μ : Mem} {x0 x1 x2 x3 : Int} (hx0 : isK 0 x0)
    (h : (x3 < 0 → Q x2 μ) ∧ (0 ≤ x3 → (512 ≤ μ x0 0 → Q x2 μ) ∧ (μ x0 0 < 512 → (0 ≤ x3 ∧ x3 < 512) ∧ (∀ v4 : Int, v4 = μ (x0 + 10) x3 → 0 ≤ v4 ∧ (∀ v6 : Int, v6 = v4 % 6 → (0 ≤ μ x0 0 ∧ μ x0 0 < 512) ∧ (∀ μ8, μ8 = mup μ (x0 + 1) (μ x0 0) v4 → (0 ≤ μ8 x0 0 ∧ μ8 x0 0 < 512) ∧ (∀ μ10, μ10 = mup μ8 (x0 + 2) (μ8 x0 0) x1 → (-2147483648 ≤ (μ10 x0 0) + 1 ∧ (μ10 x0 0) + 1 < 2147483648) ∧ (∀ μ12, μ12 = mup μ10 x0 0 ((μ10 x0 0) + 1) → (0 ≤ v6 ∧ v6 < 6) ∧ (-2147483648 ≤ (μ12 (x0 + 3) v6) + 1 ∧ (μ12 (x0 + 3) v6) + 1 < 2147483648) ∧ (0 ≤ v6 ∧ v6 < 6) ∧ (∀ μ16, μ16 = mup μ12 (x0 + 3) v6 ((μ12 (x0 + 3) v6) + 1) → ∀ v17 : Int, v17 = iOr x2 (iShl 1 v6) → (0 ≤ x3 ∧ x3 < 512) ∧ (∀ v19 : Int, v19 = μ16 (x0 + 11) x3 → WQ mX0_come d sc (ZI sc Q) 9 [(2, x0), (0, x1), (0, v17), (0, v19), (9, 0), (9, 0)] [] μ16)))))))))) :
    WQ mX0_come d sc (ZI sc Q) 9 [(2, x0), (0, x1), (0, x2), (0, x3), (9, 0), (9, 0)] [] μ := by
  refine WP_iload_n dX0_come_9 rfl rfl ?_
  refine WQ_iflt (tgt := 97) dX0_come_10 (by decide) (fun c1 => ?_) (fun c1 => ?_)
  · replace h := h.1 c1
    refine WP_iload_n dX0_come_97 rfl rfl ?_
    exact WQ_ireturn dX0_come_98 rfl h
  · replace h := h.2 c1
    refine WP_aload_n dX0_come_13 rfl rfl ⟨Nat.le_of_ble_eq_true rfl, Nat.le_of_ble_eq_true rfl⟩ ?_
    refine WP_getfield (ci := 0) (j := 0) (n := 16) (t := 0) (x := μ x0 0) dX0_come_14 f_X0_56 hx0 rfl rfl ?_
    refine WP_sipush dX0_come_17 (by decide +kernel) (by decide) ?_
    refine WQ_icmp_ge (tgt := 97) dX0_come_20 (by decide) (fun c2 => ?_) (fun c2 => ?_)
    · replace h := h.1 c2
      refine WP_iload_n dX0_come_97 rfl rfl ?_
      exact WQ_ireturn dX0_come_98 rfl h
    · replace h := h.2 c2
      refine WP_aload_n dX0_come_23 rfl rfl ⟨Nat.le_of_ble_eq_true rfl, Nat.le_of_ble_eq_true rfl⟩ ?_
      refine WP_getfield (ci := 0) (j := 14) (n := 16) (t := 2) (x := x0 + 10) dX0_come_24 f_X0_39 hx0 rfl rfl ?_
      refine WP_iload_n dX0_come_27 rfl rfl ?_
      obtain ⟨g3, h⟩ := h
      refine WP_iaload (n := 512) dX0_come_28 (kf_0_14 hx0) g3 ?_
      refine WQ_nm0 (fun v4 e4 => ?_)
      replace h := h v4 e4
      refine WP_istore (L' := [(2, x0), (0, x1), (0, x2), (0, x3), (0, v4), (9, 0)]) dX0_come_29 (by decide) rfl ?_
      refine WP_iload dX0_come_31 rfl ?_
      refine WP_bipush dX0_come_33 (by decide +kernel) (by decide) ?_
      obtain ⟨g5, h⟩ := h
      refine WP_irem dX0_come_35 ⟨g5, by decide⟩ ?_
      refine WQ_nm0 (fun v6 e6 => ?_)
      replace h := h v6 e6
      refine WP_istore (L' := [(2, x0), (0, x1), (0, x2), (0, x3), (0, v4), (0, v6)]) dX0_come_36 (by decide) rfl ?_
      refine WP_aload_n dX0_come_38 rfl rfl ⟨Nat.le_of_ble_eq_true rfl, Nat.le_of_ble_eq_true rfl⟩ ?_
      refine WP_getfield (ci := 0) (j := 1) (n := 16) (t := 2) (x := x0 + 1) dX0_come_39 f_X0_9 hx0 rfl rfl ?_
      refine WP_aload_n dX0_come_42 rfl rfl ⟨Nat.le_of_ble_eq_true rfl, Nat.le_of_ble_eq_true rfl⟩ ?_
      refine WP_getfield (ci := 0) (j := 0) (n := 16) (t := 0) (x := μ x0 0) dX0_come_43 f_X0_56 hx0 rfl rfl ?_
      refine WP_iload dX0_come_46 rfl ?_
      obtain ⟨g7, h⟩ := h
      refine WQ_iast (n := 512) dX0_come_48 (kf_0_1 hx0) g7 (fun μ8 eμ8 => ?_)
      replace h := h μ8 eμ8
      refine WP_aload_n dX0_come_49 rfl rfl ⟨Nat.le_of_ble_eq_true rfl, Nat.le_of_ble_eq_true rfl⟩ ?_
      refine WP_getfield (ci := 0) (j := 2) (n := 16) (t := 2) (x := x0 + 2) dX0_come_50 f_X0_15 hx0 rfl rfl ?_
      refine WP_aload_n dX0_come_53 rfl rfl ⟨Nat.le_of_ble_eq_true rfl, Nat.le_of_ble_eq_true rfl⟩ ?_
      refine WP_getfield (ci := 0) (j := 0) (n := 16) (t := 0) (x := μ8 x0 0) dX0_come_54 f_X0_56 hx0 rfl rfl ?_
      refine WP_iload_n dX0_come_57 rfl rfl ?_
      obtain ⟨g9, h⟩ := h
      refine WQ_iast (n := 512) dX0_come_58 (kf_0_2 hx0) g9 (fun μ10 eμ10 => ?_)
      replace h := h μ10 eμ10
      refine WP_aload_n dX0_come_59 rfl rfl ⟨Nat.le_of_ble_eq_true rfl, Nat.le_of_ble_eq_true rfl⟩ ?_
      refine WP_dup dX0_come_60 (by simp) ?_
      refine WP_getfield (ci := 0) (j := 0) (n := 16) (t := 0) (x := μ10 x0 0) dX0_come_61 f_X0_56 hx0 rfl rfl ?_
      refine WP_iconst dX0_come_64 (by decide) ?_
      obtain ⟨g11, h⟩ := h
      refine WP_iadd dX0_come_65 g11 ?_
      refine WQ_put (ci := 0) (j := 0) (n := 16) dX0_come_66 f_X0_56 hx0 rfl (fun μ12 eμ12 => ?_)
      replace h := h μ12 eμ12
      refine WP_aload_n dX0_come_69 rfl rfl ⟨Nat.le_of_ble_eq_true rfl, Nat.le_of_ble_eq_true rfl⟩ ?_
      refine WP_getfield (ci := 0) (j := 3) (n := 16) (t := 2) (x := x0 + 3) dX0_come_70 f_X0_18 hx0 rfl rfl ?_
      refine WP_iload dX0_come_73 rfl ?_
      refine WP_dup2 dX0_come_75 (by simp) (by simp) ?_
      obtain ⟨g13, h⟩ := h
      refine WP_iaload (n := 6) dX0_come_76 (kf_0_3 hx0) g13 ?_
      refine WP_iconst dX0_come_77 (by decide) ?_
      obtain ⟨g14, h⟩ := h
      refine WP_iadd dX0_come_78 g14 ?_
      obtain ⟨g15, h⟩ := h
      refine WQ_iast (n := 6) dX0_come_79 (kf_0_3 hx0) g15 (fun μ16 eμ16 => ?_)
      replace h := h μ16 eμ16
      refine WP_iload_n dX0_come_80 rfl rfl ?_
      refine WP_iconst dX0_come_81 (by decide) ?_
      refine WP_iload dX0_come_82 rfl ?_
      refine WP_ishl dX0_come_84 ?_
      refine WP_ior dX0_come_85 ?_
      refine WQ_nm0 (fun v17 e17 => ?_)
      replace h := h v17 e17
      refine WP_istore_n (L' := [(2, x0), (0, x1), (0, v17), (0, x3), (0, v4), (0, v6)]) dX0_come_86 rfl (by decide) rfl ?_
      refine WP_aload_n dX0_come_87 rfl rfl ⟨Nat.le_of_ble_eq_true rfl, Nat.le_of_ble_eq_true rfl⟩ ?_
      refine WP_getfield (ci := 0) (j := 15) (n := 16) (t := 2) (x := x0 + 11) dX0_come_88 f_X0_42 hx0 rfl rfl ?_
      refine WP_iload_n dX0_come_91 rfl rfl ?_
      obtain ⟨g18, h⟩ := h
      refine WP_iaload (n := 512) dX0_come_92 (kf_0_15 hx0) g18 ?_
      refine WQ_nm0 (fun v19 e19 => ?_)
      replace h := h v19 e19
      refine WP_istore_n (L' := [(2, x0), (0, x1), (0, v17), (0, v19), (0, v4), (0, v6)]) dX0_come_93 rfl (by decide) rfl ?_
      refine WP_goto (tgt := 9) dX0_come_94 (by decide) ?_
      refine WP_lforget (L' := [(2, x0), (0, x1), (0, v17), (0, v19), (9, 0), (9, 0)]) rfl (fun i hi => ?_) h
      match i, hi with
      | 0, _ => exact Or.inl rfl
      | 1, _ => exact Or.inl rfl
      | 2, _ => exact Or.inl rfl
      | 3, _ => exact Or.inl rfl
      | 4, _ => exact Or.inr rfl
      | 5, _ => exact Or.inr rfl
      | i + 6, hi => exact absurd hi (by simp only [List.length_cons, List.length_nil]; omega)

theorem s_X0_hasHiccup_0 {d : Nat} {sc : SC} {Q : Int → Mem → Prop} {μ : Mem} {a0 a1 a2 : Int} (ha0 : isK 0 a0)
    (h : (-2147483648 ≤ (μ a0 0) - 1 ∧ (μ a0 0) - 1 < 2147483648) ∧ (∀ v2 : Int, v2 = (μ a0 0) - 1 → WQ mX0_hasHiccup d sc (ZI sc Q) 7 [(2, a0), (0, a1), (0, a2), (0, v2)] [] μ)) :
    WQ mX0_hasHiccup d sc (ZI sc Q) 0 [(2, a0), (0, a1), (0, a2), (9, 0)] [] μ := by
  refine WP_aload_n dX0_hasHiccup_0 rfl rfl ⟨Nat.le_of_ble_eq_true rfl, Nat.le_of_ble_eq_true rfl⟩ ?_
  refine WP_getfield (ci := 0) (j := 0) (n := 16) (t := 0) (x := μ a0 0) dX0_hasHiccup_1 f_X0_56 ha0 rfl rfl ?_
  refine WP_iconst dX0_hasHiccup_4 (by decide) ?_
  obtain ⟨g1, h⟩ := h
  refine WP_isub dX0_hasHiccup_5 g1 ?_
  refine WQ_nm0 (fun v2 e2 => ?_)
  replace h := h v2 e2
  refine WP_istore_n (L' := [(2, a0), (0, a1), (0, a2), (0, v2)]) dX0_hasHiccup_6 rfl (by decide) rfl ?_
  exact h

theorem s_X0_hasHiccup_7 {d : Nat} {sc : SC} {Q : Int → Mem → Prop} {μ : Mem} {x0 x1 x2 x3 : Int} (hx0 : isK 0 x0)
    (h : (x3 < 0 → Q 0 μ) ∧ (0 ≤ x3 → (0 ≤ x3 ∧ x3 < 512) ∧ (μ (x0 + 2) x3 < x2 → Q 0 μ) ∧ (x2 ≤ μ (x0 + 2) x3 → (0 ≤ x3 ∧ x3 < 512) ∧ (μ (x0 + 2) x3 ≠ x2 → (-2147483648 ≤ x3 + (-1) ∧ x3 + (-1) < 2147483648) ∧ ∀ v7 : Int, v7 = x3 + (-1) → WQ mX0_hasHiccup d sc (ZI sc Q) 7 [(2, x0), (0, x1), (0, x2), (0, v7)] [] μ) ∧ (μ (x0 + 2) x3 = x2 → (0 ≤ x3 ∧ x3 < 512) ∧ 0 ≤ μ (x0 + 1) x3 ∧ ((μ (x0 + 1) x3) % 6 ≠ x1 → (-2147483648 ≤ x3 + (-1) ∧ x3 + (-1) < 2147483648) ∧ ∀ v12 : Int, v12 = x3 + (-1) → WQ mX0_hasHiccup d sc (ZI sc Q) 7 [(2, x0), (0, x1), (0, x2), (0, v12)] [] μ) ∧ ((μ (x0 + 1) x3) % 6 = x1 → Q 1 μ))))) :
    WQ mX0_hasHiccup d sc (ZI sc Q) 7 [(2, x0), (0, x1), (0, x2), (0, x3)] [] μ := by
  refine WP_iload_n dX0_hasHiccup_7 rfl rfl ?_
  refine WQ_iflt (tgt := 52) dX0_hasHiccup_8 (by decide) (fun c1 => ?_) (fun c1 => ?_)
  · replace h := h.1 c1
    refine WP_iconst dX0_hasHiccup_52 (by decide) ?_
    exact WQ_zreturn dX0_hasHiccup_53 rfl ⟨by decide, by decide⟩ h
  · replace h := h.2 c1
    refine WP_aload_n dX0_hasHiccup_11 rfl rfl ⟨Nat.le_of_ble_eq_true rfl, Nat.le_of_ble_eq_true rfl⟩ ?_
    refine WP_getfield (ci := 0) (j := 2) (n := 16) (t := 2) (x := x0 + 2) dX0_hasHiccup_12 f_X0_15 hx0 rfl rfl ?_
    refine WP_iload_n dX0_hasHiccup_15 rfl rfl ?_
    obtain ⟨g2, h⟩ := h
    refine WP_iaload (n := 512) dX0_hasHiccup_16 (kf_0_2 hx0) g2 ?_
    refine WP_iload_n dX0_hasHiccup_17 rfl rfl ?_
    refine WQ_icmp_lt (tgt := 52) dX0_hasHiccup_18 (by decide) (fun c3 => ?_) (fun c3 => ?_)
    · replace h := h.1 c3
      refine WP_iconst dX0_hasHiccup_52 (by decide) ?_
      exact WQ_zreturn dX0_hasHiccup_53 rfl ⟨by decide, by decide⟩ h
    · replace h := h.2 c3
      refine WP_aload_n dX0_hasHiccup_21 rfl rfl ⟨Nat.le_of_ble_eq_true rfl, Nat.le_of_ble_eq_true rfl⟩ ?_
      refine WP_getfield (ci := 0) (j := 2) (n := 16) (t := 2) (x := x0 + 2) dX0_hasHiccup_22 f_X0_15 hx0 rfl rfl ?_
      refine WP_iload_n dX0_hasHiccup_25 rfl rfl ?_
      obtain ⟨g4, h⟩ := h
      refine WP_iaload (n := 512) dX0_hasHiccup_26 (kf_0_2 hx0) g4 ?_
      refine WP_iload_n dX0_hasHiccup_27 rfl rfl ?_
      refine WQ_icmp_ne (tgt := 46) dX0_hasHiccup_28 (by decide) (fun c5 => ?_) (fun c5 => ?_)
      · replace h := h.1 c5
        obtain ⟨g6, h⟩ := h
        refine WQ_iinc dX0_hasHiccup_46 rfl (by decide) g6 (fun v7 e7 => ?_)
        refine WP_same (L' := [(2, x0), (0, x1), (0, x2), (0, v7)]) rfl ?_
        replace h := h v7 e7
        refine WP_goto (tgt := 7) dX0_hasHiccup_49 (by decide) ?_
        exact h
      · replace h := h.2 c5
        refine WP_aload_n dX0_hasHiccup_31 rfl rfl ⟨Nat.le_of_ble_eq_true rfl, Nat.le_of_ble_eq_true rfl⟩ ?_
        refine WP_getfield (ci := 0) (j := 1) (n := 16) (t := 2) (x := x0 + 1) dX0_hasHiccup_32 f_X0_9 hx0 rfl rfl ?_
        refine WP_iload_n dX0_hasHiccup_35 rfl rfl ?_
        obtain ⟨g8, h⟩ := h
        refine WP_iaload (n := 512) dX0_hasHiccup_36 (kf_0_1 hx0) g8 ?_
        refine WP_bipush dX0_hasHiccup_37 (by decide +kernel) (by decide) ?_
        obtain ⟨g9, h⟩ := h
        refine WP_irem dX0_hasHiccup_39 ⟨g9, by decide⟩ ?_
        refine WP_iload_n dX0_hasHiccup_40 rfl rfl ?_
        refine WQ_icmp_ne (tgt := 46) dX0_hasHiccup_41 (by decide) (fun c10 => ?_) (fun c10 => ?_)
        · replace h := h.1 c10
          obtain ⟨g11, h⟩ := h
          refine WQ_iinc dX0_hasHiccup_46 rfl (by decide) g11 (fun v12 e12 => ?_)
          refine WP_same (L' := [(2, x0), (0, x1), (0, x2), (0, v12)]) rfl ?_
          replace h := h v12 e12
          refine WP_goto (tgt := 7) dX0_hasHiccup_49 (by decide) ?_
          exact h
        · replace h := h.2 c10
          refine WP_iconst dX0_hasHiccup_44 (by decide) ?_
          exact WQ_zreturn dX0_hasHiccup_45 rfl ⟨by decide, by decide⟩ h

theorem s_X0_isTimed_0 {d : Nat} {sc : SC} {Q : Int → Mem → Prop} {μ : Mem} {a0 a1 a2 : Int} (ha0 : isK 0 a0) (ha2 : isK 8 a2)
    (h : (0 ≤ a1 ∧ a1 < 6) ∧ (μ (a0 + 3) a1 = μ a2 2 → WQ mX0_isTimed d sc (ZI sc Q) 20 [(2, a0), (0, a1), (2, a2), (0, 0), (0, 0)] [] μ) ∧ (μ (a0 + 3) a1 ≠ μ a2 2 → Q 0 μ)) :
    WQ mX0_isTimed d sc (ZI sc Q) 0 [(2, a0), (0, a1), (2, a2), (9, 0), (9, 0)] [] μ := by
  refine WP_aload_n dX0_isTimed_0 rfl rfl ⟨Nat.le_of_ble_eq_true rfl, Nat.le_of_ble_eq_true rfl⟩ ?_
  refine WP_getfield (ci := 0) (j := 3) (n := 16) (t := 2) (x := a0 + 3) dX0_isTimed_1 f_X0_18 ha0 rfl rfl ?_
  refine WP_iload_n dX0_isTimed_4 rfl rfl ?_
  obtain ⟨g1, h⟩ := h
  refine WP_iaload (n := 6) dX0_isTimed_5 (kf_0_3 ha0) g1 ?_
  refine WP_aload_n dX0_isTimed_6 rfl rfl ⟨Nat.le_of_ble_eq_true rfl, Nat.le_of_ble_eq_true rfl⟩ ?_
  refine WP_getfield (ci := 8) (j := 2) (n := 4) (t := 0) (x := μ a2 2) dX0_isTimed_7 f_X0_111 ha2 rfl rfl ?_
  refine WQ_icmp_eq (tgt := 15) dX0_isTimed_10 (by decide) (fun c2 => ?_) (fun c2 => ?_)
  · replace h := h.1 c2
    refine WP_iconst dX0_isTimed_15 (by decide) ?_
    refine WP_istore_n (L' := [(2, a0), (0, a1), (2, a2), (0, 0), (9, 0)]) dX0_isTimed_16 rfl (by decide) rfl ?_
    refine WP_iconst dX0_isTimed_17 (by decide) ?_
    refine WP_istore (L' := [(2, a0), (0, a1), (2, a2), (0, 0), (0, 0)]) dX0_isTimed_18 (by decide) rfl ?_
    exact h
  · replace h := h.2 c2
    refine WP_iconst dX0_isTimed_13 (by decide) ?_
    exact WQ_zreturn dX0_isTimed_14 rfl ⟨by decide, by decide⟩ h

theorem s_X0_isTimed_20 {d : Nat} {sc : SC} {Q : Int → Mem → Prop} {μ : Mem} {x0 x1 x2 x3 x4 : Int} (hx0 : isK 0 x0) (hx2 : isK 8 x2)
    (h : (μ x0 0 ≤ x4 → Q 1 μ) ∧ (x4 < μ x0 0 → (μ x2 2 ≤ x3 → Q 1 μ) ∧ (x3 < μ x2 2 → (0 ≤ x4 ∧ x4 < 512) ∧ 0 ≤ μ (x0 + 1) x4 ∧ ((μ (x0 + 1) x4) % 6 ≠ x1 → (-2147483648 ≤ x4 + 1 ∧ x4 + 1 < 2147483648) ∧ ∀ v7 : Int, v7 = x4 + 1 → WQ mX0_isTimed d sc (ZI sc Q) 20 [(2, x0), (0, x1), (2, x2), (0, x3), (0, v7)] [] μ) ∧ ((μ (x0 + 1) x4) % 6 = x1 → (0 ≤ x4 ∧ x4 < 512) ∧ (0 ≤ x3 ∧ x3 < 40) ∧ (μ (x0 + 2) x4 = μ (x2 + 1) x3 → (-2147483648 ≤ x3 + 1 ∧ x3 + 1 < 2147483648) ∧ ∀ v12 : Int, v12 = x3 + 1 → (-2147483648 ≤ x4 + 1 ∧ x4 + 1 < 2147483648) ∧ ∀ v14 : Int, v14 = x4 + 1 → WQ mX0_isTimed d sc (ZI sc Q) 20 [(2, x0), (0, x1), (2, x2), (0, v12), (0, v14)] [] μ) ∧ (μ (x0 + 2) x4 ≠ μ (x2 + 1) x3 → Q 0 μ))))) :
    WQ mX0_isTimed d sc (ZI sc Q) 20 [(2, x0), (0, x1), (2, x2), (0, x3), (0, x4)] [] μ := by
  refine WP_iload dX0_isTimed_20 rfl ?_
  refine WP_aload_n dX0_isTimed_22 rfl rfl ⟨Nat.le_of_ble_eq_true rfl, Nat.le_of_ble_eq_true rfl⟩ ?_
  refine WP_getfield (ci := 0) (j := 0) (n := 16) (t := 0) (x := μ x0 0) dX0_isTimed_23 f_X0_56 hx0 rfl rfl ?_
  refine WQ_icmp_ge (tgt := 80) dX0_isTimed_26 (by decide) (fun c1 => ?_) (fun c1 => ?_)
  · replace h := h.1 c1
    refine WP_iconst dX0_isTimed_80 (by decide) ?_
    exact WQ_zreturn dX0_isTimed_81 rfl ⟨by decide, by decide⟩ h
  · replace h := h.2 c1
    refine WP_iload_n dX0_isTimed_29 rfl rfl ?_
    refine WP_aload_n dX0_isTimed_30 rfl rfl ⟨Nat.le_of_ble_eq_true rfl, Nat.le_of_ble_eq_true rfl⟩ ?_
    refine WP_getfield (ci := 8) (j := 2) (n := 4) (t := 0) (x := μ x2 2) dX0_isTimed_31 f_X0_111 hx2 rfl rfl ?_
    refine WQ_icmp_ge (tgt := 80) dX0_isTimed_34 (by decide) (fun c2 => ?_) (fun c2 => ?_)
    · replace h := h.1 c2
      refine WP_iconst dX0_isTimed_80 (by decide) ?_
      exact WQ_zreturn dX0_isTimed_81 rfl ⟨by decide, by decide⟩ h
    · replace h := h.2 c2
      refine WP_aload_n dX0_isTimed_37 rfl rfl ⟨Nat.le_of_ble_eq_true rfl, Nat.le_of_ble_eq_true rfl⟩ ?_
      refine WP_getfield (ci := 0) (j := 1) (n := 16) (t := 2) (x := x0 + 1) dX0_isTimed_38 f_X0_9 hx0 rfl rfl ?_
      refine WP_iload dX0_isTimed_41 rfl ?_
      obtain ⟨g3, h⟩ := h
      refine WP_iaload (n := 512) dX0_isTimed_43 (kf_0_1 hx0) g3 ?_
      refine WP_bipush dX0_isTimed_44 (by decide +kernel) (by decide) ?_
      obtain ⟨g4, h⟩ := h
      refine WP_irem dX0_isTimed_46 ⟨g4, by decide⟩ ?_
      refine WP_iload_n dX0_isTimed_47 rfl rfl ?_
      refine WQ_icmp_ne (tgt := 74) dX0_isTimed_48 (by decide) (fun c5 => ?_) (fun c5 => ?_)
      · replace h := h.1 c5
        obtain ⟨g6, h⟩ := h
        refine WQ_iinc dX0_isTimed_74 rfl (by decide) g6 (fun v7 e7 => ?_)
        refine WP_same (L' := [(2, x0), (0, x1), (2, x2), (0, x3), (0, v7)]) rfl ?_
        replace h := h v7 e7
        refine WP_goto (tgt := 20) dX0_isTimed_77 (by decide) ?_
        exact h
      · replace h := h.2 c5
        refine WP_aload_n dX0_isTimed_51 rfl rfl ⟨Nat.le_of_ble_eq_true rfl, Nat.le_of_ble_eq_true rfl⟩ ?_
        refine WP_getfield (ci := 0) (j := 2) (n := 16) (t := 2) (x := x0 + 2) dX0_isTimed_52 f_X0_15 hx0 rfl rfl ?_
        refine WP_iload dX0_isTimed_55 rfl ?_
        obtain ⟨g8, h⟩ := h
        refine WP_iaload (n := 512) dX0_isTimed_57 (kf_0_2 hx0) g8 ?_
        refine WP_i2l dX0_isTimed_58 ?_
        refine WP_aload_n dX0_isTimed_59 rfl rfl ⟨Nat.le_of_ble_eq_true rfl, Nat.le_of_ble_eq_true rfl⟩ ?_
        refine WP_getfield (ci := 8) (j := 3) (n := 4) (t := 2) (x := x2 + 1) dX0_isTimed_60 f_X0_116 hx2 rfl rfl ?_
        refine WP_iload_n dX0_isTimed_63 rfl rfl ?_
        obtain ⟨g9, h⟩ := h
        refine WP_laload (n := 40) dX0_isTimed_64 (kf_8_3 hx2) g9 ?_
        refine WQ_lifeq (tgt := 71) dX0_isTimed_65 dX0_isTimed_66 (by decide) (fun c10 => ?_) (fun c10 => ?_)
        · replace h := h.1 c10
          obtain ⟨g11, h⟩ := h
          refine WQ_iinc dX0_isTimed_71 rfl (by decide) g11 (fun v12 e12 => ?_)
          refine WP_same (L' := [(2, x0), (0, x1), (2, x2), (0, v12), (0, x4)]) rfl ?_
          replace h := h v12 e12
          obtain ⟨g13, h⟩ := h
          refine WQ_iinc dX0_isTimed_74 rfl (by decide) g13 (fun v14 e14 => ?_)
          refine WP_same (L' := [(2, x0), (0, x1), (2, x2), (0, v12), (0, v14)]) rfl ?_
          replace h := h v14 e14
          refine WP_goto (tgt := 20) dX0_isTimed_77 (by decide) ?_
          exact h
        · replace h := h.2 c10
          refine WP_iconst dX0_isTimed_69 (by decide) ?_
          exact WQ_zreturn dX0_isTimed_70 rfl ⟨by decide, by decide⟩ h

theorem s_X0_listInto_0 {d : Nat} {sc : SC} {Q : Int → Mem → Prop} {μ : Mem} {a0 a1 a2 : Int} (ha0 : isK 0 a0) (ha1 : isK 8 a1)
    (h : WQ mX0_listInto d sc (ZI sc Q) 5 [(2, a0), (2, a1), (0, a2), (0, 0), (0, 0)] [] μ) :
    WQ mX0_listInto d sc (ZI sc Q) 0 [(2, a0), (2, a1), (0, a2), (9, 0), (9, 0)] [] μ := by
  refine WP_iconst dX0_listInto_0 (by decide) ?_
  refine WP_istore_n (L' := [(2, a0), (2, a1), (0, a2), (0, 0), (9, 0)]) dX0_listInto_1 rfl (by decide) rfl ?_
  refine WP_iconst dX0_listInto_2 (by decide) ?_
  refine WP_istore (L' := [(2, a0), (2, a1), (0, a2), (0, 0), (0, 0)]) dX0_listInto_3 (by decide) rfl ?_
  exact h

theorem s_X0_listInto_5 {d : Nat} {sc : SC} {Q : Int → Mem → Prop} {μ : Mem} {x0 x1 x2 x3 x4 : Int} (hx0 : isK 0 x0) (hx1 : isK 8 x1)
    (h : (μ x0 0 ≤ x4 → Q x3 μ) ∧ (x4 < μ x0 0 → (μ x1 2 ≤ x3 → Q x3 μ) ∧ (x3 < μ x1 2 → (0 ≤ x4 ∧ x4 < 512) ∧ 0 ≤ μ (x0 + 1) x4 ∧ ((μ (x0 + 1) x4) % 6 ≠ x2 → (-2147483648 ≤ x4 + 1 ∧ x4 + 1 < 2147483648) ∧ ∀ v7 : Int, v7 = x4 + 1 → WQ mX0_listInto d sc (ZI sc Q) 5 [(2, x0), (2, x1), (0, x2), (0, x3), (0, v7)] [] μ) ∧ ((μ (x0 + 1) x4) % 6 = x2 → (0 ≤ x4 ∧ x4 < 512) ∧ CAl mX8_put d sc [(2, x1), (0, x3), (1, μ (x0 + 2) x4)] μ (fun r9 μ10 => (-2147483648 ≤ x3 + 1 ∧ x3 + 1 < 2147483648) ∧ ∀ v12 : Int, v12 = x3 + 1 → (-2147483648 ≤ x4 + 1 ∧ x4 + 1 < 2147483648) ∧ ∀ v14 : Int, v14 = x4 + 1 → WQ mX0_listInto d sc (ZI sc Q) 5 [(2, x0), (2, x1), (0, x2), (0, v12), (0, v14)] [] μ10))))) :
    WQ mX0_listInto d sc (ZI sc Q) 5 [(2, x0), (2, x1), (0, x2), (0, x3), (0, x4)] [] μ := by
  refine WP_iload dX0_listInto_5 rfl ?_
  refine WP_aload_n dX0_listInto_7 rfl rfl ⟨Nat.le_of_ble_eq_true rfl, Nat.le_of_ble_eq_true rfl⟩ ?_
  refine WP_getfield (ci := 0) (j := 0) (n := 16) (t := 0) (x := μ x0 0) dX0_listInto_8 f_X0_56 hx0 rfl rfl ?_
  refine WQ_icmp_ge (tgt := 59) dX0_listInto_11 (by decide) (fun c1 => ?_) (fun c1 => ?_)
  · replace h := h.1 c1
    refine WP_iload_n dX0_listInto_59 rfl rfl ?_
    exact WQ_ireturn dX0_listInto_60 rfl h
  · replace h := h.2 c1
    refine WP_iload_n dX0_listInto_14 rfl rfl ?_
    refine WP_aload_n dX0_listInto_15 rfl rfl ⟨Nat.le_of_ble_eq_true rfl, Nat.le_of_ble_eq_true rfl⟩ ?_
    refine WP_getfield (ci := 8) (j := 2) (n := 4) (t := 0) (x := μ x1 2) dX0_listInto_16 f_X0_111 hx1 rfl rfl ?_
    refine WQ_icmp_ge (tgt := 59) dX0_listInto_19 (by decide) (fun c2 => ?_) (fun c2 => ?_)
    · replace h := h.1 c2
      refine WP_iload_n dX0_listInto_59 rfl rfl ?_
      exact WQ_ireturn dX0_listInto_60 rfl h
    · replace h := h.2 c2
      refine WP_aload_n dX0_listInto_22 rfl rfl ⟨Nat.le_of_ble_eq_true rfl, Nat.le_of_ble_eq_true rfl⟩ ?_
      refine WP_getfield (ci := 0) (j := 1) (n := 16) (t := 2) (x := x0 + 1) dX0_listInto_23 f_X0_9 hx0 rfl rfl ?_
      refine WP_iload dX0_listInto_26 rfl ?_
      obtain ⟨g3, h⟩ := h
      refine WP_iaload (n := 512) dX0_listInto_28 (kf_0_1 hx0) g3 ?_
      refine WP_bipush dX0_listInto_29 (by decide +kernel) (by decide) ?_
      obtain ⟨g4, h⟩ := h
      refine WP_irem dX0_listInto_31 ⟨g4, by decide⟩ ?_
      refine WP_iload_n dX0_listInto_32 rfl rfl ?_
      refine WQ_icmp_ne (tgt := 53) dX0_listInto_33 (by decide) (fun c5 => ?_) (fun c5 => ?_)
      · replace h := h.1 c5
        obtain ⟨g6, h⟩ := h
        refine WQ_iinc dX0_listInto_53 rfl (by decide) g6 (fun v7 e7 => ?_)
        refine WP_same (L' := [(2, x0), (2, x1), (0, x2), (0, x3), (0, v7)]) rfl ?_
        replace h := h v7 e7
        refine WP_goto (tgt := 5) dX0_listInto_56 (by decide) ?_
        exact h
      · replace h := h.2 c5
        refine WP_aload_n dX0_listInto_36 rfl rfl ⟨Nat.le_of_ble_eq_true rfl, Nat.le_of_ble_eq_true rfl⟩ ?_
        refine WP_iload_n dX0_listInto_37 rfl rfl ?_
        refine WP_aload_n dX0_listInto_38 rfl rfl ⟨Nat.le_of_ble_eq_true rfl, Nat.le_of_ble_eq_true rfl⟩ ?_
        refine WP_getfield (ci := 0) (j := 2) (n := 16) (t := 2) (x := x0 + 2) dX0_listInto_39 f_X0_15 hx0 rfl rfl ?_
        refine WP_iload dX0_listInto_42 rfl ?_
        obtain ⟨g8, h⟩ := h
        refine WP_iaload (n := 512) dX0_listInto_44 (kf_0_2 hx0) g8 ?_
        refine WP_i2l dX0_listInto_45 ?_
        refine WQ_invVl (v := (2, x1)) (as := [(0, x3), (1, μ (x0 + 2) x4)]) dX0_listInto_46 l_X0_120 mw_X8_put mi_X8_put ms_X8_put mo_X8_put (rcv (ci := 8) (n := 4) (r := (RX8, TX8, 4)) hx1 rfl rfl) (Nat.le_of_ble_eq_true rfl) h rfl (fun r9 μ10 h => ?_)
        refine WP_pop2L dX0_listInto_49 ?_
        obtain ⟨g11, h⟩ := h
        refine WQ_iinc dX0_listInto_50 rfl (by decide) g11 (fun v12 e12 => ?_)
        refine WP_same (L' := [(2, x0), (2, x1), (0, x2), (0, v12), (0, x4)]) rfl ?_
        replace h := h v12 e12
        obtain ⟨g13, h⟩ := h
        refine WQ_iinc dX0_listInto_53 rfl (by decide) g13 (fun v14 e14 => ?_)
        refine WP_same (L' := [(2, x0), (2, x1), (0, x2), (0, v12), (0, v14)]) rfl ?_
        replace h := h v14 e14
        refine WP_goto (tgt := 5) dX0_listInto_56 (by decide) ?_
        exact h

theorem s_X0_nobodies_0 {d : Nat} {sc : SC} {Q : Int → Mem → Prop} {μ : Mem} {a0 a1 : Int} (ha0 : isK 0 a0)
    (h : WQ mX0_nobodies d sc (ZI sc Q) 4 [(2, a0), (0, a1), (0, 0), (0, 0)] [] μ) :
    WQ mX0_nobodies d sc (ZI sc Q) 0 [(2, a0), (0, a1), (9, 0), (9, 0)] [] μ := by
  refine WP_iconst dX0_nobodies_0 (by decide) ?_
  refine WP_istore_n (L' := [(2, a0), (0, a1), (0, 0), (9, 0)]) dX0_nobodies_1 rfl (by decide) rfl ?_
  refine WP_iconst dX0_nobodies_2 (by decide) ?_
  refine WP_istore_n (L' := [(2, a0), (0, a1), (0, 0), (0, 0)]) dX0_nobodies_3 rfl (by decide) rfl ?_
  exact h

theorem s_X0_nobodies_4 {d : Nat} {sc : SC} {Q : Int → Mem → Prop} {μ : Mem} {x0 x1 x2 x3 : Int} (hx0 : isK 0 x0)
    (h : (x1 ≤ x3 → Q x2 μ) ∧ (x3 < x1 → (0 ≤ x3 ∧ x3 < 6) ∧ (μ (x0 + 3) x3 ≠ 0 → (-2147483648 ≤ x3 + 1 ∧ x3 + 1 < 2147483648) ∧ ∀ v5 : Int, v5 = x3 + 1 → WQ mX0_nobodies d sc (ZI sc Q) 4 [(2, x0), (0, x1), (0, x2), (0, v5)] [] μ) ∧ (μ (x0 + 3) x3 = 0 → ∀ v6 : Int, v6 = iOr x2 (iShl 1 x3) → (-2147483648 ≤ x3 + 1 ∧ x3 + 1 < 2147483648) ∧ ∀ v8 : Int, v8 = x3 + 1 → WQ mX0_nobodies d sc (ZI sc Q) 4 [(2, x0), (0, x1), (0, v6), (0, v8)] [] μ))) :
    WQ mX0_nobodies d sc (ZI sc Q) 4 [(2, x0), (0, x1), (0, x2), (0, x3)] [] μ := by
  refine WP_iload_n dX0_nobodies_4 rfl rfl ?_
  refine WP_iload_n dX0_nobodies_5 rfl rfl ?_
  refine WQ_icmp_ge (tgt := 30) dX0_nobodies_6 (by decide) (fun c1 => ?_) (fun c1 => ?_)
  · replace h := h.1 c1
    refine WP_iload_n dX0_nobodies_30 rfl rfl ?_
    exact WQ_ireturn dX0_nobodies_31 rfl h
  · replace h := h.2 c1
    refine WP_aload_n dX0_nobodies_9 rfl rfl ⟨Nat.le_of_ble_eq_true rfl, Nat.le_of_ble_eq_true rfl⟩ ?_
    refine WP_getfield (ci := 0) (j := 3) (n := 16) (t := 2) (x := x0 + 3) dX0_nobodies_10 f_X0_18 hx0 rfl rfl ?_
    refine WP_iload_n dX0_nobodies_13 rfl rfl ?_
    obtain ⟨g2, h⟩ := h
    refine WP_iaload (n := 6) dX0_nobodies_14 (kf_0_3 hx0) g2 ?_
    refine WQ_ifne (tgt := 24) dX0_nobodies_15 (by decide) (fun c3 => ?_) (fun c3 => ?_)
    · replace h := h.1 c3
      obtain ⟨g4, h⟩ := h
      refine WQ_iinc dX0_nobodies_24 rfl (by decide) g4 (fun v5 e5 => ?_)
      refine WP_same (L' := [(2, x0), (0, x1), (0, x2), (0, v5)]) rfl ?_
      replace h := h v5 e5
      refine WP_goto (tgt := 4) dX0_nobodies_27 (by decide) ?_
      exact h
    · replace h := h.2 c3
      refine WP_iload_n dX0_nobodies_18 rfl rfl ?_
      refine WP_iconst dX0_nobodies_19 (by decide) ?_
      refine WP_iload_n dX0_nobodies_20 rfl rfl ?_
      refine WP_ishl dX0_nobodies_21 ?_
      refine WP_ior dX0_nobodies_22 ?_
      refine WQ_nm0 (fun v6 e6 => ?_)
      replace h := h v6 e6
      refine WP_istore_n (L' := [(2, x0), (0, x1), (0, v6), (0, x3)]) dX0_nobodies_23 rfl (by decide) rfl ?_
      obtain ⟨g7, h⟩ := h
      refine WQ_iinc dX0_nobodies_24 rfl (by decide) g7 (fun v8 e8 => ?_)
      refine WP_same (L' := [(2, x0), (0, x1), (0, v6), (0, v8)]) rfl ?_
      replace h := h v8 e8
      refine WP_goto (tgt := 4) dX0_nobodies_27 (by decide) ?_
      exact h

theorem s_X0_run_0 {d : Nat} {sc : SC} {Q : Int → Mem → Prop} {μ : Mem} {a0 a1 a2 a3 a4 : Int} (ha0 : isK 0 a0) (ha1 : isK 6 a1) (ha2 : isK 3 a2)
    (h : ∀ μ1, μ1 = mup μ a0 7 a1 → ∀ μ2, μ2 = mup μ1 a0 8 a2 → CAv mX0_clear d sc [(2, a0)] μ2 (fun μ4 => WQ mX0_run d sc (ZI sc Q) 20 [(2, a0), (9, 0), (9, 0), (0, a3), (0, a4), (0, 0), (0, 0), (9, 0), (9, 0)] [] μ4)) :
    WQ mX0_run d sc (ZI sc Q) 0 [(2, a0), (2, a1), (2, a2), (0, a3), (0, a4), (9, 0), (9, 0), (9, 0), (9, 0)] [] μ := by
  refine WP_aload_n dX0_run_0 rfl rfl ⟨Nat.le_of_ble_eq_true rfl, Nat.le_of_ble_eq_true rfl⟩ ?_
  refine WP_aload_n dX0_run_1 rfl rfl ⟨Nat.le_of_ble_eq_true rfl, Nat.le_of_ble_eq_true rfl⟩ ?_
  refine WQ_put (ci := 0) (j := 7) (n := 16) dX0_run_2 f_X0_45 ha0 rfl (fun μ1 eμ1 => ?_)
  replace h := h μ1 eμ1
  refine WP_aload_n dX0_run_5 rfl rfl ⟨Nat.le_of_ble_eq_true rfl, Nat.le_of_ble_eq_true rfl⟩ ?_
  refine WP_aload_n dX0_run_6 rfl rfl ⟨Nat.le_of_ble_eq_true rfl, Nat.le_of_ble_eq_true rfl⟩ ?_
  refine WQ_put (ci := 0) (j := 8) (n := 16) dX0_run_7 f_X0_49 ha0 rfl (fun μ2 eμ2 => ?_)
  replace h := h μ2 eμ2
  refine WP_aload_n dX0_run_10 rfl rfl ⟨Nat.le_of_ble_eq_true rfl, Nat.le_of_ble_eq_true rfl⟩ ?_
  refine WQ_invVv (v := (2, a0)) (as := []) dX0_run_11 l_X0_53 mw_X0_clear mi_X0_clear ms_X0_clear mo_X0_clear (rcv (ci := 0) (n := 16) (r := (RX0, TX0, 16)) ha0 rfl rfl) (Nat.le_of_ble_eq_true rfl) h rfl (fun μ4 h => ?_)
  refine WP_iconst dX0_run_14 (by decide) ?_
  refine WP_istore (L' := [(2, a0), (2, a1), (2, a2), (0, a3), (0, a4), (0, 0), (9, 0), (9, 0), (9, 0)]) dX0_run_15 (by decide) rfl ?_
  refine WP_iconst dX0_run_17 (by decide) ?_
  refine WP_istore (L' := [(2, a0), (2, a1), (2, a2), (0, a3), (0, a4), (0, 0), (0, 0), (9, 0), (9, 0)]) dX0_run_18 (by decide) rfl ?_
  refine WP_lforget (L' := [(2, a0), (9, 0), (9, 0), (0, a3), (0, a4), (0, 0), (0, 0), (9, 0), (9, 0)]) rfl (fun i hi => ?_) h
  match i, hi with
  | 0, _ => exact Or.inl rfl
  | 1, _ => exact Or.inr rfl
  | 2, _ => exact Or.inr rfl
  | 3, _ => exact Or.inl rfl
  | 4, _ => exact Or.inl rfl
  | 5, _ => exact Or.inl rfl
  | 6, _ => exact Or.inl rfl
  | 7, _ => exact Or.inl rfl
  | 8, _ => exact Or.inl rfl
  | i + 9, hi => exact absurd hi (by simp only [List.length_cons, List.length_nil]; omega)

theorem s_X0_run_20 {d : Nat} {sc : SC} {Q : Int → Mem → Prop} {μ : Mem} {x0 x3 x4 x5 x6 : Int} (hx0 : isK 0 x0)
    (h : (x3 < x6 → Q 1 μ) ∧ (x6 ≤ x3 → (100 ≤ x6 → Q 1 μ) ∧ (x6 < 100 → ∀ v3 : Int, v3 = μ x0 0 → (0 ≤ x6 ∧ x6 < 100) ∧ (0 ≤ μ (x0 + 8) x6 → CAi mX0_come d sc [(2, x0), (0, x6)] μ (fun r6 μ7 => CAv mX0_sayNamings d sc [(2, x0), (0, x6), (0, r6), (0, x4)] μ7 (fun μ9 => (μ9 x0 6 = (-1) → CAv mX0_sayAnswers d sc [(2, x0), (0, x6), (0, r6), (0, x5), (0, v3)] μ9 (fun μ12 => (-2147483648 ≤ x6 + 1 ∧ x6 + 1 < 2147483648) ∧ ∀ v14 : Int, v14 = x6 + 1 → WQ mX0_run d sc (ZI sc Q) 20 [(2, x0), (9, 0), (9, 0), (0, x3), (0, x4), (0, v3), (0, v14), (9, 0), (9, 0)] [] μ12)) ∧ (μ9 x0 6 ≠ (-1) → Q 0 μ9)))) ∧ (μ (x0 + 8) x6 < 0 → (0 ≤ x6 ∧ x6 < 100) ∧ (0 ≤ μ (x0 + 6) x6 → CAi mX0_come d sc [(2, x0), (0, x6)] μ (fun r17 μ18 => CAv mX0_sayNamings d sc [(2, x0), (0, x6), (0, r17), (0, x4)] μ18 (fun μ20 => (μ20 x0 6 = (-1) → CAv mX0_sayAnswers d sc [(2, x0), (0, x6), (0, r17), (0, x5), (0, v3)] μ20 (fun μ23 => (-2147483648 ≤ x6 + 1 ∧ x6 + 1 < 2147483648) ∧ ∀ v25 : Int, v25 = x6 + 1 → WQ mX0_run d sc (ZI sc Q) 20 [(2, x0), (9, 0), (9, 0), (0, x3), (0, x4), (0, v3), (0, v25), (9, 0), (9, 0)] [] μ23)) ∧ (μ20 x0 6 ≠ (-1) → Q 0 μ20)))) ∧ (μ (x0 + 6) x6 < 0 → (v3 ≤ x5 → (-2147483648 ≤ x6 + 1 ∧ x6 + 1 < 2147483648) ∧ ∀ v28 : Int, v28 = x6 + 1 → WQ mX0_run d sc (ZI sc Q) 20 [(2, x0), (9, 0), (9, 0), (0, x3), (0, x4), (0, v3), (0, v28), (9, 0), (9, 0)] [] μ) ∧ (x5 < v3 → CAi mX0_come d sc [(2, x0), (0, x6)] μ (fun r29 μ30 => CAv mX0_sayNamings d sc [(2, x0), (0, x6), (0, r29), (0, x4)] μ30 (fun μ32 => (μ32 x0 6 = (-1) → CAv mX0_sayAnswers d sc [(2, x0), (0, x6), (0, r29), (0, x5), (0, v3)] μ32 (fun μ35 => (-2147483648 ≤ x6 + 1 ∧ x6 + 1 < 2147483648) ∧ ∀ v37 : Int, v37 = x6 + 1 → WQ mX0_run d sc (ZI sc Q) 20 [(2, x0), (9, 0), (9, 0), (0, x3), (0, x4), (0, v3), (0, v37), (9, 0), (9, 0)] [] μ35)) ∧ (μ32 x0 6 ≠ (-1) → Q 0 μ32))))))))) :
    WQ mX0_run d sc (ZI sc Q) 20 [(2, x0), (9, 0), (9, 0), (0, x3), (0, x4), (0, x5), (0, x6), (9, 0), (9, 0)] [] μ := by
  refine WP_iload dX0_run_20 rfl ?_
  refine WP_iload_n dX0_run_22 rfl rfl ?_
  refine WQ_icmp_gt (tgt := 116) dX0_run_23 (by decide) (fun c1 => ?_) (fun c1 => ?_)
  · replace h := h.1 c1
    refine WP_iconst dX0_run_116 (by decide) ?_
    exact WQ_zreturn dX0_run_117 rfl ⟨by decide, by decide⟩ h
  · replace h := h.2 c1
    refine WP_iload dX0_run_26 rfl ?_
    refine WP_bipush dX0_run_28 (by decide +kernel) (by decide) ?_
    refine WQ_icmp_ge (tgt := 116) dX0_run_30 (by decide) (fun c2 => ?_) (fun c2 => ?_)
    · replace h := h.1 c2
      refine WP_iconst dX0_run_116 (by decide) ?_
      exact WQ_zreturn dX0_run_117 rfl ⟨by decide, by decide⟩ h
    · replace h := h.2 c2
      refine WP_aload_n dX0_run_33 rfl rfl ⟨Nat.le_of_ble_eq_true rfl, Nat.le_of_ble_eq_true rfl⟩ ?_
      refine WP_getfield (ci := 0) (j := 0) (n := 16) (t := 0) (x := μ x0 0) dX0_run_34 f_X0_56 hx0 rfl rfl ?_
      refine WQ_nm0 (fun v3 e3 => ?_)
      replace h := h v3 e3
      refine WP_istore (L' := [(2, x0), (9, 0), (9, 0), (0, x3), (0, x4), (0, x5), (0, x6), (0, v3), (9, 0)]) dX0_run_37 (by decide) rfl ?_
      refine WP_aload_n dX0_run_39 rfl rfl ⟨Nat.le_of_ble_eq_true rfl, Nat.le_of_ble_eq_true rfl⟩ ?_
      refine WP_getfield (ci := 0) (j := 11) (n := 16) (t := 2) (x := x0 + 8) dX0_run_40 f_X0_33 hx0 rfl rfl ?_
      refine WP_iload dX0_run_43 rfl ?_
      obtain ⟨g4, h⟩ := h
      refine WP_iaload (n := 100) dX0_run_45 (kf_0_11 hx0) g4 ?_
      refine WQ_ifge (tgt := 66) dX0_run_46 (by decide) (fun c5 => ?_) (fun c5 => ?_)
      · replace h := h.1 c5
        refine WP_aload_n dX0_run_66 rfl rfl ⟨Nat.le_of_ble_eq_true rfl, Nat.le_of_ble_eq_true rfl⟩ ?_
        refine WP_iload dX0_run_67 rfl ?_
        refine WQ_invVi (v := (2, x0)) (as := [(0, x6)]) dX0_run_69 l_X0_60 mw_X0_come mi_X0_come ms_X0_come mo_X0_come (rcv (ci := 0) (n := 16) (r := (RX0, TX0, 16)) hx0 rfl rfl) (Nat.le_of_ble_eq_true rfl) h rfl (fun r6 μ7 h => ?_)
        refine WP_istore (L' := [(2, x0), (9, 0), (9, 0), (0, x3), (0, x4), (0, x5), (0, x6), (0, v3), (0, r6)]) dX0_run_72 (by decide) rfl ?_
        refine WP_aload_n dX0_run_74 rfl rfl ⟨Nat.le_of_ble_eq_true rfl, Nat.le_of_ble_eq_true rfl⟩ ?_
        refine WP_iload dX0_run_75 rfl ?_
        refine WP_iload dX0_run_77 rfl ?_
        refine WP_iload dX0_run_79 rfl ?_
        refine WQ_invVv (v := (2, x0)) (as := [(0, x6), (0, r6), (0, x4)]) dX0_run_81 l_X0_64 mw_X0_sayNamings mi_X0_sayNamings ms_X0_sayNamings mo_X0_sayNamings (rcv (ci := 0) (n := 16) (r := (RX0, TX0, 16)) hx0 rfl rfl) (Nat.le_of_ble_eq_true rfl) h rfl (fun μ9 h => ?_)
        refine WP_aload_n dX0_run_84 rfl rfl ⟨Nat.le_of_ble_eq_true rfl, Nat.le_of_ble_eq_true rfl⟩ ?_
        refine WP_getfield (ci := 0) (j := 6) (n := 16) (t := 0) (x := μ9 x0 6) dX0_run_85 f_X0_68 hx0 rfl rfl ?_
        refine WP_iconst dX0_run_88 (by decide) ?_
        refine WQ_icmp_eq (tgt := 94) dX0_run_89 (by decide) (fun c10 => ?_) (fun c10 => ?_)
        · replace h := h.1 c10
          refine WP_aload_n dX0_run_94 rfl rfl ⟨Nat.le_of_ble_eq_true rfl, Nat.le_of_ble_eq_true rfl⟩ ?_
          refine WP_iload dX0_run_95 rfl ?_
          refine WP_iload dX0_run_97 rfl ?_
          refine WP_iload dX0_run_99 rfl ?_
          refine WP_iload dX0_run_101 rfl ?_
          refine WQ_invVv (v := (2, x0)) (as := [(0, x6), (0, r6), (0, x5), (0, v3)]) dX0_run_103 l_X0_71 mw_X0_sayAnswers mi_X0_sayAnswers ms_X0_sayAnswers mo_X0_sayAnswers (rcv (ci := 0) (n := 16) (r := (RX0, TX0, 16)) hx0 rfl rfl) (Nat.le_of_ble_eq_true rfl) h rfl (fun μ12 h => ?_)
          refine WP_iload dX0_run_106 rfl ?_
          refine WP_istore (L' := [(2, x0), (9, 0), (9, 0), (0, x3), (0, x4), (0, v3), (0, x6), (0, v3), (0, r6)]) dX0_run_108 (by decide) rfl ?_
          obtain ⟨g13, h⟩ := h
          refine WQ_iinc dX0_run_110 rfl (by decide) g13 (fun v14 e14 => ?_)
          refine WP_same (L' := [(2, x0), (9, 0), (9, 0), (0, x3), (0, x4), (0, v3), (0, v14), (0, v3), (0, r6)]) rfl ?_
          replace h := h v14 e14
          refine WP_goto (tgt := 20) dX0_run_113 (by decide) ?_
          refine WP_lforget (L' := [(2, x0), (9, 0), (9, 0), (0, x3), (0, x4), (0, v3), (0, v14), (9, 0), (9, 0)]) rfl (fun i hi => ?_) h
          match i, hi with
          | 0, _ => exact Or.inl rfl
          | 1, _ => exact Or.inl rfl
          | 2, _ => exact Or.inl rfl
          | 3, _ => exact Or.inl rfl
          | 4, _ => exact Or.inl rfl
          | 5, _ => exact Or.inl rfl
          | 6, _ => exact Or.inl rfl
          | 7, _ => exact Or.inr rfl
          | 8, _ => exact Or.inr rfl
          | i + 9, hi => exact absurd hi (by simp only [List.length_cons, List.length_nil]; omega)
        · replace h := h.2 c10
          refine WP_iconst dX0_run_92 (by decide) ?_
          exact WQ_zreturn dX0_run_93 rfl ⟨by decide, by decide⟩ h
      · replace h := h.2 c5
        refine WP_aload_n dX0_run_49 rfl rfl ⟨Nat.le_of_ble_eq_true rfl, Nat.le_of_ble_eq_true rfl⟩ ?_
        refine WP_getfield (ci := 0) (j := 9) (n := 16) (t := 2) (x := x0 + 6) dX0_run_50 f_X0_27 hx0 rfl rfl ?_
        refine WP_iload dX0_run_53 rfl ?_
        obtain ⟨g15, h⟩ := h
        refine WP_iaload (n := 100) dX0_run_55 (kf_0_9 hx0) g15 ?_
        refine WQ_ifge (tgt := 66) dX0_run_56 (by decide) (fun c16 => ?_) (fun c16 => ?_)
        · replace h := h.1 c16
          refine WP_aload_n dX0_run_66 rfl rfl ⟨Nat.le_of_ble_eq_true rfl, Nat.le_of_ble_eq_true rfl⟩ ?_
          refine WP_iload dX0_run_67 rfl ?_
          refine WQ_invVi (v := (2, x0)) (as := [(0, x6)]) dX0_run_69 l_X0_60 mw_X0_come mi_X0_come ms_X0_come mo_X0_come (rcv (ci := 0) (n := 16) (r := (RX0, TX0, 16)) hx0 rfl rfl) (Nat.le_of_ble_eq_true rfl) h rfl (fun r17 μ18 h => ?_)
          refine WP_istore (L' := [(2, x0), (9, 0), (9, 0), (0, x3), (0, x4), (0, x5), (0, x6), (0, v3), (0, r17)]) dX0_run_72 (by decide) rfl ?_
          refine WP_aload_n dX0_run_74 rfl rfl ⟨Nat.le_of_ble_eq_true rfl, Nat.le_of_ble_eq_true rfl⟩ ?_
          refine WP_iload dX0_run_75 rfl ?_
          refine WP_iload dX0_run_77 rfl ?_
          refine WP_iload dX0_run_79 rfl ?_
          refine WQ_invVv (v := (2, x0)) (as := [(0, x6), (0, r17), (0, x4)]) dX0_run_81 l_X0_64 mw_X0_sayNamings mi_X0_sayNamings ms_X0_sayNamings mo_X0_sayNamings (rcv (ci := 0) (n := 16) (r := (RX0, TX0, 16)) hx0 rfl rfl) (Nat.le_of_ble_eq_true rfl) h rfl (fun μ20 h => ?_)
          refine WP_aload_n dX0_run_84 rfl rfl ⟨Nat.le_of_ble_eq_true rfl, Nat.le_of_ble_eq_true rfl⟩ ?_
          refine WP_getfield (ci := 0) (j := 6) (n := 16) (t := 0) (x := μ20 x0 6) dX0_run_85 f_X0_68 hx0 rfl rfl ?_
          refine WP_iconst dX0_run_88 (by decide) ?_
          refine WQ_icmp_eq (tgt := 94) dX0_run_89 (by decide) (fun c21 => ?_) (fun c21 => ?_)
          · replace h := h.1 c21
            refine WP_aload_n dX0_run_94 rfl rfl ⟨Nat.le_of_ble_eq_true rfl, Nat.le_of_ble_eq_true rfl⟩ ?_
            refine WP_iload dX0_run_95 rfl ?_
            refine WP_iload dX0_run_97 rfl ?_
            refine WP_iload dX0_run_99 rfl ?_
            refine WP_iload dX0_run_101 rfl ?_
            refine WQ_invVv (v := (2, x0)) (as := [(0, x6), (0, r17), (0, x5), (0, v3)]) dX0_run_103 l_X0_71 mw_X0_sayAnswers mi_X0_sayAnswers ms_X0_sayAnswers mo_X0_sayAnswers (rcv (ci := 0) (n := 16) (r := (RX0, TX0, 16)) hx0 rfl rfl) (Nat.le_of_ble_eq_true rfl) h rfl (fun μ23 h => ?_)
            refine WP_iload dX0_run_106 rfl ?_
            refine WP_istore (L' := [(2, x0), (9, 0), (9, 0), (0, x3), (0, x4), (0, v3), (0, x6), (0, v3), (0, r17)]) dX0_run_108 (by decide) rfl ?_
            obtain ⟨g24, h⟩ := h
            refine WQ_iinc dX0_run_110 rfl (by decide) g24 (fun v25 e25 => ?_)
            refine WP_same (L' := [(2, x0), (9, 0), (9, 0), (0, x3), (0, x4), (0, v3), (0, v25), (0, v3), (0, r17)]) rfl ?_
            replace h := h v25 e25
            refine WP_goto (tgt := 20) dX0_run_113 (by decide) ?_
            refine WP_lforget (L' := [(2, x0), (9, 0), (9, 0), (0, x3), (0, x4), (0, v3), (0, v25), (9, 0), (9, 0)]) rfl (fun i hi => ?_) h
            match i, hi with
            | 0, _ => exact Or.inl rfl
            | 1, _ => exact Or.inl rfl
            | 2, _ => exact Or.inl rfl
            | 3, _ => exact Or.inl rfl
            | 4, _ => exact Or.inl rfl
            | 5, _ => exact Or.inl rfl
            | 6, _ => exact Or.inl rfl
            | 7, _ => exact Or.inr rfl
            | 8, _ => exact Or.inr rfl
            | i + 9, hi => exact absurd hi (by simp only [List.length_cons, List.length_nil]; omega)
          · replace h := h.2 c21
            refine WP_iconst dX0_run_92 (by decide) ?_
            exact WQ_zreturn dX0_run_93 rfl ⟨by decide, by decide⟩ h
        · replace h := h.2 c16
          refine WP_iload dX0_run_59 rfl ?_
          refine WP_iload dX0_run_61 rfl ?_
          refine WQ_icmp_le (tgt := 106) dX0_run_63 (by decide) (fun c26 => ?_) (fun c26 => ?_)
          · replace h := h.1 c26
            refine WP_iload dX0_run_106 rfl ?_
            refine WP_istore (L' := [(2, x0), (9, 0), (9, 0), (0, x3), (0, x4), (0, v3), (0, x6), (0, v3), (9, 0)]) dX0_run_108 (by decide) rfl ?_
            obtain ⟨g27, h⟩ := h
            refine WQ_iinc dX0_run_110 rfl (by decide) g27 (fun v28 e28 => ?_)
            refine WP_same (L' := [(2, x0), (9, 0), (9, 0), (0, x3), (0, x4), (0, v3), (0, v28), (0, v3), (9, 0)]) rfl ?_
            replace h := h v28 e28
            refine WP_goto (tgt := 20) dX0_run_113 (by decide) ?_
            refine WP_lforget (L' := [(2, x0), (9, 0), (9, 0), (0, x3), (0, x4), (0, v3), (0, v28), (9, 0), (9, 0)]) rfl (fun i hi => ?_) h
            match i, hi with
            | 0, _ => exact Or.inl rfl
            | 1, _ => exact Or.inl rfl
            | 2, _ => exact Or.inl rfl
            | 3, _ => exact Or.inl rfl
            | 4, _ => exact Or.inl rfl
            | 5, _ => exact Or.inl rfl
            | 6, _ => exact Or.inl rfl
            | 7, _ => exact Or.inr rfl
            | 8, _ => exact Or.inl rfl
            | i + 9, hi => exact absurd hi (by simp only [List.length_cons, List.length_nil]; omega)
          · replace h := h.2 c26
            refine WP_aload_n dX0_run_66 rfl rfl ⟨Nat.le_of_ble_eq_true rfl, Nat.le_of_ble_eq_true rfl⟩ ?_
            refine WP_iload dX0_run_67 rfl ?_
            refine WQ_invVi (v := (2, x0)) (as := [(0, x6)]) dX0_run_69 l_X0_60 mw_X0_come mi_X0_come ms_X0_come mo_X0_come (rcv (ci := 0) (n := 16) (r := (RX0, TX0, 16)) hx0 rfl rfl) (Nat.le_of_ble_eq_true rfl) h rfl (fun r29 μ30 h => ?_)
            refine WP_istore (L' := [(2, x0), (9, 0), (9, 0), (0, x3), (0, x4), (0, x5), (0, x6), (0, v3), (0, r29)]) dX0_run_72 (by decide) rfl ?_
            refine WP_aload_n dX0_run_74 rfl rfl ⟨Nat.le_of_ble_eq_true rfl, Nat.le_of_ble_eq_true rfl⟩ ?_
            refine WP_iload dX0_run_75 rfl ?_
            refine WP_iload dX0_run_77 rfl ?_
            refine WP_iload dX0_run_79 rfl ?_
            refine WQ_invVv (v := (2, x0)) (as := [(0, x6), (0, r29), (0, x4)]) dX0_run_81 l_X0_64 mw_X0_sayNamings mi_X0_sayNamings ms_X0_sayNamings mo_X0_sayNamings (rcv (ci := 0) (n := 16) (r := (RX0, TX0, 16)) hx0 rfl rfl) (Nat.le_of_ble_eq_true rfl) h rfl (fun μ32 h => ?_)
            refine WP_aload_n dX0_run_84 rfl rfl ⟨Nat.le_of_ble_eq_true rfl, Nat.le_of_ble_eq_true rfl⟩ ?_
            refine WP_getfield (ci := 0) (j := 6) (n := 16) (t := 0) (x := μ32 x0 6) dX0_run_85 f_X0_68 hx0 rfl rfl ?_
            refine WP_iconst dX0_run_88 (by decide) ?_
            refine WQ_icmp_eq (tgt := 94) dX0_run_89 (by decide) (fun c33 => ?_) (fun c33 => ?_)
            · replace h := h.1 c33
              refine WP_aload_n dX0_run_94 rfl rfl ⟨Nat.le_of_ble_eq_true rfl, Nat.le_of_ble_eq_true rfl⟩ ?_
              refine WP_iload dX0_run_95 rfl ?_
              refine WP_iload dX0_run_97 rfl ?_
              refine WP_iload dX0_run_99 rfl ?_
              refine WP_iload dX0_run_101 rfl ?_
              refine WQ_invVv (v := (2, x0)) (as := [(0, x6), (0, r29), (0, x5), (0, v3)]) dX0_run_103 l_X0_71 mw_X0_sayAnswers mi_X0_sayAnswers ms_X0_sayAnswers mo_X0_sayAnswers (rcv (ci := 0) (n := 16) (r := (RX0, TX0, 16)) hx0 rfl rfl) (Nat.le_of_ble_eq_true rfl) h rfl (fun μ35 h => ?_)
              refine WP_iload dX0_run_106 rfl ?_
              refine WP_istore (L' := [(2, x0), (9, 0), (9, 0), (0, x3), (0, x4), (0, v3), (0, x6), (0, v3), (0, r29)]) dX0_run_108 (by decide) rfl ?_
              obtain ⟨g36, h⟩ := h
              refine WQ_iinc dX0_run_110 rfl (by decide) g36 (fun v37 e37 => ?_)
              refine WP_same (L' := [(2, x0), (9, 0), (9, 0), (0, x3), (0, x4), (0, v3), (0, v37), (0, v3), (0, r29)]) rfl ?_
              replace h := h v37 e37
              refine WP_goto (tgt := 20) dX0_run_113 (by decide) ?_
              refine WP_lforget (L' := [(2, x0), (9, 0), (9, 0), (0, x3), (0, x4), (0, v3), (0, v37), (9, 0), (9, 0)]) rfl (fun i hi => ?_) h
              match i, hi with
              | 0, _ => exact Or.inl rfl
              | 1, _ => exact Or.inl rfl
              | 2, _ => exact Or.inl rfl
              | 3, _ => exact Or.inl rfl
              | 4, _ => exact Or.inl rfl
              | 5, _ => exact Or.inl rfl
              | 6, _ => exact Or.inl rfl
              | 7, _ => exact Or.inr rfl
              | 8, _ => exact Or.inr rfl
              | i + 9, hi => exact absurd hi (by simp only [List.length_cons, List.length_nil]; omega)
            · replace h := h.2 c33
              refine WP_iconst dX0_run_92 (by decide) ?_
              exact WQ_zreturn dX0_run_93 rfl ⟨by decide, by decide⟩ h

theorem s_X0_say_0 {d : Nat} {sc : SC} {Q : Mem → Prop} {μ : Mem} {a0 a1 a2 : Int} (ha0 : isK 0 a0)
    (h : isK 3 (μ a0 8) ∧ (0 ≤ a1 ∧ a1 < 36) ∧ (-2147483648 ≤ a2 + (μ (μ a0 8 + 2) a1) ∧ a2 + (μ (μ a0 8 + 2) a1) < 2147483648) ∧ (∀ v4 : Int, v4 = a2 + (μ (μ a0 8 + 2) a1) → (100 ≤ v4 → Q μ) ∧ (v4 < 100 → (μ a0 13 < 512 → (0 ≤ μ a0 13 ∧ μ a0 13 < 512) ∧ (∀ μ8, μ8 = mup μ (a0 + 10) (μ a0 13) a1 → (0 ≤ μ8 a0 13 ∧ μ8 a0 13 < 512) ∧ (∀ μ10, μ10 = mup μ8 (a0 + 11) (μ8 a0 13) (-1) → (0 ≤ v4 ∧ v4 < 100) ∧ (0 ≤ μ10 (a0 + 8) v4 → (0 ≤ v4 ∧ v4 < 100) ∧ (0 ≤ μ10 (a0 + 9) v4 ∧ μ10 (a0 + 9) v4 < 512) ∧ (∀ μ15, μ15 = mup μ10 (a0 + 11) (μ10 (a0 + 9) v4) (μ10 a0 13) → (0 ≤ v4 ∧ v4 < 100) ∧ (∀ μ17, μ17 = mup μ15 (a0 + 9) v4 (μ15 a0 13) → (-2147483648 ≤ (μ17 a0 13) + 1 ∧ (μ17 a0 13) + 1 < 2147483648) ∧ (∀ μ19, μ19 = mup μ17 a0 13 ((μ17 a0 13) + 1) → Q μ19)))) ∧ (μ10 (a0 + 8) v4 < 0 → (0 ≤ v4 ∧ v4 < 100) ∧ (∀ μ21, μ21 = mup μ10 (a0 + 8) v4 (μ10 a0 13) → (0 ≤ v4 ∧ v4 < 100) ∧ (∀ μ23, μ23 = mup μ21 (a0 + 9) v4 (μ21 a0 13) → (-2147483648 ≤ (μ23 a0 13) + 1 ∧ (μ23 a0 13) + 1 < 2147483648) ∧ (∀ μ25, μ25 = mup μ23 a0 13 ((μ23 a0 13) + 1) → Q μ25))))))) ∧ (512 ≤ μ a0 13 → Q μ)))) :
    WQ mX0_say d sc (ZV sc Q) 0 [(2, a0), (0, a1), (0, a2), (9, 0)] [] μ := by
  refine WP_iload_n dX0_say_0 rfl rfl ?_
  refine WP_aload_n dX0_say_1 rfl rfl ⟨Nat.le_of_ble_eq_true rfl, Nat.le_of_ble_eq_true rfl⟩ ?_
  refine WP_getfield (ci := 0) (j := 8) (n := 16) (t := 2) (x := μ a0 8) dX0_say_2 f_X0_49 ha0 rfl rfl ?_
  obtain ⟨g1, h⟩ := h
  refine WP_getfield (ci := 3) (j := 1) (n := 9) (t := 2) (x := μ a0 8 + 2) dX0_say_5 f_X0_108 g1 rfl rfl ?_
  refine WP_iload_n dX0_say_8 rfl rfl ?_
  obtain ⟨g2, h⟩ := h
  refine WP_iaload (n := 36) dX0_say_9 (kf_3_1 g1) g2 ?_
  obtain ⟨g3, h⟩ := h
  refine WP_iadd dX0_say_10 g3 ?_
  refine WQ_nm0 (fun v4 e4 => ?_)
  replace h := h v4 e4
  refine WP_istore_n (L' := [(2, a0), (0, a1), (0, a2), (0, v4)]) dX0_say_11 rfl (by decide) rfl ?_
  refine WP_iload_n dX0_say_12 rfl rfl ?_
  refine WP_bipush dX0_say_13 (by decide +kernel) (by decide) ?_
  refine WQ_icmp_ge (tgt := 28) dX0_say_15 (by decide) (fun c5 => ?_) (fun c5 => ?_)
  · replace h := h.1 c5
    exact WQ_return dX0_say_28 rfl h
  · replace h := h.2 c5
    refine WP_aload_n dX0_say_18 rfl rfl ⟨Nat.le_of_ble_eq_true rfl, Nat.le_of_ble_eq_true rfl⟩ ?_
    refine WP_getfield (ci := 0) (j := 13) (n := 16) (t := 0) (x := μ a0 13) dX0_say_19 f_X0_75 ha0 rfl rfl ?_
    refine WP_sipush dX0_say_22 (by decide +kernel) (by decide) ?_
    refine WQ_icmp_lt (tgt := 29) dX0_say_25 (by decide) (fun c6 => ?_) (fun c6 => ?_)
    · replace h := h.1 c6
      refine WP_aload_n dX0_say_29 rfl rfl ⟨Nat.le_of_ble_eq_true rfl, Nat.le_of_ble_eq_true rfl⟩ ?_
      refine WP_getfield (ci := 0) (j := 14) (n := 16) (t := 2) (x := a0 + 10) dX0_say_30 f_X0_39 ha0 rfl rfl ?_
      refine WP_aload_n dX0_say_33 rfl rfl ⟨Nat.le_of_ble_eq_true rfl, Nat.le_of_ble_eq_true rfl⟩ ?_
      refine WP_getfield (ci := 0) (j := 13) (n := 16) (t := 0) (x := μ a0 13) dX0_say_34 f_X0_75 ha0 rfl rfl ?_
      refine WP_iload_n dX0_say_37 rfl rfl ?_
      obtain ⟨g7, h⟩ := h
      refine WQ_iast (n := 512) dX0_say_38 (kf_0_14 ha0) g7 (fun μ8 eμ8 => ?_)
      replace h := h μ8 eμ8
      refine WP_aload_n dX0_say_39 rfl rfl ⟨Nat.le_of_ble_eq_true rfl, Nat.le_of_ble_eq_true rfl⟩ ?_
      refine WP_getfield (ci := 0) (j := 15) (n := 16) (t := 2) (x := a0 + 11) dX0_say_40 f_X0_42 ha0 rfl rfl ?_
      refine WP_aload_n dX0_say_43 rfl rfl ⟨Nat.le_of_ble_eq_true rfl, Nat.le_of_ble_eq_true rfl⟩ ?_
      refine WP_getfield (ci := 0) (j := 13) (n := 16) (t := 0) (x := μ8 a0 13) dX0_say_44 f_X0_75 ha0 rfl rfl ?_
      refine WP_iconst dX0_say_47 (by decide) ?_
      obtain ⟨g9, h⟩ := h
      refine WQ_iast (n := 512) dX0_say_48 (kf_0_15 ha0) g9 (fun μ10 eμ10 => ?_)
      replace h := h μ10 eμ10
      refine WP_aload_n dX0_say_49 rfl rfl ⟨Nat.le_of_ble_eq_true rfl, Nat.le_of_ble_eq_true rfl⟩ ?_
      refine WP_getfield (ci := 0) (j := 11) (n := 16) (t := 2) (x := a0 + 8) dX0_say_50 f_X0_33 ha0 rfl rfl ?_
      refine WP_iload_n dX0_say_53 rfl rfl ?_
      obtain ⟨g11, h⟩ := h
      refine WP_iaload (n := 100) dX0_say_54 (kf_0_11 ha0) g11 ?_
      refine WQ_ifge (tgt := 71) dX0_say_55 (by decide) (fun c12 => ?_) (fun c12 => ?_)
      · replace h := h.1 c12
        refine WP_aload_n dX0_say_71 rfl rfl ⟨Nat.le_of_ble_eq_true rfl, Nat.le_of_ble_eq_true rfl⟩ ?_
        refine WP_getfield (ci := 0) (j := 15) (n := 16) (t := 2) (x := a0 + 11) dX0_say_72 f_X0_42 ha0 rfl rfl ?_
        refine WP_aload_n dX0_say_75 rfl rfl ⟨Nat.le_of_ble_eq_true rfl, Nat.le_of_ble_eq_true rfl⟩ ?_
        refine WP_getfield (ci := 0) (j := 12) (n := 16) (t := 2) (x := a0 + 9) dX0_say_76 f_X0_36 ha0 rfl rfl ?_
        refine WP_iload_n dX0_say_79 rfl rfl ?_
        obtain ⟨g13, h⟩ := h
        refine WP_iaload (n := 100) dX0_say_80 (kf_0_12 ha0) g13 ?_
        refine WP_aload_n dX0_say_81 rfl rfl ⟨Nat.le_of_ble_eq_true rfl, Nat.le_of_ble_eq_true rfl⟩ ?_
        refine WP_getfield (ci := 0) (j := 13) (n := 16) (t := 0) (x := μ10 a0 13) dX0_say_82 f_X0_75 ha0 rfl rfl ?_
        obtain ⟨g14, h⟩ := h
        refine WQ_iast (n := 512) dX0_say_85 (kf_0_15 ha0) g14 (fun μ15 eμ15 => ?_)
        replace h := h μ15 eμ15
        refine WP_aload_n dX0_say_86 rfl rfl ⟨Nat.le_of_ble_eq_true rfl, Nat.le_of_ble_eq_true rfl⟩ ?_
        refine WP_getfield (ci := 0) (j := 12) (n := 16) (t := 2) (x := a0 + 9) dX0_say_87 f_X0_36 ha0 rfl rfl ?_
        refine WP_iload_n dX0_say_90 rfl rfl ?_
        refine WP_aload_n dX0_say_91 rfl rfl ⟨Nat.le_of_ble_eq_true rfl, Nat.le_of_ble_eq_true rfl⟩ ?_
        refine WP_getfield (ci := 0) (j := 13) (n := 16) (t := 0) (x := μ15 a0 13) dX0_say_92 f_X0_75 ha0 rfl rfl ?_
        obtain ⟨g16, h⟩ := h
        refine WQ_iast (n := 100) dX0_say_95 (kf_0_12 ha0) g16 (fun μ17 eμ17 => ?_)
        replace h := h μ17 eμ17
        refine WP_aload_n dX0_say_96 rfl rfl ⟨Nat.le_of_ble_eq_true rfl, Nat.le_of_ble_eq_true rfl⟩ ?_
        refine WP_dup dX0_say_97 (by simp) ?_
        refine WP_getfield (ci := 0) (j := 13) (n := 16) (t := 0) (x := μ17 a0 13) dX0_say_98 f_X0_75 ha0 rfl rfl ?_
        refine WP_iconst dX0_say_101 (by decide) ?_
        obtain ⟨g18, h⟩ := h
        refine WP_iadd dX0_say_102 g18 ?_
        refine WQ_put (ci := 0) (j := 13) (n := 16) dX0_say_103 f_X0_75 ha0 rfl (fun μ19 eμ19 => ?_)
        replace h := h μ19 eμ19
        exact WQ_return dX0_say_106 rfl h
      · replace h := h.2 c12
        refine WP_aload_n dX0_say_58 rfl rfl ⟨Nat.le_of_ble_eq_true rfl, Nat.le_of_ble_eq_true rfl⟩ ?_
        refine WP_getfield (ci := 0) (j := 11) (n := 16) (t := 2) (x := a0 + 8) dX0_say_59 f_X0_33 ha0 rfl rfl ?_
        refine WP_iload_n dX0_say_62 rfl rfl ?_
        refine WP_aload_n dX0_say_63 rfl rfl ⟨Nat.le_of_ble_eq_true rfl, Nat.le_of_ble_eq_true rfl⟩ ?_
        refine WP_getfield (ci := 0) (j := 13) (n := 16) (t := 0) (x := μ10 a0 13) dX0_say_64 f_X0_75 ha0 rfl rfl ?_
        obtain ⟨g20, h⟩ := h
        refine WQ_iast (n := 100) dX0_say_67 (kf_0_11 ha0) g20 (fun μ21 eμ21 => ?_)
        replace h := h μ21 eμ21
        refine WP_goto (tgt := 86) dX0_say_68 (by decide) ?_
        refine WP_aload_n dX0_say_86 rfl rfl ⟨Nat.le_of_ble_eq_true rfl, Nat.le_of_ble_eq_true rfl⟩ ?_
        refine WP_getfield (ci := 0) (j := 12) (n := 16) (t := 2) (x := a0 + 9) dX0_say_87 f_X0_36 ha0 rfl rfl ?_
        refine WP_iload_n dX0_say_90 rfl rfl ?_
        refine WP_aload_n dX0_say_91 rfl rfl ⟨Nat.le_of_ble_eq_true rfl, Nat.le_of_ble_eq_true rfl⟩ ?_
        refine WP_getfield (ci := 0) (j := 13) (n := 16) (t := 0) (x := μ21 a0 13) dX0_say_92 f_X0_75 ha0 rfl rfl ?_
        obtain ⟨g22, h⟩ := h
        refine WQ_iast (n := 100) dX0_say_95 (kf_0_12 ha0) g22 (fun μ23 eμ23 => ?_)
        replace h := h μ23 eμ23
        refine WP_aload_n dX0_say_96 rfl rfl ⟨Nat.le_of_ble_eq_true rfl, Nat.le_of_ble_eq_true rfl⟩ ?_
        refine WP_dup dX0_say_97 (by simp) ?_
        refine WP_getfield (ci := 0) (j := 13) (n := 16) (t := 0) (x := μ23 a0 13) dX0_say_98 f_X0_75 ha0 rfl rfl ?_
        refine WP_iconst dX0_say_101 (by decide) ?_
        obtain ⟨g24, h⟩ := h
        refine WP_iadd dX0_say_102 g24 ?_
        refine WQ_put (ci := 0) (j := 13) (n := 16) dX0_say_103 f_X0_75 ha0 rfl (fun μ25 eμ25 => ?_)
        replace h := h μ25 eμ25
        exact WQ_return dX0_say_106 rfl h
    · replace h := h.2 c6
      exact WQ_return dX0_say_28 rfl h

theorem s_X0_sayAnswers_0 {d : Nat} {sc : SC} {Q : Mem → Prop} {μ : Mem} {a0 a1 a2 a3 a4 : Int} (ha0 : isK 0 a0)
    (h : WQ mX0_sayAnswers d sc (ZV sc Q) 3 [(2, a0), (0, a1), (0, a2), (9, 0), (0, a4), (0, a3), (9, 0), (9, 0)] [] μ) :
    WQ mX0_sayAnswers d sc (ZV sc Q) 0 [(2, a0), (0, a1), (0, a2), (0, a3), (0, a4), (9, 0), (9, 0), (9, 0)] [] μ := by
  refine WP_iload_n dX0_sayAnswers_0 rfl rfl ?_
  refine WP_istore (L' := [(2, a0), (0, a1), (0, a2), (0, a3), (0, a4), (0, a3), (9, 0), (9, 0)]) dX0_sayAnswers_1 (by decide) rfl ?_
  refine WP_lforget (L' := [(2, a0), (0, a1), (0, a2), (9, 0), (0, a4), (0, a3), (9, 0), (9, 0)]) rfl (fun i hi => ?_) h
  match i, hi with
  | 0, _ => exact Or.inl rfl
  | 1, _ => exact Or.inl rfl
  | 2, _ => exact Or.inl rfl
  | 3, _ => exact Or.inr rfl
  | 4, _ => exact Or.inl rfl
  | 5, _ => exact Or.inl rfl
  | 6, _ => exact Or.inl rfl
  | 7, _ => exact Or.inl rfl
  | i + 8, hi => exact absurd hi (by simp only [List.length_cons, List.length_nil]; omega)

theorem s_X0_sayAnswers_3 {d : Nat} {sc : SC} {Q : Mem → Prop} {μ : Mem} {x0 x1 x2 x4 x5 : Int} (hx0 : isK 0 x0)
    (h : (x4 ≤ x5 → Q μ) ∧ (x5 < x4 → (0 ≤ x5 ∧ x5 < 512) ∧ (∀ v3 : Int, v3 = μ (x0 + 1) x5 → 0 ≤ v3 ∧ (∀ v5 : Int, v5 = v3 % 6 → (iAnd (iShr x2 v5) 1 ≠ 0 → (-2147483648 ≤ x5 + 1 ∧ x5 + 1 < 2147483648) ∧ ∀ v8 : Int, v8 = x5 + 1 → WQ mX0_sayAnswers d sc (ZV sc Q) 3 [(2, x0), (0, x1), (0, x2), (9, 0), (0, x4), (0, v8), (9, 0), (9, 0)] [] μ) ∧ (iAnd (iShr x2 v5) 1 = 0 → (-2147483648 ≤ x1 - 1 ∧ x1 - 1 < 2147483648) ∧ isK 3 (μ x0 8) ∧ CAi mX3_isAnswered d sc [(2, μ x0 8), (0, v3), (0, x1 - 1)] μ (fun r11 μ12 => (r11 = 0 → (-2147483648 ≤ x5 + 1 ∧ x5 + 1 < 2147483648) ∧ ∀ v15 : Int, v15 = x5 + 1 → WQ mX0_sayAnswers d sc (ZV sc Q) 3 [(2, x0), (0, x1), (0, x2), (9, 0), (0, x4), (0, v15), (9, 0), (9, 0)] [] μ12) ∧ (r11 ≠ 0 → (0 ≤ v5 ∧ v5 < 6) ∧ (-2147483648 ≤ (μ12 (x0 + 4) v5) + 1 ∧ (μ12 (x0 + 4) v5) + 1 < 2147483648) ∧ (0 ≤ v5 ∧ v5 < 6) ∧ (∀ μ19, μ19 = mup μ12 (x0 + 4) v5 ((μ12 (x0 + 4) v5) + 1) → (-2147483648 ≤ v5 * 6 ∧ v5 * 6 < 2147483648) ∧ 0 ≤ v3 ∧ (-2147483648 ≤ (v5 * 6) + (v3 / 6) ∧ (v5 * 6) + (v3 / 6) < 2147483648) ∧ CAv mX0_say d sc [(2, x0), (0, (v5 * 6) + (v3 / 6)), (0, x1)] μ19 (fun μ24 => (-2147483648 ≤ x5 + 1 ∧ x5 + 1 < 2147483648) ∧ ∀ v26 : Int, v26 = x5 + 1 → WQ mX0_sayAnswers d sc (ZV sc Q) 3 [(2, x0), (0, x1), (0, x2), (9, 0), (0, x4), (0, v26), (9, 0), (9, 0)] [] μ24))))))))) :
    WQ mX0_sayAnswers d sc (ZV sc Q) 3 [(2, x0), (0, x1), (0, x2), (9, 0), (0, x4), (0, x5), (9, 0), (9, 0)] [] μ := by
  refine WP_iload dX0_sayAnswers_3 rfl ?_
  refine WP_iload dX0_sayAnswers_5 rfl ?_
  refine WQ_icmp_ge (tgt := 83) dX0_sayAnswers_7 (by decide) (fun c1 => ?_) (fun c1 => ?_)
  · replace h := h.1 c1
    exact WQ_return dX0_sayAnswers_83 rfl h
  · replace h := h.2 c1
    refine WP_aload_n dX0_sayAnswers_10 rfl rfl ⟨Nat.le_of_ble_eq_true rfl, Nat.le_of_ble_eq_true rfl⟩ ?_
    refine WP_getfield (ci := 0) (j := 1) (n := 16) (t := 2) (x := x0 + 1) dX0_sayAnswers_11 f_X0_9 hx0 rfl rfl ?_
    refine WP_iload dX0_sayAnswers_14 rfl ?_
    obtain ⟨g2, h⟩ := h
    refine WP_iaload (n := 512) dX0_sayAnswers_16 (kf_0_1 hx0) g2 ?_
    refine WQ_nm0 (fun v3 e3 => ?_)
    replace h := h v3 e3
    refine WP_istore (L' := [(2, x0), (0, x1), (0, x2), (9, 0), (0, x4), (0, x5), (0, v3), (9, 0)]) dX0_sayAnswers_17 (by decide) rfl ?_
    refine WP_iload dX0_sayAnswers_19 rfl ?_
    refine WP_bipush dX0_sayAnswers_21 (by decide +kernel) (by decide) ?_
    obtain ⟨g4, h⟩ := h
    refine WP_irem dX0_sayAnswers_23 ⟨g4, by decide⟩ ?_
    refine WQ_nm0 (fun v5 e5 => ?_)
    replace h := h v5 e5
    refine WP_istore (L' := [(2, x0), (0, x1), (0, x2), (9, 0), (0, x4), (0, x5), (0, v3), (0, v5)]) dX0_sayAnswers_24 (by decide) rfl ?_
    refine WP_iload_n dX0_sayAnswers_26 rfl rfl ?_
    refine WP_iload dX0_sayAnswers_27 rfl ?_
    refine WP_ishr dX0_sayAnswers_29 ?_
    refine WP_iconst dX0_sayAnswers_30 (by decide) ?_
    refine WP_iand dX0_sayAnswers_31 ?_
    refine WQ_ifne (tgt := 77) dX0_sayAnswers_32 (by decide) (fun c6 => ?_) (fun c6 => ?_)
    · replace h := h.1 c6
      obtain ⟨g7, h⟩ := h
      refine WQ_iinc dX0_sayAnswers_77 rfl (by decide) g7 (fun v8 e8 => ?_)
      refine WP_same (L' := [(2, x0), (0, x1), (0, x2), (9, 0), (0, x4), (0, v8), (0, v3), (0, v5)]) rfl ?_
      replace h := h v8 e8
      refine WP_goto (tgt := 3) dX0_sayAnswers_80 (by decide) ?_
      refine WP_lforget (L' := [(2, x0), (0, x1), (0, x2), (9, 0), (0, x4), (0, v8), (9, 0), (9, 0)]) rfl (fun i hi => ?_) h
      match i, hi with
      | 0, _ => exact Or.inl rfl
      | 1, _ => exact Or.inl rfl
      | 2, _ => exact Or.inl rfl
      | 3, _ => exact Or.inl rfl
      | 4, _ => exact Or.inl rfl
      | 5, _ => exact Or.inl rfl
      | 6, _ => exact Or.inr rfl
      | 7, _ => exact Or.inr rfl
      | i + 8, hi => exact absurd hi (by simp only [List.length_cons, List.length_nil]; omega)
    · replace h := h.2 c6
      refine WP_aload_n dX0_sayAnswers_35 rfl rfl ⟨Nat.le_of_ble_eq_true rfl, Nat.le_of_ble_eq_true rfl⟩ ?_
      refine WP_getfield (ci := 0) (j := 8) (n := 16) (t := 2) (x := μ x0 8) dX0_sayAnswers_36 f_X0_49 hx0 rfl rfl ?_
      refine WP_iload dX0_sayAnswers_39 rfl ?_
      refine WP_iload_n dX0_sayAnswers_41 rfl rfl ?_
      refine WP_iconst dX0_sayAnswers_42 (by decide) ?_
      obtain ⟨g9, h⟩ := h
      refine WP_isub dX0_sayAnswers_43 g9 ?_
      obtain ⟨g10, h⟩ := h
      refine WQ_invVi (v := (2, μ x0 8)) (as := [(0, v3), (0, x1 - 1)]) dX0_sayAnswers_44 l_X0_102 mw_X3_isAnswered mi_X3_isAnswered ms_X3_isAnswered mo_X3_isAnswered (rcv (ci := 3) (n := 9) (r := (RX3, TX3, 9)) g10 rfl rfl) (Nat.le_of_ble_eq_true rfl) h rfl (fun r11 μ12 h => ?_)
      refine WQ_ifeq (tgt := 77) dX0_sayAnswers_47 (by decide) (fun c13 => ?_) (fun c13 => ?_)
      · replace h := h.1 c13
        obtain ⟨g14, h⟩ := h
        refine WQ_iinc dX0_sayAnswers_77 rfl (by decide) g14 (fun v15 e15 => ?_)
        refine WP_same (L' := [(2, x0), (0, x1), (0, x2), (9, 0), (0, x4), (0, v15), (0, v3), (0, v5)]) rfl ?_
        replace h := h v15 e15
        refine WP_goto (tgt := 3) dX0_sayAnswers_80 (by decide) ?_
        refine WP_lforget (L' := [(2, x0), (0, x1), (0, x2), (9, 0), (0, x4), (0, v15), (9, 0), (9, 0)]) rfl (fun i hi => ?_) h
        match i, hi with
        | 0, _ => exact Or.inl rfl
        | 1, _ => exact Or.inl rfl
        | 2, _ => exact Or.inl rfl
        | 3, _ => exact Or.inl rfl
        | 4, _ => exact Or.inl rfl
        | 5, _ => exact Or.inl rfl
        | 6, _ => exact Or.inr rfl
        | 7, _ => exact Or.inr rfl
        | i + 8, hi => exact absurd hi (by simp only [List.length_cons, List.length_nil]; omega)
      · replace h := h.2 c13
        refine WP_aload_n dX0_sayAnswers_50 rfl rfl ⟨Nat.le_of_ble_eq_true rfl, Nat.le_of_ble_eq_true rfl⟩ ?_
        refine WP_getfield (ci := 0) (j := 4) (n := 16) (t := 2) (x := x0 + 4) dX0_sayAnswers_51 f_X0_21 hx0 rfl rfl ?_
        refine WP_iload dX0_sayAnswers_54 rfl ?_
        refine WP_dup2 dX0_sayAnswers_56 (by simp) (by simp) ?_
        obtain ⟨g16, h⟩ := h
        refine WP_iaload (n := 6) dX0_sayAnswers_57 (kf_0_4 hx0) g16 ?_
        refine WP_iconst dX0_sayAnswers_58 (by decide) ?_
        obtain ⟨g17, h⟩ := h
        refine WP_iadd dX0_sayAnswers_59 g17 ?_
        obtain ⟨g18, h⟩ := h
        refine WQ_iast (n := 6) dX0_sayAnswers_60 (kf_0_4 hx0) g18 (fun μ19 eμ19 => ?_)
        replace h := h μ19 eμ19
        refine WP_aload_n dX0_sayAnswers_61 rfl rfl ⟨Nat.le_of_ble_eq_true rfl, Nat.le_of_ble_eq_true rfl⟩ ?_
        refine WP_iload dX0_sayAnswers_62 rfl ?_
        refine WP_bipush dX0_sayAnswers_64 (by decide +kernel) (by decide) ?_
        obtain ⟨g20, h⟩ := h
        refine WP_imul dX0_sayAnswers_66 g20 ?_
        refine WP_iload dX0_sayAnswers_67 rfl ?_
        refine WP_bipush dX0_sayAnswers_69 (by decide +kernel) (by decide) ?_
        obtain ⟨g21, h⟩ := h
        refine WP_idiv dX0_sayAnswers_71 ⟨g21, by decide⟩ ?_
        obtain ⟨g22, h⟩ := h
        refine WP_iadd dX0_sayAnswers_72 g22 ?_
        refine WP_iload_n dX0_sayAnswers_73 rfl rfl ?_
        refine WQ_invVv (v := (2, x0)) (as := [(0, (v5 * 6) + (v3 / 6)), (0, x1)]) dX0_sayAnswers_74 l_X0_98 mw_X0_say mi_X0_say ms_X0_say mo_X0_say (rcv (ci := 0) (n := 16) (r := (RX0, TX0, 16)) hx0 rfl rfl) (Nat.le_of_ble_eq_true rfl) h rfl (fun μ24 h => ?_)
        obtain ⟨g25, h⟩ := h
        refine WQ_iinc dX0_sayAnswers_77 rfl (by decide) g25 (fun v26 e26 => ?_)
        refine WP_same (L' := [(2, x0), (0, x1), (0, x2), (9, 0), (0, x4), (0, v26), (0, v3), (0, v5)]) rfl ?_
        replace h := h v26 e26
        refine WP_goto (tgt := 3) dX0_sayAnswers_80 (by decide) ?_
        refine WP_lforget (L' := [(2, x0), (0, x1), (0, x2), (9, 0), (0, x4), (0, v26), (9, 0), (9, 0)]) rfl (fun i hi => ?_) h
        match i, hi with
        | 0, _ => exact Or.inl rfl
        | 1, _ => exact Or.inl rfl
        | 2, _ => exact Or.inl rfl
        | 3, _ => exact Or.inl rfl
        | 4, _ => exact Or.inl rfl
        | 5, _ => exact Or.inl rfl
        | 6, _ => exact Or.inr rfl
        | 7, _ => exact Or.inr rfl
        | i + 8, hi => exact absurd hi (by simp only [List.length_cons, List.length_nil]; omega)

theorem s_X0_sayNamings_0 {d : Nat} {sc : SC} {Q : Mem → Prop} {μ : Mem} {a0 a1 a2 a3 : Int} (ha0 : isK 0 a0)
    (h : (0 ≤ a1 ∧ a1 < 100) ∧ (∀ v2 : Int, v2 = μ (a0 + 6) a1 → isK 6 (μ a0 7) ∧ (∀ v4 : Int, v4 = μ (μ a0 7) 0 → WQ mX0_sayNamings d sc (ZV sc Q) 17 [(2, a0), (0, a1), (0, a2), (0, a3), (0, v2), (0, v4), (9, 0)] [] μ))) :
    WQ mX0_sayNamings d sc (ZV sc Q) 0 [(2, a0), (0, a1), (0, a2), (0, a3), (9, 0), (9, 0), (9, 0)] [] μ := by
  refine WP_aload_n dX0_sayNamings_0 rfl rfl ⟨Nat.le_of_ble_eq_true rfl, Nat.le_of_ble_eq_true rfl⟩ ?_
  refine WP_getfield (ci := 0) (j := 9) (n := 16) (t := 2) (x := a0 + 6) dX0_sayNamings_1 f_X0_27 ha0 rfl rfl ?_
  refine WP_iload_n dX0_sayNamings_4 rfl rfl ?_
  obtain ⟨g1, h⟩ := h
  refine WP_iaload (n := 100) dX0_sayNamings_5 (kf_0_9 ha0) g1 ?_
  refine WQ_nm0 (fun v2 e2 => ?_)
  replace h := h v2 e2
  refine WP_istore (L' := [(2, a0), (0, a1), (0, a2), (0, a3), (0, v2), (9, 0), (9, 0)]) dX0_sayNamings_6 (by decide) rfl ?_
  refine WP_aload_n dX0_sayNamings_8 rfl rfl ⟨Nat.le_of_ble_eq_true rfl, Nat.le_of_ble_eq_true rfl⟩ ?_
  refine WP_getfield (ci := 0) (j := 7) (n := 16) (t := 2) (x := μ a0 7) dX0_sayNamings_9 f_X0_45 ha0 rfl rfl ?_
  obtain ⟨g3, h⟩ := h
  refine WP_getfield (ci := 6) (j := 0) (n := 7) (t := 0) (x := μ (μ a0 7) 0) dX0_sayNamings_12 f_X0_84 g3 rfl rfl ?_
  refine WQ_nm0 (fun v4 e4 => ?_)
  replace h := h v4 e4
  refine WP_istore (L' := [(2, a0), (0, a1), (0, a2), (0, a3), (0, v2), (0, v4), (9, 0)]) dX0_sayNamings_15 (by decide) rfl ?_
  exact h

theorem s_X0_sayNamings_17 {d : Nat} {sc : SC} {Q : Mem → Prop} {μ : Mem} {x0 x1 x2 x3 x4 x5 : Int} (hx0 : isK 0 x0)
    (h : (x5 ≤ 0 → Q μ) ∧ (0 < x5 → (x4 < 0 → Q μ) ∧ (0 ≤ x4 → isK 6 (μ x0 7) ∧ (0 ≤ x4 ∧ x4 < 10) ∧ (∀ v5 : Int, v5 = μ (μ x0 7 + 1) x4 → (iAnd (iShr x2 v5) 1 ≠ 0 → (0 ≤ x4 ∧ x4 < 10) ∧ (∀ v8 : Int, v8 = μ (x0 + 7) x4 → (-2147483648 ≤ x5 + (-1) ∧ x5 + (-1) < 2147483648) ∧ ∀ v10 : Int, v10 = x5 + (-1) → WQ mX0_sayNamings d sc (ZV sc Q) 17 [(2, x0), (0, x1), (0, x2), (0, x3), (0, v8), (0, v10), (9, 0)] [] μ)) ∧ (iAnd (iShr x2 v5) 1 = 0 → (0 ≤ x4 ∧ x4 < 10) ∧ (∀ μ12, μ12 = mup μ (x0 + 5) x4 1 → (-2147483648 ≤ v5 * 6 ∧ v5 * 6 < 2147483648) ∧ isK 6 (μ12 x0 7) ∧ (0 ≤ x4 ∧ x4 < 10) ∧ (-2147483648 ≤ (v5 * 6) + (μ12 (μ12 x0 7 + 2) x4) ∧ (v5 * 6) + (μ12 (μ12 x0 7 + 2) x4) < 2147483648) ∧ CAv mX0_say d sc [(2, x0), (0, (v5 * 6) + (μ12 (μ12 x0 7 + 2) x4)), (0, x1)] μ12 (fun μ18 => (v5 ≠ x3 → (0 ≤ x4 ∧ x4 < 10) ∧ (∀ v21 : Int, v21 = μ18 (x0 + 7) x4 → (-2147483648 ≤ x5 + (-1) ∧ x5 + (-1) < 2147483648) ∧ ∀ v23 : Int, v23 = x5 + (-1) → WQ mX0_sayNamings d sc (ZV sc Q) 17 [(2, x0), (0, x1), (0, x2), (0, x3), (0, v21), (0, v23), (9, 0)] [] μ18)) ∧ (v5 = x3 → ∀ μ24, μ24 = mup μ18 x0 6 x1 → (0 ≤ x4 ∧ x4 < 10) ∧ (∀ v26 : Int, v26 = μ24 (x0 + 7) x4 → (-2147483648 ≤ x5 + (-1) ∧ x5 + (-1) < 2147483648) ∧ ∀ v28 : Int, v28 = x5 + (-1) → WQ mX0_sayNamings d sc (ZV sc Q) 17 [(2, x0), (0, x1), (0, x2), (0, x3), (0, v26), (0, v28), (9, 0)] [] μ24))))))))) :
    WQ mX0_sayNamings d sc (ZV sc Q) 17 [(2, x0), (0, x1), (0, x2), (0, x3), (0, x4), (0, x5), (9, 0)] [] μ := by
  refine WP_iload dX0_sayNamings_17 rfl ?_
  refine WQ_ifle (tgt := 103) dX0_sayNamings_19 (by decide) (fun c1 => ?_) (fun c1 => ?_)
  · replace h := h.1 c1
    exact WQ_return dX0_sayNamings_103 rfl h
  · replace h := h.2 c1
    refine WP_iload dX0_sayNamings_22 rfl ?_
    refine WQ_iflt (tgt := 103) dX0_sayNamings_24 (by decide) (fun c2 => ?_) (fun c2 => ?_)
    · replace h := h.1 c2
      exact WQ_return dX0_sayNamings_103 rfl h
    · replace h := h.2 c2
      refine WP_aload_n dX0_sayNamings_27 rfl rfl ⟨Nat.le_of_ble_eq_true rfl, Nat.le_of_ble_eq_true rfl⟩ ?_
      refine WP_getfield (ci := 0) (j := 7) (n := 16) (t := 2) (x := μ x0 7) dX0_sayNamings_28 f_X0_45 hx0 rfl rfl ?_
      obtain ⟨g3, h⟩ := h
      refine WP_getfield (ci := 6) (j := 1) (n := 7) (t := 2) (x := μ x0 7 + 1) dX0_sayNamings_31 f_X0_92 g3 rfl rfl ?_
      refine WP_iload dX0_sayNamings_34 rfl ?_
      obtain ⟨g4, h⟩ := h
      refine WP_iaload (n := 10) dX0_sayNamings_36 (kf_6_1 g3) g4 ?_
      refine WQ_nm0 (fun v5 e5 => ?_)
      replace h := h v5 e5
      refine WP_istore (L' := [(2, x0), (0, x1), (0, x2), (0, x3), (0, x4), (0, x5), (0, v5)]) dX0_sayNamings_37 (by decide) rfl ?_
      refine WP_iload_n dX0_sayNamings_39 rfl rfl ?_
      refine WP_iload dX0_sayNamings_40 rfl ?_
      refine WP_ishr dX0_sayNamings_42 ?_
      refine WP_iconst dX0_sayNamings_43 (by decide) ?_
      refine WP_iand dX0_sayNamings_44 ?_
      refine WQ_ifne (tgt := 88) dX0_sayNamings_45 (by decide) (fun c6 => ?_) (fun c6 => ?_)
      · replace h := h.1 c6
        refine WP_aload_n dX0_sayNamings_88 rfl rfl ⟨Nat.le_of_ble_eq_true rfl, Nat.le_of_ble_eq_true rfl⟩ ?_
        refine WP_getfield (ci := 0) (j := 10) (n := 16) (t := 2) (x := x0 + 7) dX0_sayNamings_89 f_X0_30 hx0 rfl rfl ?_
        refine WP_iload dX0_sayNamings_92 rfl ?_
        obtain ⟨g7, h⟩ := h
        refine WP_iaload (n := 10) dX0_sayNamings_94 (kf_0_10 hx0) g7 ?_
        refine WQ_nm0 (fun v8 e8 => ?_)
        replace h := h v8 e8
        refine WP_istore (L' := [(2, x0), (0, x1), (0, x2), (0, x3), (0, v8), (0, x5), (0, v5)]) dX0_sayNamings_95 (by decide) rfl ?_
        obtain ⟨g9, h⟩ := h
        refine WQ_iinc dX0_sayNamings_97 rfl (by decide) g9 (fun v10 e10 => ?_)
        refine WP_same (L' := [(2, x0), (0, x1), (0, x2), (0, x3), (0, v8), (0, v10), (0, v5)]) rfl ?_
        replace h := h v10 e10
        refine WP_goto (tgt := 17) dX0_sayNamings_100 (by decide) ?_
        refine WP_lforget (L' := [(2, x0), (0, x1), (0, x2), (0, x3), (0, v8), (0, v10), (9, 0)]) rfl (fun i hi => ?_) h
        match i, hi with
        | 0, _ => exact Or.inl rfl
        | 1, _ => exact Or.inl rfl
        | 2, _ => exact Or.inl rfl
        | 3, _ => exact Or.inl rfl
        | 4, _ => exact Or.inl rfl
        | 5, _ => exact Or.inl rfl
        | 6, _ => exact Or.inr rfl
        | i + 7, hi => exact absurd hi (by simp only [List.length_cons, List.length_nil]; omega)
      · replace h := h.2 c6
        refine WP_aload_n dX0_sayNamings_48 rfl rfl ⟨Nat.le_of_ble_eq_true rfl, Nat.le_of_ble_eq_true rfl⟩ ?_
        refine WP_getfield (ci := 0) (j := 5) (n := 16) (t := 2) (x := x0 + 5) dX0_sayNamings_49 f_X0_24 hx0 rfl rfl ?_
        refine WP_iload dX0_sayNamings_52 rfl ?_
        refine WP_iconst dX0_sayNamings_54 (by decide) ?_
        obtain ⟨g11, h⟩ := h
        refine WQ_iast (n := 10) dX0_sayNamings_55 (kf_0_5 hx0) g11 (fun μ12 eμ12 => ?_)
        replace h := h μ12 eμ12
        refine WP_aload_n dX0_sayNamings_56 rfl rfl ⟨Nat.le_of_ble_eq_true rfl, Nat.le_of_ble_eq_true rfl⟩ ?_
        refine WP_iload dX0_sayNamings_57 rfl ?_
        refine WP_bipush dX0_sayNamings_59 (by decide +kernel) (by decide) ?_
        obtain ⟨g13, h⟩ := h
        refine WP_imul dX0_sayNamings_61 g13 ?_
        refine WP_aload_n dX0_sayNamings_62 rfl rfl ⟨Nat.le_of_ble_eq_true rfl, Nat.le_of_ble_eq_true rfl⟩ ?_
        refine WP_getfield (ci := 0) (j := 7) (n := 16) (t := 2) (x := μ12 x0 7) dX0_sayNamings_63 f_X0_45 hx0 rfl rfl ?_
        obtain ⟨g14, h⟩ := h
        refine WP_getfield (ci := 6) (j := 2) (n := 7) (t := 2) (x := μ12 x0 7 + 2) dX0_sayNamings_66 f_X0_95 g14 rfl rfl ?_
        refine WP_iload dX0_sayNamings_69 rfl ?_
        obtain ⟨g15, h⟩ := h
        refine WP_iaload (n := 10) dX0_sayNamings_71 (kf_6_2 g14) g15 ?_
        obtain ⟨g16, h⟩ := h
        refine WP_iadd dX0_sayNamings_72 g16 ?_
        refine WP_iload_n dX0_sayNamings_73 rfl rfl ?_
        refine WQ_invVv (v := (2, x0)) (as := [(0, (v5 * 6) + (μ12 (μ12 x0 7 + 2) x4)), (0, x1)]) dX0_sayNamings_74 l_X0_98 mw_X0_say mi_X0_say ms_X0_say mo_X0_say (rcv (ci := 0) (n := 16) (r := (RX0, TX0, 16)) hx0 rfl rfl) (Nat.le_of_ble_eq_true rfl) h rfl (fun μ18 h => ?_)
        refine WP_iload dX0_sayNamings_77 rfl ?_
        refine WP_iload_n dX0_sayNamings_79 rfl rfl ?_
        refine WQ_icmp_ne (tgt := 88) dX0_sayNamings_80 (by decide) (fun c19 => ?_) (fun c19 => ?_)
        · replace h := h.1 c19
          refine WP_aload_n dX0_sayNamings_88 rfl rfl ⟨Nat.le_of_ble_eq_true rfl, Nat.le_of_ble_eq_true rfl⟩ ?_
          refine WP_getfield (ci := 0) (j := 10) (n := 16) (t := 2) (x := x0 + 7) dX0_sayNamings_89 f_X0_30 hx0 rfl rfl ?_
          refine WP_iload dX0_sayNamings_92 rfl ?_
          obtain ⟨g20, h⟩ := h
          refine WP_iaload (n := 10) dX0_sayNamings_94 (kf_0_10 hx0) g20 ?_
          refine WQ_nm0 (fun v21 e21 => ?_)
          replace h := h v21 e21
          refine WP_istore (L' := [(2, x0), (0, x1), (0, x2), (0, x3), (0, v21), (0, x5), (0, v5)]) dX0_sayNamings_95 (by decide) rfl ?_
          obtain ⟨g22, h⟩ := h
          refine WQ_iinc dX0_sayNamings_97 rfl (by decide) g22 (fun v23 e23 => ?_)
          refine WP_same (L' := [(2, x0), (0, x1), (0, x2), (0, x3), (0, v21), (0, v23), (0, v5)]) rfl ?_
          replace h := h v23 e23
          refine WP_goto (tgt := 17) dX0_sayNamings_100 (by decide) ?_
          refine WP_lforget (L' := [(2, x0), (0, x1), (0, x2), (0, x3), (0, v21), (0, v23), (9, 0)]) rfl (fun i hi => ?_) h
          match i, hi with
          | 0, _ => exact Or.inl rfl
          | 1, _ => exact Or.inl rfl
          | 2, _ => exact Or.inl rfl
          | 3, _ => exact Or.inl rfl
          | 4, _ => exact Or.inl rfl
          | 5, _ => exact Or.inl rfl
          | 6, _ => exact Or.inr rfl
          | i + 7, hi => exact absurd hi (by simp only [List.length_cons, List.length_nil]; omega)
        · replace h := h.2 c19
          refine WP_aload_n dX0_sayNamings_83 rfl rfl ⟨Nat.le_of_ble_eq_true rfl, Nat.le_of_ble_eq_true rfl⟩ ?_
          refine WP_iload_n dX0_sayNamings_84 rfl rfl ?_
          refine WQ_put (ci := 0) (j := 6) (n := 16) dX0_sayNamings_85 f_X0_68 hx0 rfl (fun μ24 eμ24 => ?_)
          replace h := h μ24 eμ24
          refine WP_aload_n dX0_sayNamings_88 rfl rfl ⟨Nat.le_of_ble_eq_true rfl, Nat.le_of_ble_eq_true rfl⟩ ?_
          refine WP_getfield (ci := 0) (j := 10) (n := 16) (t := 2) (x := x0 + 7) dX0_sayNamings_89 f_X0_30 hx0 rfl rfl ?_
          refine WP_iload dX0_sayNamings_92 rfl ?_
          obtain ⟨g25, h⟩ := h
          refine WP_iaload (n := 10) dX0_sayNamings_94 (kf_0_10 hx0) g25 ?_
          refine WQ_nm0 (fun v26 e26 => ?_)
          replace h := h v26 e26
          refine WP_istore (L' := [(2, x0), (0, x1), (0, x2), (0, x3), (0, v26), (0, x5), (0, v5)]) dX0_sayNamings_95 (by decide) rfl ?_
          obtain ⟨g27, h⟩ := h
          refine WQ_iinc dX0_sayNamings_97 rfl (by decide) g27 (fun v28 e28 => ?_)
          refine WP_same (L' := [(2, x0), (0, x1), (0, x2), (0, x3), (0, v26), (0, v28), (0, v5)]) rfl ?_
          replace h := h v28 e28
          refine WP_goto (tgt := 17) dX0_sayNamings_100 (by decide) ?_
          refine WP_lforget (L' := [(2, x0), (0, x1), (0, x2), (0, x3), (0, v26), (0, v28), (9, 0)]) rfl (fun i hi => ?_) h
          match i, hi with
          | 0, _ => exact Or.inl rfl
          | 1, _ => exact Or.inl rfl
          | 2, _ => exact Or.inl rfl
          | 3, _ => exact Or.inl rfl
          | 4, _ => exact Or.inl rfl
          | 5, _ => exact Or.inl rfl
          | 6, _ => exact Or.inr rfl
          | i + 7, hi => exact absurd hi (by simp only [List.length_cons, List.length_nil]; omega)

theorem s_X1_cells_0 {d : Nat} {sc : SC} {Q : Int → Mem → Prop} {μ : Mem} {a0 : Int} (ha0 : isK 1 a0)
    (h : (-2147483648 ≤ (μ a0 0) * (μ a0 1) ∧ (μ a0 0) * (μ a0 1) < 2147483648) ∧ Q ((μ a0 0) * (μ a0 1)) μ) :
    WQ mX1_cells d sc (ZI sc Q) 0 [(2, a0)] [] μ := by
  refine WP_aload_n dX1_cells_0 rfl rfl ⟨Nat.le_of_ble_eq_true rfl, Nat.le_of_ble_eq_true rfl⟩ ?_
  refine WP_getfield (ci := 1) (j := 0) (n := 11) (t := 0) (x := μ a0 0) dX1_cells_1 f_X1_9 ha0 rfl rfl ?_
  refine WP_aload_n dX1_cells_4 rfl rfl ⟨Nat.le_of_ble_eq_true rfl, Nat.le_of_ble_eq_true rfl⟩ ?_
  refine WP_getfield (ci := 1) (j := 1) (n := 11) (t := 0) (x := μ a0 1) dX1_cells_5 f_X1_15 ha0 rfl rfl ?_
  obtain ⟨g1, h⟩ := h
  refine WP_imul dX1_cells_8 g1 ?_
  exact WQ_ireturn dX1_cells_9 rfl h

theorem s_X1_clear_0 {d : Nat} {sc : SC} {Q : Mem → Prop} {μ : Mem} {a0 : Int} (ha0 : isK 1 a0)
    (h : ∀ μ1, μ1 = mup μ a0 0 1 → ∀ μ2, μ2 = mup μ1 a0 1 1 → ∀ μ3, μ3 = mup μ2 a0 2 0 → ∀ μ4, μ4 = mup μ3 a0 3 0 → CAv mJ7_fill_53178 d sc [(2, a0 + 5), (0, 0)] μ4 (fun μ6 => CAv mJ7_fill_53178 d sc [(2, a0 + 6), (0, 0)] μ6 (fun μ8 => ∀ μ9, μ9 = mup μ8 (a0 + 7) 0 0 → ∀ μ10, μ10 = mup μ9 (a0 + 7) 6 0 → Q μ10))) :
    WQ mX1_clear d sc (ZV sc Q) 0 [(2, a0)] [] μ := by
  refine WP_aload_n dX1_clear_0 rfl rfl ⟨Nat.le_of_ble_eq_true rfl, Nat.le_of_ble_eq_true rfl⟩ ?_
  refine WP_iconst dX1_clear_1 (by decide) ?_
  refine WQ_put (ci := 1) (j := 0) (n := 11) dX1_clear_2 f_X1_9 ha0 rfl (fun μ1 eμ1 => ?_)
  replace h := h μ1 eμ1
  refine WP_aload_n dX1_clear_5 rfl rfl ⟨Nat.le_of_ble_eq_true rfl, Nat.le_of_ble_eq_true rfl⟩ ?_
  refine WP_iconst dX1_clear_6 (by decide) ?_
  refine WQ_put (ci := 1) (j := 1) (n := 11) dX1_clear_7 f_X1_15 ha0 rfl (fun μ2 eμ2 => ?_)
  replace h := h μ2 eμ2
  refine WP_aload_n dX1_clear_10 rfl rfl ⟨Nat.le_of_ble_eq_true rfl, Nat.le_of_ble_eq_true rfl⟩ ?_
  refine WP_iconst dX1_clear_11 (by decide) ?_
  refine WQ_put (ci := 1) (j := 2) (n := 11) dX1_clear_12 f_X1_44 ha0 rfl (fun μ3 eμ3 => ?_)
  replace h := h μ3 eμ3
  refine WP_aload_n dX1_clear_15 rfl rfl ⟨Nat.le_of_ble_eq_true rfl, Nat.le_of_ble_eq_true rfl⟩ ?_
  refine WP_iconst dX1_clear_16 (by decide) ?_
  refine WQ_put (ci := 1) (j := 3) (n := 11) dX1_clear_17 f_X1_47 ha0 rfl (fun μ4 eμ4 => ?_)
  replace h := h μ4 eμ4
  refine WP_aload_n dX1_clear_20 rfl rfl ⟨Nat.le_of_ble_eq_true rfl, Nat.le_of_ble_eq_true rfl⟩ ?_
  refine WP_getfield (ci := 1) (j := 8) (n := 11) (t := 2) (x := a0 + 5) dX1_clear_21 f_X1_31 ha0 rfl rfl ?_
  refine WP_iconst dX1_clear_24 (by decide) ?_
  refine WQ_invSv (as := [(2, a0 + 5), (0, 0)]) dX1_clear_25 l_X1_50 mw_J7_fill_53178 mt_J7_fill_53178 mo_J7_fill_53178 (Nat.le_of_ble_eq_true rfl) h rfl (fun μ6 h => ?_)
  refine WP_aload_n dX1_clear_28 rfl rfl ⟨Nat.le_of_ble_eq_true rfl, Nat.le_of_ble_eq_true rfl⟩ ?_
  refine WP_getfield (ci := 1) (j := 9) (n := 11) (t := 2) (x := a0 + 6) dX1_clear_29 f_X1_34 ha0 rfl rfl ?_
  refine WP_iconst dX1_clear_32 (by decide) ?_
  refine WQ_invSv (as := [(2, a0 + 6), (0, 0)]) dX1_clear_33 l_X1_50 mw_J7_fill_53178 mt_J7_fill_53178 mo_J7_fill_53178 (Nat.le_of_ble_eq_true rfl) h rfl (fun μ8 h => ?_)
  refine WP_aload_n dX1_clear_36 rfl rfl ⟨Nat.le_of_ble_eq_true rfl, Nat.le_of_ble_eq_true rfl⟩ ?_
  refine WP_getfield (ci := 1) (j := 10) (n := 11) (t := 2) (x := a0 + 7) dX1_clear_37 f_X1_40 ha0 rfl rfl ?_
  refine WP_iconst dX1_clear_40 (by decide) ?_
  refine WQ_put (ci := 6) (j := 0) (n := 7) dX1_clear_41 f_X1_56 (kf_1_10 ha0) rfl (fun μ9 eμ9 => ?_)
  replace h := h μ9 eμ9
  refine WP_aload_n dX1_clear_44 rfl rfl ⟨Nat.le_of_ble_eq_true rfl, Nat.le_of_ble_eq_true rfl⟩ ?_
  refine WP_getfield (ci := 1) (j := 10) (n := 11) (t := 2) (x := a0 + 7) dX1_clear_45 f_X1_40 ha0 rfl rfl ?_
  refine WP_iconst dX1_clear_48 (by decide) ?_
  refine WQ_put (ci := 6) (j := 6) (n := 7) dX1_clear_49 f_X1_59 (kf_1_10 ha0) rfl (fun μ10 eμ10 => ?_)
  replace h := h μ10 eμ10
  exact WQ_return dX1_clear_52 rfl h

theorem s_X1_copyFrom_0 {d : Nat} {sc : SC} {Q : Mem → Prop} {μ : Mem} {a0 a1 : Int} (hd2 : 2 ≤ d) (ha0 : isK 1 a0) (ha1 : isK 1 a1)
    (h : ∀ μ1, μ1 = mup μ a0 0 (μ a1 0) → ∀ μ2, μ2 = mup μ1 a0 1 (μ1 a1 1) → ∀ μ3, μ3 = mup μ2 a0 2 (μ2 a1 2) → ∀ μ4, μ4 = mup μ3 a0 3 (μ3 a1 3) → ∀ μ6, μ6 = mcp μ4 (a1 + 1) (a0 + 1) 6 → ∀ μ8, μ8 = mcp μ6 (a1 + 2) (a0 + 2) 6 → ∀ μ10, μ10 = mcp μ8 (a1 + 3) (a0 + 3) 6 → ∀ μ12, μ12 = mcp μ10 (a1 + 4) (a0 + 4) 900 → ∀ μ14, μ14 = mcp μ12 (a1 + 5) (a0 + 5) 3 → ∀ μ16, μ16 = mcp μ14 (a1 + 6) (a0 + 6) 3 → CAv mX6_copyFrom d sc [(2, a0 + 7), (2, a1 + 7)] μ16 (fun μ18 => Q μ18)) :
    WQ mX1_copyFrom d sc (ZV sc Q) 0 [(2, a0), (2, a1)] [] μ := by
  refine WP_aload_n dX1_copyFrom_0 rfl rfl ⟨Nat.le_of_ble_eq_true rfl, Nat.le_of_ble_eq_true rfl⟩ ?_
  refine WP_aload_n dX1_copyFrom_1 rfl rfl ⟨Nat.le_of_ble_eq_true rfl, Nat.le_of_ble_eq_true rfl⟩ ?_
  refine WP_getfield (ci := 1) (j := 0) (n := 11) (t := 0) (x := μ a1 0) dX1_copyFrom_2 f_X1_9 ha1 rfl rfl ?_
  refine WQ_put (ci := 1) (j := 0) (n := 11) dX1_copyFrom_5 f_X1_9 ha0 rfl (fun μ1 eμ1 => ?_)
  replace h := h μ1 eμ1
  refine WP_aload_n dX1_copyFrom_8 rfl rfl ⟨Nat.le_of_ble_eq_true rfl, Nat.le_of_ble_eq_true rfl⟩ ?_
  refine WP_aload_n dX1_copyFrom_9 rfl rfl ⟨Nat.le_of_ble_eq_true rfl, Nat.le_of_ble_eq_true rfl⟩ ?_
  refine WP_getfield (ci := 1) (j := 1) (n := 11) (t := 0) (x := μ1 a1 1) dX1_copyFrom_10 f_X1_15 ha1 rfl rfl ?_
  refine WQ_put (ci := 1) (j := 1) (n := 11) dX1_copyFrom_13 f_X1_15 ha0 rfl (fun μ2 eμ2 => ?_)
  replace h := h μ2 eμ2
  refine WP_aload_n dX1_copyFrom_16 rfl rfl ⟨Nat.le_of_ble_eq_true rfl, Nat.le_of_ble_eq_true rfl⟩ ?_
  refine WP_aload_n dX1_copyFrom_17 rfl rfl ⟨Nat.le_of_ble_eq_true rfl, Nat.le_of_ble_eq_true rfl⟩ ?_
  refine WP_getfield (ci := 1) (j := 2) (n := 11) (t := 0) (x := μ2 a1 2) dX1_copyFrom_18 f_X1_44 ha1 rfl rfl ?_
  refine WQ_put (ci := 1) (j := 2) (n := 11) dX1_copyFrom_21 f_X1_44 ha0 rfl (fun μ3 eμ3 => ?_)
  replace h := h μ3 eμ3
  refine WP_aload_n dX1_copyFrom_24 rfl rfl ⟨Nat.le_of_ble_eq_true rfl, Nat.le_of_ble_eq_true rfl⟩ ?_
  refine WP_aload_n dX1_copyFrom_25 rfl rfl ⟨Nat.le_of_ble_eq_true rfl, Nat.le_of_ble_eq_true rfl⟩ ?_
  refine WP_getfield (ci := 1) (j := 3) (n := 11) (t := 0) (x := μ3 a1 3) dX1_copyFrom_26 f_X1_47 ha1 rfl rfl ?_
  refine WQ_put (ci := 1) (j := 3) (n := 11) dX1_copyFrom_29 f_X1_47 ha0 rfl (fun μ4 eμ4 => ?_)
  replace h := h μ4 eμ4
  refine WP_aload_n dX1_copyFrom_32 rfl rfl ⟨Nat.le_of_ble_eq_true rfl, Nat.le_of_ble_eq_true rfl⟩ ?_
  refine WP_getfield (ci := 1) (j := 4) (n := 11) (t := 2) (x := a1 + 1) dX1_copyFrom_33 f_X1_18 ha1 rfl rfl ?_
  refine WP_iconst dX1_copyFrom_36 (by decide) ?_
  refine WP_aload_n dX1_copyFrom_37 rfl rfl ⟨Nat.le_of_ble_eq_true rfl, Nat.le_of_ble_eq_true rfl⟩ ?_
  refine WP_getfield (ci := 1) (j := 4) (n := 11) (t := 2) (x := a0 + 1) dX1_copyFrom_38 f_X1_18 ha0 rfl rfl ?_
  refine WP_iconst dX1_copyFrom_41 (by decide) ?_
  refine WP_bipush dX1_copyFrom_42 (by decide +kernel) (by decide) ?_
  refine WQ_cpy (n0 := 6) (n1 := 6) hd2 dX1_copyFrom_44 l_X1_62 (kf_1_4 ha1) (kf_1_4 ha0) ⟨by decide, by decide, by decide⟩ (fun μ6 eμ6 => ?_)
  replace h := h μ6 eμ6
  refine WP_aload_n dX1_copyFrom_47 rfl rfl ⟨Nat.le_of_ble_eq_true rfl, Nat.le_of_ble_eq_true rfl⟩ ?_
  refine WP_getfield (ci := 1) (j := 5) (n := 11) (t := 2) (x := a1 + 2) dX1_copyFrom_48 f_X1_22 ha1 rfl rfl ?_
  refine WP_iconst dX1_copyFrom_51 (by decide) ?_
  refine WP_aload_n dX1_copyFrom_52 rfl rfl ⟨Nat.le_of_ble_eq_true rfl, Nat.le_of_ble_eq_true rfl⟩ ?_
  refine WP_getfield (ci := 1) (j := 5) (n := 11) (t := 2) (x := a0 + 2) dX1_copyFrom_53 f_X1_22 ha0 rfl rfl ?_
  refine WP_iconst dX1_copyFrom_56 (by decide) ?_
  refine WP_bipush dX1_copyFrom_57 (by decide +kernel) (by decide) ?_
  refine WQ_cpy (n0 := 6) (n1 := 6) hd2 dX1_copyFrom_59 l_X1_62 (kf_1_5 ha1) (kf_1_5 ha0) ⟨by decide, by decide, by decide⟩ (fun μ8 eμ8 => ?_)
  replace h := h μ8 eμ8
  refine WP_aload_n dX1_copyFrom_62 rfl rfl ⟨Nat.le_of_ble_eq_true rfl, Nat.le_of_ble_eq_true rfl⟩ ?_
  refine WP_getfield (ci := 1) (j := 6) (n := 11) (t := 2) (x := a1 + 3) dX1_copyFrom_63 f_X1_25 ha1 rfl rfl ?_
  refine WP_iconst dX1_copyFrom_66 (by decide) ?_
  refine WP_aload_n dX1_copyFrom_67 rfl rfl ⟨Nat.le_of_ble_eq_true rfl, Nat.le_of_ble_eq_true rfl⟩ ?_
  refine WP_getfield (ci := 1) (j := 6) (n := 11) (t := 2) (x := a0 + 3) dX1_copyFrom_68 f_X1_25 ha0 rfl rfl ?_
  refine WP_iconst dX1_copyFrom_71 (by decide) ?_
  refine WP_bipush dX1_copyFrom_72 (by decide +kernel) (by decide) ?_
  refine WQ_cpy (n0 := 6) (n1 := 6) hd2 dX1_copyFrom_74 l_X1_62 (kf_1_6 ha1) (kf_1_6 ha0) ⟨by decide, by decide, by decide⟩ (fun μ10 eμ10 => ?_)
  replace h := h μ10 eμ10
  refine WP_aload_n dX1_copyFrom_77 rfl rfl ⟨Nat.le_of_ble_eq_true rfl, Nat.le_of_ble_eq_true rfl⟩ ?_
  refine WP_getfield (ci := 1) (j := 7) (n := 11) (t := 2) (x := a1 + 4) dX1_copyFrom_78 f_X1_28 ha1 rfl rfl ?_
  refine WP_iconst dX1_copyFrom_81 (by decide) ?_
  refine WP_aload_n dX1_copyFrom_82 rfl rfl ⟨Nat.le_of_ble_eq_true rfl, Nat.le_of_ble_eq_true rfl⟩ ?_
  refine WP_getfield (ci := 1) (j := 7) (n := 11) (t := 2) (x := a0 + 4) dX1_copyFrom_83 f_X1_28 ha0 rfl rfl ?_
  refine WP_iconst dX1_copyFrom_86 (by decide) ?_
  refine WP_sipush dX1_copyFrom_87 (by decide +kernel) (by decide) ?_
  refine WQ_cpy (n0 := 900) (n1 := 900) hd2 dX1_copyFrom_90 l_X1_62 (kf_1_7 ha1) (kf_1_7 ha0) ⟨by decide, by decide, by decide⟩ (fun μ12 eμ12 => ?_)
  replace h := h μ12 eμ12
  refine WP_aload_n dX1_copyFrom_93 rfl rfl ⟨Nat.le_of_ble_eq_true rfl, Nat.le_of_ble_eq_true rfl⟩ ?_
  refine WP_getfield (ci := 1) (j := 8) (n := 11) (t := 2) (x := a1 + 5) dX1_copyFrom_94 f_X1_31 ha1 rfl rfl ?_
  refine WP_iconst dX1_copyFrom_97 (by decide) ?_
  refine WP_aload_n dX1_copyFrom_98 rfl rfl ⟨Nat.le_of_ble_eq_true rfl, Nat.le_of_ble_eq_true rfl⟩ ?_
  refine WP_getfield (ci := 1) (j := 8) (n := 11) (t := 2) (x := a0 + 5) dX1_copyFrom_99 f_X1_31 ha0 rfl rfl ?_
  refine WP_iconst dX1_copyFrom_102 (by decide) ?_
  refine WP_iconst dX1_copyFrom_103 (by decide) ?_
  refine WQ_cpy (n0 := 3) (n1 := 3) hd2 dX1_copyFrom_104 l_X1_62 (kf_1_8 ha1) (kf_1_8 ha0) ⟨by decide, by decide, by decide⟩ (fun μ14 eμ14 => ?_)
  replace h := h μ14 eμ14
  refine WP_aload_n dX1_copyFrom_107 rfl rfl ⟨Nat.le_of_ble_eq_true rfl, Nat.le_of_ble_eq_true rfl⟩ ?_
  refine WP_getfield (ci := 1) (j := 9) (n := 11) (t := 2) (x := a1 + 6) dX1_copyFrom_108 f_X1_34 ha1 rfl rfl ?_
  refine WP_iconst dX1_copyFrom_111 (by decide) ?_
  refine WP_aload_n dX1_copyFrom_112 rfl rfl ⟨Nat.le_of_ble_eq_true rfl, Nat.le_of_ble_eq_true rfl⟩ ?_
  refine WP_getfield (ci := 1) (j := 9) (n := 11) (t := 2) (x := a0 + 6) dX1_copyFrom_113 f_X1_34 ha0 rfl rfl ?_
  refine WP_iconst dX1_copyFrom_116 (by decide) ?_
  refine WP_iconst dX1_copyFrom_117 (by decide) ?_
  refine WQ_cpy (n0 := 3) (n1 := 3) hd2 dX1_copyFrom_118 l_X1_62 (kf_1_9 ha1) (kf_1_9 ha0) ⟨by decide, by decide, by decide⟩ (fun μ16 eμ16 => ?_)
  replace h := h μ16 eμ16
  refine WP_aload_n dX1_copyFrom_121 rfl rfl ⟨Nat.le_of_ble_eq_true rfl, Nat.le_of_ble_eq_true rfl⟩ ?_
  refine WP_getfield (ci := 1) (j := 10) (n := 11) (t := 2) (x := a0 + 7) dX1_copyFrom_122 f_X1_40 ha0 rfl rfl ?_
  refine WP_aload_n dX1_copyFrom_125 rfl rfl ⟨Nat.le_of_ble_eq_true rfl, Nat.le_of_ble_eq_true rfl⟩ ?_
  refine WP_getfield (ci := 1) (j := 10) (n := 11) (t := 2) (x := a1 + 7) dX1_copyFrom_126 f_X1_40 ha1 rfl rfl ?_
  refine WQ_invVv (v := (2, a0 + 7)) (as := [(2, a1 + 7)]) dX1_copyFrom_129 l_X1_68 mw_X6_copyFrom mi_X6_copyFrom ms_X6_copyFrom mo_X6_copyFrom (rcv (ci := 6) (n := 7) (r := (RX6, TX6, 7)) (kf_1_10 ha0) rfl rfl) (Nat.le_of_ble_eq_true rfl) h rfl (fun μ18 h => ?_)
  exact WQ_return dX1_copyFrom_132 rfl h

theorem s_X1_hasLaw_0 {d : Nat} {sc : SC} {Q : Int → Mem → Prop} {μ : Mem} {a0 a1 : Int} (ha0 : isK 1 a0)
    (h : (0 ≤ a1 ∧ a1 < 3) ∧ (0 ≤ a1 ∧ a1 < 3) ∧ (μ (a0 + 6) a1 ≤ μ (a0 + 5) a1 → Q 0 μ) ∧ (μ (a0 + 5) a1 < μ (a0 + 6) a1 → Q 1 μ)) :
    WQ mX1_hasLaw d sc (ZI sc Q) 0 [(2, a0), (0, a1)] [] μ := by
  refine WP_aload_n dX1_hasLaw_0 rfl rfl ⟨Nat.le_of_ble_eq_true rfl, Nat.le_of_ble_eq_true rfl⟩ ?_
  refine WP_getfield (ci := 1) (j := 9) (n := 11) (t := 2) (x := a0 + 6) dX1_hasLaw_1 f_X1_34 ha0 rfl rfl ?_
  refine WP_iload_n dX1_hasLaw_4 rfl rfl ?_
  obtain ⟨g1, h⟩ := h
  refine WP_iaload (n := 3) dX1_hasLaw_5 (kf_1_9 ha0) g1 ?_
  refine WP_aload_n dX1_hasLaw_6 rfl rfl ⟨Nat.le_of_ble_eq_true rfl, Nat.le_of_ble_eq_true rfl⟩ ?_
  refine WP_getfield (ci := 1) (j := 8) (n := 11) (t := 2) (x := a0 + 5) dX1_hasLaw_7 f_X1_31 ha0 rfl rfl ?_
  refine WP_iload_n dX1_hasLaw_10 rfl rfl ?_
  obtain ⟨g2, h⟩ := h
  refine WP_iaload (n := 3) dX1_hasLaw_11 (kf_1_8 ha0) g2 ?_
  refine WQ_icmp_le (tgt := 19) dX1_hasLaw_12 (by decide) (fun c3 => ?_) (fun c3 => ?_)
  · replace h := h.1 c3
    refine WP_iconst dX1_hasLaw_19 (by decide) ?_
    exact WQ_zreturn dX1_hasLaw_20 rfl ⟨by decide, by decide⟩ h
  · replace h := h.2 c3
    refine WP_iconst dX1_hasLaw_15 (by decide) ?_
    refine WP_goto (tgt := 20) dX1_hasLaw_16 (by decide) ?_
    exact WQ_zreturn dX1_hasLaw_20 rfl ⟨by decide, by decide⟩ h

theorem s_X2_code_0 {d : Nat} {sc : SC} {Q : Int → Mem → Prop} {μ : Mem} {a0 : Int}
    (h : 0 ≤ a0 ∧ (-2147483648 ≤ (a0 / 6) * 100 ∧ (a0 / 6) * 100 < 2147483648) ∧ 0 ≤ a0 ∧ (-2147483648 ≤ ((a0 / 6) * 100) + (a0 % 6) ∧ ((a0 / 6) * 100) + (a0 % 6) < 2147483648) ∧ Q (((a0 / 6) * 100) + (a0 % 6)) μ) :
    WQ mX2_code d sc (ZI sc Q) 0 [(0, a0)] [] μ := by
  refine WP_iload_n dX2_code_0 rfl rfl ?_
  refine WP_bipush dX2_code_1 (by decide +kernel) (by decide) ?_
  obtain ⟨g1, h⟩ := h
  refine WP_idiv dX2_code_3 ⟨g1, by decide⟩ ?_
  refine WP_bipush dX2_code_4 (by decide +kernel) (by decide) ?_
  obtain ⟨g2, h⟩ := h
  refine WP_imul dX2_code_6 g2 ?_
  refine WP_iload_n dX2_code_7 rfl rfl ?_
  refine WP_bipush dX2_code_8 (by decide +kernel) (by decide) ?_
  obtain ⟨g3, h⟩ := h
  refine WP_irem dX2_code_10 ⟨g3, by decide⟩ ?_
  obtain ⟨g4, h⟩ := h
  refine WP_iadd dX2_code_11 g4 ?_
  exact WQ_ireturn dX2_code_12 rfl h

theorem s_X2_inTime_0 {d : Nat} {sc : SC} {Q : Int → Mem → Prop} {μ : Mem} (hd2 : 2 ≤ d)
    (h : isK 0 (μ 120 6) ∧ (-2147483648 ≤ (min (μ (μ 120 6) 6) 20) * 6 ∧ (min (μ (μ 120 6) 6) 20) * 6 < 2147483648) ∧ Q ((min (μ (μ 120 6) 6) 20) * 6) μ) :
    WQ mX2_inTime d sc (ZI sc Q) 0 [(2, 120)] [] μ := by
  refine WP_aload_n dX2_inTime_0 rfl rfl ⟨Nat.le_of_ble_eq_true rfl, Nat.le_of_ble_eq_true rfl⟩ ?_
  refine WP_getfield (ci := 2) (j := 6) (n := 11) (t := 2) (x := μ 120 6) dX2_inTime_1 f_X2_29 k_120 rfl rfl ?_
  obtain ⟨g1, h⟩ := h
  refine WP_getfield (ci := 0) (j := 6) (n := 16) (t := 0) (x := μ (μ 120 6) 6) dX2_inTime_4 f_X2_86 g1 rfl rfl ?_
  refine WP_bipush dX2_inTime_7 (by decide +kernel) (by decide) ?_
  refine WQ_mmin (by omega) dX2_inTime_9 l_X2_89 (Nat.le_of_ble_eq_true rfl) ?_
  refine WP_bipush dX2_inTime_12 (by decide +kernel) (by decide) ?_
  obtain ⟨g2, h⟩ := h
  refine WP_imul dX2_inTime_14 g2 ?_
  exact WQ_ireturn dX2_inTime_15 rfl h

theorem s_X2_isNaming_0 {d : Nat} {sc : SC} {Q : Int → Mem → Prop} {μ : Mem} {a1 : Int}
    (h : 0 ≤ a1 ∧ (∀ v2 : Int, v2 = a1 % 6 → (μ 120 7 ≤ v2 → Q 0 μ) ∧ (v2 < μ 120 7 → (v2 = μ 120 0 → Q 0 μ) ∧ (v2 ≠ μ 120 0 → Q 1 μ)))) :
    WQ mX2_isNaming d sc (ZI sc Q) 0 [(2, 120), (0, a1), (9, 0)] [] μ := by
  refine WP_iload_n dX2_isNaming_0 rfl rfl ?_
  refine WP_bipush dX2_isNaming_1 (by decide +kernel) (by decide) ?_
  obtain ⟨g1, h⟩ := h
  refine WP_irem dX2_isNaming_3 ⟨g1, by decide⟩ ?_
  refine WQ_nm0 (fun v2 e2 => ?_)
  replace h := h v2 e2
  refine WP_istore_n (L' := [(2, 120), (0, a1), (0, v2)]) dX2_isNaming_4 rfl (by decide) rfl ?_
  refine WP_iload_n dX2_isNaming_5 rfl rfl ?_
  refine WP_aload_n dX2_isNaming_6 rfl rfl ⟨Nat.le_of_ble_eq_true rfl, Nat.le_of_ble_eq_true rfl⟩ ?_
  refine WP_getfield (ci := 2) (j := 7) (n := 11) (t := 0) (x := μ 120 7) dX2_isNaming_7 f_X2_20 k_120 rfl rfl ?_
  refine WQ_icmp_ge (tgt := 25) dX2_isNaming_10 (by decide) (fun c3 => ?_) (fun c3 => ?_)
  · replace h := h.1 c3
    refine WP_iconst dX2_isNaming_25 (by decide) ?_
    exact WQ_zreturn dX2_isNaming_26 rfl ⟨by decide, by decide⟩ h
  · replace h := h.2 c3
    refine WP_iload_n dX2_isNaming_13 rfl rfl ?_
    refine WP_aload_n dX2_isNaming_14 rfl rfl ⟨Nat.le_of_ble_eq_true rfl, Nat.le_of_ble_eq_true rfl⟩ ?_
    refine WP_getfield (ci := 2) (j := 0) (n := 11) (t := 0) (x := μ 120 0) dX2_isNaming_15 f_X2_9 k_120 rfl rfl ?_
    refine WQ_icmp_eq (tgt := 25) dX2_isNaming_18 (by decide) (fun c4 => ?_) (fun c4 => ?_)
    · replace h := h.1 c4
      refine WP_iconst dX2_isNaming_25 (by decide) ?_
      exact WQ_zreturn dX2_isNaming_26 rfl ⟨by decide, by decide⟩ h
    · replace h := h.2 c4
      refine WP_iconst dX2_isNaming_21 (by decide) ?_
      refine WP_goto (tgt := 26) dX2_isNaming_22 (by decide) ?_
      exact WQ_zreturn dX2_isNaming_26 rfl ⟨by decide, by decide⟩ h

theorem s_X2_seekOne_0 {d : Nat} {sc : SC} {Q : Mem → Prop} {μ : Mem}
    (h : WQ mX2_seekOne d sc (ZV sc Q) 2 [(2, 120), (0, 0)] [] μ) :
    WQ mX2_seekOne d sc (ZV sc Q) 0 [(2, 120), (9, 0)] [] μ := by
  refine WP_iconst dX2_seekOne_0 (by decide) ?_
  refine WP_istore_n (L' := [(2, 120), (0, 0)]) dX2_seekOne_1 rfl (by decide) rfl ?_
  exact h

theorem s_X2_seekOne_2 {d : Nat} {sc : SC} {Q : Mem → Prop} {μ : Mem} {x1 : Int}
    (h : (μ 120 10 ≤ x1 → Q μ) ∧ (x1 < μ 120 10 → (μ 120 1 ≠ (-1) → Q μ) ∧ (μ 120 1 = (-1) → CAi mX2_isNaming d sc [(2, 120), (0, x1)] μ (fun r3 μ4 => (r3 = 0 → (-2147483648 ≤ x1 + 1 ∧ x1 + 1 < 2147483648) ∧ ∀ v7 : Int, v7 = x1 + 1 → WQ mX2_seekOne d sc (ZV sc Q) 2 [(2, 120), (0, v7)] [] μ4) ∧ (r3 ≠ 0 → isK 6 (μ4 120 5) ∧ (∀ μ9, μ9 = mup μ4 (μ4 120 5) 0 (μ4 120 8) → CAv mX2_tellToo d sc [(2, 120), (0, x1)] μ9 (fun μ11 => isK 0 (μ11 120 6) ∧ CAi mX0_run d sc [(2, μ11 120 6), (2, μ11 120 5), (2, μ11 120 4), (0, μ11 120 9), (0, μ11 120 0)] μ11 (fun r13 μ14 => (r13 = 0 → (-2147483648 ≤ x1 + 1 ∧ x1 + 1 < 2147483648) ∧ ∀ v17 : Int, v17 = x1 + 1 → WQ mX2_seekOne d sc (ZV sc Q) 2 [(2, 120), (0, v17)] [] μ14) ∧ (r13 ≠ 0 → ∀ μ18, μ18 = mup μ14 120 1 1 → CAi mX2_code d sc [(0, x1)] μ18 (fun r19 μ20 => ∀ μ21, μ21 = mup μ20 120 2 r19 → (-2147483648 ≤ x1 + 1 ∧ x1 + 1 < 2147483648) ∧ ∀ v23 : Int, v23 = x1 + 1 → WQ mX2_seekOne d sc (ZV sc Q) 2 [(2, 120), (0, v23)] [] μ21)))))))))) :
    WQ mX2_seekOne d sc (ZV sc Q) 2 [(2, 120), (0, x1)] [] μ := by
  refine WP_iload_n dX2_seekOne_2 rfl rfl ?_
  refine WP_aload_n dX2_seekOne_3 rfl rfl ⟨Nat.le_of_ble_eq_true rfl, Nat.le_of_ble_eq_true rfl⟩ ?_
  refine WP_getfield (ci := 2) (j := 10) (n := 11) (t := 0) (x := μ 120 10) dX2_seekOne_4 f_X2_83 k_120 rfl rfl ?_
  refine WQ_icmp_ge (tgt := 87) dX2_seekOne_7 (by decide) (fun c1 => ?_) (fun c1 => ?_)
  · replace h := h.1 c1
    exact WQ_return dX2_seekOne_87 rfl h
  · replace h := h.2 c1
    refine WP_aload_n dX2_seekOne_10 rfl rfl ⟨Nat.le_of_ble_eq_true rfl, Nat.le_of_ble_eq_true rfl⟩ ?_
    refine WP_getfield (ci := 2) (j := 1) (n := 11) (t := 0) (x := μ 120 1) dX2_seekOne_11 f_X2_76 k_120 rfl rfl ?_
    refine WP_iconst dX2_seekOne_14 (by decide) ?_
    refine WQ_icmp_ne (tgt := 87) dX2_seekOne_15 (by decide) (fun c2 => ?_) (fun c2 => ?_)
    · replace h := h.1 c2
      exact WQ_return dX2_seekOne_87 rfl h
    · replace h := h.2 c2
      refine WP_aload_n dX2_seekOne_18 rfl rfl ⟨Nat.le_of_ble_eq_true rfl, Nat.le_of_ble_eq_true rfl⟩ ?_
      refine WP_iload_n dX2_seekOne_19 rfl rfl ?_
      refine WQ_invVi (v := (2, 120)) (as := [(0, x1)]) dX2_seekOne_20 l_X2_92 mw_X2_isNaming mi_X2_isNaming ms_X2_isNaming mo_X2_isNaming (rcv (ci := 2) (n := 11) (r := (RX2, TX2, 11)) k_120 rfl rfl) (Nat.le_of_ble_eq_true rfl) h rfl (fun r3 μ4 h => ?_)
      refine WQ_ifeq (tgt := 81) dX2_seekOne_23 (by decide) (fun c5 => ?_) (fun c5 => ?_)
      · replace h := h.1 c5
        obtain ⟨g6, h⟩ := h
        refine WQ_iinc dX2_seekOne_81 rfl (by decide) g6 (fun v7 e7 => ?_)
        refine WP_same (L' := [(2, 120), (0, v7)]) rfl ?_
        replace h := h v7 e7
        refine WP_goto (tgt := 2) dX2_seekOne_84 (by decide) ?_
        exact h
      · replace h := h.2 c5
        refine WP_aload_n dX2_seekOne_26 rfl rfl ⟨Nat.le_of_ble_eq_true rfl, Nat.le_of_ble_eq_true rfl⟩ ?_
        refine WP_getfield (ci := 2) (j := 5) (n := 11) (t := 2) (x := μ4 120 5) dX2_seekOne_27 f_X2_25 k_120 rfl rfl ?_
        refine WP_aload_n dX2_seekOne_30 rfl rfl ⟨Nat.le_of_ble_eq_true rfl, Nat.le_of_ble_eq_true rfl⟩ ?_
        refine WP_getfield (ci := 2) (j := 8) (n := 11) (t := 0) (x := μ4 120 8) dX2_seekOne_31 f_X2_45 k_120 rfl rfl ?_
        obtain ⟨g8, h⟩ := h
        refine WQ_put (ci := 6) (j := 0) (n := 7) dX2_seekOne_34 f_X2_42 g8 rfl (fun μ9 eμ9 => ?_)
        replace h := h μ9 eμ9
        refine WP_aload_n dX2_seekOne_37 rfl rfl ⟨Nat.le_of_ble_eq_true rfl, Nat.le_of_ble_eq_true rfl⟩ ?_
        refine WP_iload_n dX2_seekOne_38 rfl rfl ?_
        refine WQ_invVv (v := (2, 120)) (as := [(0, x1)]) dX2_seekOne_39 l_X2_96 mw_X2_tellToo mi_X2_tellToo ms_X2_tellToo mo_X2_tellToo (rcv (ci := 2) (n := 11) (r := (RX2, TX2, 11)) k_120 rfl rfl) (Nat.le_of_ble_eq_true rfl) h rfl (fun μ11 h => ?_)
        refine WP_aload_n dX2_seekOne_42 rfl rfl ⟨Nat.le_of_ble_eq_true rfl, Nat.le_of_ble_eq_true rfl⟩ ?_
        refine WP_getfield (ci := 2) (j := 6) (n := 11) (t := 2) (x := μ11 120 6) dX2_seekOne_43 f_X2_29 k_120 rfl rfl ?_
        refine WP_aload_n dX2_seekOne_46 rfl rfl ⟨Nat.le_of_ble_eq_true rfl, Nat.le_of_ble_eq_true rfl⟩ ?_
        refine WP_getfield (ci := 2) (j := 5) (n := 11) (t := 2) (x := μ11 120 5) dX2_seekOne_47 f_X2_25 k_120 rfl rfl ?_
        refine WP_aload_n dX2_seekOne_50 rfl rfl ⟨Nat.le_of_ble_eq_true rfl, Nat.le_of_ble_eq_true rfl⟩ ?_
        refine WP_getfield (ci := 2) (j := 4) (n := 11) (t := 2) (x := μ11 120 4) dX2_seekOne_51 f_X2_21 k_120 rfl rfl ?_
        refine WP_aload_n dX2_seekOne_54 rfl rfl ⟨Nat.le_of_ble_eq_true rfl, Nat.le_of_ble_eq_true rfl⟩ ?_
        refine WP_getfield (ci := 2) (j := 9) (n := 11) (t := 0) (x := μ11 120 9) dX2_seekOne_55 f_X2_48 k_120 rfl rfl ?_
        refine WP_aload_n dX2_seekOne_58 rfl rfl ⟨Nat.le_of_ble_eq_true rfl, Nat.le_of_ble_eq_true rfl⟩ ?_
        refine WP_getfield (ci := 2) (j := 0) (n := 11) (t := 0) (x := μ11 120 0) dX2_seekOne_59 f_X2_9 k_120 rfl rfl ?_
        obtain ⟨g12, h⟩ := h
        refine WQ_invVi (v := (2, μ11 120 6)) (as := [(2, μ11 120 5), (2, μ11 120 4), (0, μ11 120 9), (0, μ11 120 0)]) dX2_seekOne_62 l_X2_70 mw_X0_run mi_X0_run ms_X0_run mo_X0_run (rcv (ci := 0) (n := 16) (r := (RX0, TX0, 16)) g12 rfl rfl) (Nat.le_of_ble_eq_true rfl) h rfl (fun r13 μ14 h => ?_)
        refine WQ_ifeq (tgt := 81) dX2_seekOne_65 (by decide) (fun c15 => ?_) (fun c15 => ?_)
        · replace h := h.1 c15
          obtain ⟨g16, h⟩ := h
          refine WQ_iinc dX2_seekOne_81 rfl (by decide) g16 (fun v17 e17 => ?_)
          refine WP_same (L' := [(2, 120), (0, v17)]) rfl ?_
          replace h := h v17 e17
          refine WP_goto (tgt := 2) dX2_seekOne_84 (by decide) ?_
          exact h
        · replace h := h.2 c15
          refine WP_aload_n dX2_seekOne_68 rfl rfl ⟨Nat.le_of_ble_eq_true rfl, Nat.le_of_ble_eq_true rfl⟩ ?_
          refine WP_iconst dX2_seekOne_69 (by decide) ?_
          refine WQ_put (ci := 2) (j := 1) (n := 11) dX2_seekOne_70 f_X2_76 k_120 rfl (fun μ18 eμ18 => ?_)
          replace h := h μ18 eμ18
          refine WP_aload_n dX2_seekOne_73 rfl rfl ⟨Nat.le_of_ble_eq_true rfl, Nat.le_of_ble_eq_true rfl⟩ ?_
          refine WP_iload_n dX2_seekOne_74 rfl rfl ?_
          refine WQ_invSi (as := [(0, x1)]) dX2_seekOne_75 l_X2_100 mw_X2_code mt_X2_code mo_X2_code (Nat.le_of_ble_eq_true rfl) h rfl (fun r19 μ20 h => ?_)
          refine WQ_put (ci := 2) (j := 2) (n := 11) dX2_seekOne_78 f_X2_64 k_120 rfl (fun μ21 eμ21 => ?_)
          replace h := h μ21 eμ21
          obtain ⟨g22, h⟩ := h
          refine WQ_iinc dX2_seekOne_81 rfl (by decide) g22 (fun v23 e23 => ?_)
          refine WP_same (L' := [(2, 120), (0, v23)]) rfl ?_
          replace h := h v23 e23
          refine WP_goto (tgt := 2) dX2_seekOne_84 (by decide) ?_
          exact h

theorem s_X2_seekTwo_0 {d : Nat} {sc : SC} {Q : Mem → Prop} {μ : Mem}
    (h : WQ mX2_seekTwo d sc (ZV sc Q) 2 [(2, 120), (0, 0), (9, 0), (9, 0)] [] μ) :
    WQ mX2_seekTwo d sc (ZV sc Q) 0 [(2, 120), (9, 0), (9, 0), (9, 0)] [] μ := by
  refine WP_iconst dX2_seekTwo_0 (by decide) ?_
  refine WP_istore_n (L' := [(2, 120), (0, 0), (9, 0), (9, 0)]) dX2_seekTwo_1 rfl (by decide) rfl ?_
  exact h

theorem s_X2_seekTwo_2 {d : Nat} {sc : SC} {Q : Mem → Prop} {μ : Mem} {x1 : Int}
    (h : (μ 120 10 ≤ x1 → Q μ) ∧ (x1 < μ 120 10 → (μ 120 1 ≠ (-1) → Q μ) ∧ (μ 120 1 = (-1) → CAi mX2_isNaming d sc [(2, 120), (0, x1)] μ (fun r3 μ4 => (r3 = 0 → (-2147483648 ≤ x1 + 1 ∧ x1 + 1 < 2147483648) ∧ ∀ v7 : Int, v7 = x1 + 1 → WQ mX2_seekTwo d sc (ZV sc Q) 2 [(2, 120), (0, v7), (9, 0), (9, 0)] [] μ4) ∧ (r3 ≠ 0 → isK 6 (μ4 120 5) ∧ (∀ μ9, μ9 = mup μ4 (μ4 120 5) 0 (μ4 120 8) → CAv mX2_tellToo d sc [(2, 120), (0, x1)] μ9 (fun μ11 => isK 0 (μ11 120 6) ∧ CAi mX0_run d sc [(2, μ11 120 6), (2, μ11 120 5), (2, μ11 120 4), (0, μ11 120 9), (0, μ11 120 0)] μ11 (fun r13 μ14 => CAi mX2_inTime d sc [(2, 120)] μ14 (fun r15 μ16 => (-2147483648 ≤ x1 + 1 ∧ x1 + 1 < 2147483648) ∧ (∀ v18 : Int, v18 = x1 + 1 → WQ mX2_seekTwo d sc (ZV sc Q) 75 [(2, 120), (0, x1), (0, r15), (0, v18)] [] μ16)))))))))) :
    WQ mX2_seekTwo d sc (ZV sc Q) 2 [(2, 120), (0, x1), (9, 0), (9, 0)] [] μ := by
  refine WP_iload_n dX2_seekTwo_2 rfl rfl ?_
  refine WP_aload_n dX2_seekTwo_3 rfl rfl ⟨Nat.le_of_ble_eq_true rfl, Nat.le_of_ble_eq_true rfl⟩ ?_
  refine WP_getfield (ci := 2) (j := 10) (n := 11) (t := 0) (x := μ 120 10) dX2_seekTwo_4 f_X2_83 k_120 rfl rfl ?_
  refine WQ_icmp_ge (tgt := 173) dX2_seekTwo_7 (by decide) (fun c1 => ?_) (fun c1 => ?_)
  · replace h := h.1 c1
    exact WQ_return dX2_seekTwo_173 rfl h
  · replace h := h.2 c1
    refine WP_aload_n dX2_seekTwo_10 rfl rfl ⟨Nat.le_of_ble_eq_true rfl, Nat.le_of_ble_eq_true rfl⟩ ?_
    refine WP_getfield (ci := 2) (j := 1) (n := 11) (t := 0) (x := μ 120 1) dX2_seekTwo_11 f_X2_76 k_120 rfl rfl ?_
    refine WP_iconst dX2_seekTwo_14 (by decide) ?_
    refine WQ_icmp_ne (tgt := 173) dX2_seekTwo_15 (by decide) (fun c2 => ?_) (fun c2 => ?_)
    · replace h := h.1 c2
      exact WQ_return dX2_seekTwo_173 rfl h
    · replace h := h.2 c2
      refine WP_aload_n dX2_seekTwo_18 rfl rfl ⟨Nat.le_of_ble_eq_true rfl, Nat.le_of_ble_eq_true rfl⟩ ?_
      refine WP_iload_n dX2_seekTwo_19 rfl rfl ?_
      refine WQ_invVi (v := (2, 120)) (as := [(0, x1)]) dX2_seekTwo_20 l_X2_92 mw_X2_isNaming mi_X2_isNaming ms_X2_isNaming mo_X2_isNaming (rcv (ci := 2) (n := 11) (r := (RX2, TX2, 11)) k_120 rfl rfl) (Nat.le_of_ble_eq_true rfl) h rfl (fun r3 μ4 h => ?_)
      refine WQ_ifeq (tgt := 167) dX2_seekTwo_23 (by decide) (fun c5 => ?_) (fun c5 => ?_)
      · replace h := h.1 c5
        obtain ⟨g6, h⟩ := h
        refine WQ_iinc dX2_seekTwo_167 rfl (by decide) g6 (fun v7 e7 => ?_)
        refine WP_same (L' := [(2, 120), (0, v7), (9, 0), (9, 0)]) rfl ?_
        replace h := h v7 e7
        refine WP_goto (tgt := 2) dX2_seekTwo_170 (by decide) ?_
        exact h
      · replace h := h.2 c5
        refine WP_aload_n dX2_seekTwo_26 rfl rfl ⟨Nat.le_of_ble_eq_true rfl, Nat.le_of_ble_eq_true rfl⟩ ?_
        refine WP_getfield (ci := 2) (j := 5) (n := 11) (t := 2) (x := μ4 120 5) dX2_seekTwo_27 f_X2_25 k_120 rfl rfl ?_
        refine WP_aload_n dX2_seekTwo_30 rfl rfl ⟨Nat.le_of_ble_eq_true rfl, Nat.le_of_ble_eq_true rfl⟩ ?_
        refine WP_getfield (ci := 2) (j := 8) (n := 11) (t := 0) (x := μ4 120 8) dX2_seekTwo_31 f_X2_45 k_120 rfl rfl ?_
        obtain ⟨g8, h⟩ := h
        refine WQ_put (ci := 6) (j := 0) (n := 7) dX2_seekTwo_34 f_X2_42 g8 rfl (fun μ9 eμ9 => ?_)
        replace h := h μ9 eμ9
        refine WP_aload_n dX2_seekTwo_37 rfl rfl ⟨Nat.le_of_ble_eq_true rfl, Nat.le_of_ble_eq_true rfl⟩ ?_
        refine WP_iload_n dX2_seekTwo_38 rfl rfl ?_
        refine WQ_invVv (v := (2, 120)) (as := [(0, x1)]) dX2_seekTwo_39 l_X2_96 mw_X2_tellToo mi_X2_tellToo ms_X2_tellToo mo_X2_tellToo (rcv (ci := 2) (n := 11) (r := (RX2, TX2, 11)) k_120 rfl rfl) (Nat.le_of_ble_eq_true rfl) h rfl (fun μ11 h => ?_)
        refine WP_aload_n dX2_seekTwo_42 rfl rfl ⟨Nat.le_of_ble_eq_true rfl, Nat.le_of_ble_eq_true rfl⟩ ?_
        refine WP_getfield (ci := 2) (j := 6) (n := 11) (t := 2) (x := μ11 120 6) dX2_seekTwo_43 f_X2_29 k_120 rfl rfl ?_
        refine WP_aload_n dX2_seekTwo_46 rfl rfl ⟨Nat.le_of_ble_eq_true rfl, Nat.le_of_ble_eq_true rfl⟩ ?_
        refine WP_getfield (ci := 2) (j := 5) (n := 11) (t := 2) (x := μ11 120 5) dX2_seekTwo_47 f_X2_25 k_120 rfl rfl ?_
        refine WP_aload_n dX2_seekTwo_50 rfl rfl ⟨Nat.le_of_ble_eq_true rfl, Nat.le_of_ble_eq_true rfl⟩ ?_
        refine WP_getfield (ci := 2) (j := 4) (n := 11) (t := 2) (x := μ11 120 4) dX2_seekTwo_51 f_X2_21 k_120 rfl rfl ?_
        refine WP_aload_n dX2_seekTwo_54 rfl rfl ⟨Nat.le_of_ble_eq_true rfl, Nat.le_of_ble_eq_true rfl⟩ ?_
        refine WP_getfield (ci := 2) (j := 9) (n := 11) (t := 0) (x := μ11 120 9) dX2_seekTwo_55 f_X2_48 k_120 rfl rfl ?_
        refine WP_aload_n dX2_seekTwo_58 rfl rfl ⟨Nat.le_of_ble_eq_true rfl, Nat.le_of_ble_eq_true rfl⟩ ?_
        refine WP_getfield (ci := 2) (j := 0) (n := 11) (t := 0) (x := μ11 120 0) dX2_seekTwo_59 f_X2_9 k_120 rfl rfl ?_
        obtain ⟨g12, h⟩ := h
        refine WQ_invVi (v := (2, μ11 120 6)) (as := [(2, μ11 120 5), (2, μ11 120 4), (0, μ11 120 9), (0, μ11 120 0)]) dX2_seekTwo_62 l_X2_70 mw_X0_run mi_X0_run ms_X0_run mo_X0_run (rcv (ci := 0) (n := 16) (r := (RX0, TX0, 16)) g12 rfl rfl) (Nat.le_of_ble_eq_true rfl) h rfl (fun r13 μ14 h => ?_)
        refine WP_pop dX2_seekTwo_65 (by simp) ?_
        refine WP_aload_n dX2_seekTwo_66 rfl rfl ⟨Nat.le_of_ble_eq_true rfl, Nat.le_of_ble_eq_true rfl⟩ ?_
        refine WQ_invVi (v := (2, 120)) (as := []) dX2_seekTwo_67 l_X2_79 mw_X2_inTime mi_X2_inTime ms_X2_inTime mo_X2_inTime (rcv (ci := 2) (n := 11) (r := (RX2, TX2, 11)) k_120 rfl rfl) (Nat.le_of_ble_eq_true rfl) h rfl (fun r15 μ16 h => ?_)
        refine WP_istore_n (L' := [(2, 120), (0, x1), (0, r15), (9, 0)]) dX2_seekTwo_70 rfl (by decide) rfl ?_
        refine WP_iload_n dX2_seekTwo_71 rfl rfl ?_
        refine WP_iconst dX2_seekTwo_72 (by decide) ?_
        obtain ⟨g17, h⟩ := h
        refine WP_iadd dX2_seekTwo_73 g17 ?_
        refine WQ_nm0 (fun v18 e18 => ?_)
        replace h := h v18 e18
        refine WP_istore_n (L' := [(2, 120), (0, x1), (0, r15), (0, v18)]) dX2_seekTwo_74 rfl (by decide) rfl ?_
        exact h

theorem s_X2_seekTwo_75 {d : Nat} {sc : SC} {Q : Mem → Prop} {μ : Mem} {x1 x2 x3 : Int}
    (h : (x2 ≤ x3 → (-2147483648 ≤ x1 + 1 ∧ x1 + 1 < 2147483648) ∧ ∀ v3 : Int, v3 = x1 + 1 → WQ mX2_seekTwo d sc (ZV sc Q) 2 [(2, 120), (0, v3), (9, 0), (9, 0)] [] μ) ∧ (x3 < x2 → (μ 120 1 ≠ (-1) → (-2147483648 ≤ x1 + 1 ∧ x1 + 1 < 2147483648) ∧ ∀ v6 : Int, v6 = x1 + 1 → WQ mX2_seekTwo d sc (ZV sc Q) 2 [(2, 120), (0, v6), (9, 0), (9, 0)] [] μ) ∧ (μ 120 1 = (-1) → CAi mX2_isNaming d sc [(2, 120), (0, x3)] μ (fun r7 μ8 => (r7 = 0 → (-2147483648 ≤ x3 + 1 ∧ x3 + 1 < 2147483648) ∧ ∀ v11 : Int, v11 = x3 + 1 → WQ mX2_seekTwo d sc (ZV sc Q) 75 [(2, 120), (0, x1), (0, x2), (0, v11)] [] μ8) ∧ (r7 ≠ 0 → (-2147483648 ≤ (μ8 120 8) + 1 ∧ (μ8 120 8) + 1 < 2147483648) ∧ isK 6 (μ8 120 5) ∧ (∀ μ14, μ14 = mup μ8 (μ8 120 5) 0 ((μ8 120 8) + 1) → CAv mX2_tellToo d sc [(2, 120), (0, x3)] μ14 (fun μ16 => isK 0 (μ16 120 6) ∧ CAi mX0_run d sc [(2, μ16 120 6), (2, μ16 120 5), (2, μ16 120 4), (0, μ16 120 9), (0, μ16 120 0)] μ16 (fun r18 μ19 => (r18 = 0 → (-2147483648 ≤ x3 + 1 ∧ x3 + 1 < 2147483648) ∧ ∀ v22 : Int, v22 = x3 + 1 → WQ mX2_seekTwo d sc (ZV sc Q) 75 [(2, 120), (0, x1), (0, x2), (0, v22)] [] μ19) ∧ (r18 ≠ 0 → ∀ μ23, μ23 = mup μ19 120 1 2 → CAi mX2_code d sc [(0, x1)] μ23 (fun r24 μ25 => ∀ μ26, μ26 = mup μ25 120 2 r24 → CAi mX2_code d sc [(0, x3)] μ26 (fun r27 μ28 => ∀ μ29, μ29 = mup μ28 120 3 r27 → (-2147483648 ≤ x3 + 1 ∧ x3 + 1 < 2147483648) ∧ ∀ v31 : Int, v31 = x3 + 1 → WQ mX2_seekTwo d sc (ZV sc Q) 75 [(2, 120), (0, x1), (0, x2), (0, v31)] [] μ29))))))))))) :
    WQ mX2_seekTwo d sc (ZV sc Q) 75 [(2, 120), (0, x1), (0, x2), (0, x3)] [] μ := by
  refine WP_iload_n dX2_seekTwo_75 rfl rfl ?_
  refine WP_iload_n dX2_seekTwo_76 rfl rfl ?_
  refine WQ_icmp_ge (tgt := 167) dX2_seekTwo_77 (by decide) (fun c1 => ?_) (fun c1 => ?_)
  · replace h := h.1 c1
    obtain ⟨g2, h⟩ := h
    refine WQ_iinc dX2_seekTwo_167 rfl (by decide) g2 (fun v3 e3 => ?_)
    refine WP_same (L' := [(2, 120), (0, v3), (0, x2), (0, x3)]) rfl ?_
    replace h := h v3 e3
    refine WP_goto (tgt := 2) dX2_seekTwo_170 (by decide) ?_
    refine WP_lforget (L' := [(2, 120), (0, v3), (9, 0), (9, 0)]) rfl (fun i hi => ?_) h
    match i, hi with
    | 0, _ => exact Or.inl rfl
    | 1, _ => exact Or.inl rfl
    | 2, _ => exact Or.inr rfl
    | 3, _ => exact Or.inr rfl
    | i + 4, hi => exact absurd hi (by simp only [List.length_cons, List.length_nil]; omega)
  · replace h := h.2 c1
    refine WP_aload_n dX2_seekTwo_80 rfl rfl ⟨Nat.le_of_ble_eq_true rfl, Nat.le_of_ble_eq_true rfl⟩ ?_
    refine WP_getfield (ci := 2) (j := 1) (n := 11) (t := 0) (x := μ 120 1) dX2_seekTwo_81 f_X2_76 k_120 rfl rfl ?_
    refine WP_iconst dX2_seekTwo_84 (by decide) ?_
    refine WQ_icmp_ne (tgt := 167) dX2_seekTwo_85 (by decide) (fun c4 => ?_) (fun c4 => ?_)
    · replace h := h.1 c4
      obtain ⟨g5, h⟩ := h
      refine WQ_iinc dX2_seekTwo_167 rfl (by decide) g5 (fun v6 e6 => ?_)
      refine WP_same (L' := [(2, 120), (0, v6), (0, x2), (0, x3)]) rfl ?_
      replace h := h v6 e6
      refine WP_goto (tgt := 2) dX2_seekTwo_170 (by decide) ?_
      refine WP_lforget (L' := [(2, 120), (0, v6), (9, 0), (9, 0)]) rfl (fun i hi => ?_) h
      match i, hi with
      | 0, _ => exact Or.inl rfl
      | 1, _ => exact Or.inl rfl
      | 2, _ => exact Or.inr rfl
      | 3, _ => exact Or.inr rfl
      | i + 4, hi => exact absurd hi (by simp only [List.length_cons, List.length_nil]; omega)
    · replace h := h.2 c4
      refine WP_aload_n dX2_seekTwo_88 rfl rfl ⟨Nat.le_of_ble_eq_true rfl, Nat.le_of_ble_eq_true rfl⟩ ?_
      refine WP_iload_n dX2_seekTwo_89 rfl rfl ?_
      refine WQ_invVi (v := (2, 120)) (as := [(0, x3)]) dX2_seekTwo_90 l_X2_92 mw_X2_isNaming mi_X2_isNaming ms_X2_isNaming mo_X2_isNaming (rcv (ci := 2) (n := 11) (r := (RX2, TX2, 11)) k_120 rfl rfl) (Nat.le_of_ble_eq_true rfl) h rfl (fun r7 μ8 h => ?_)
      refine WQ_ifeq (tgt := 161) dX2_seekTwo_93 (by decide) (fun c9 => ?_) (fun c9 => ?_)
      · replace h := h.1 c9
        obtain ⟨g10, h⟩ := h
        refine WQ_iinc dX2_seekTwo_161 rfl (by decide) g10 (fun v11 e11 => ?_)
        refine WP_same (L' := [(2, 120), (0, x1), (0, x2), (0, v11)]) rfl ?_
        replace h := h v11 e11
        refine WP_goto (tgt := 75) dX2_seekTwo_164 (by decide) ?_
        exact h
      · replace h := h.2 c9
        refine WP_aload_n dX2_seekTwo_96 rfl rfl ⟨Nat.le_of_ble_eq_true rfl, Nat.le_of_ble_eq_true rfl⟩ ?_
        refine WP_getfield (ci := 2) (j := 5) (n := 11) (t := 2) (x := μ8 120 5) dX2_seekTwo_97 f_X2_25 k_120 rfl rfl ?_
        refine WP_aload_n dX2_seekTwo_100 rfl rfl ⟨Nat.le_of_ble_eq_true rfl, Nat.le_of_ble_eq_true rfl⟩ ?_
        refine WP_getfield (ci := 2) (j := 8) (n := 11) (t := 0) (x := μ8 120 8) dX2_seekTwo_101 f_X2_45 k_120 rfl rfl ?_
        refine WP_iconst dX2_seekTwo_104 (by decide) ?_
        obtain ⟨g12, h⟩ := h
        refine WP_iadd dX2_seekTwo_105 g12 ?_
        obtain ⟨g13, h⟩ := h
        refine WQ_put (ci := 6) (j := 0) (n := 7) dX2_seekTwo_106 f_X2_42 g13 rfl (fun μ14 eμ14 => ?_)
        replace h := h μ14 eμ14
        refine WP_aload_n dX2_seekTwo_109 rfl rfl ⟨Nat.le_of_ble_eq_true rfl, Nat.le_of_ble_eq_true rfl⟩ ?_
        refine WP_iload_n dX2_seekTwo_110 rfl rfl ?_
        refine WQ_invVv (v := (2, 120)) (as := [(0, x3)]) dX2_seekTwo_111 l_X2_96 mw_X2_tellToo mi_X2_tellToo ms_X2_tellToo mo_X2_tellToo (rcv (ci := 2) (n := 11) (r := (RX2, TX2, 11)) k_120 rfl rfl) (Nat.le_of_ble_eq_true rfl) h rfl (fun μ16 h => ?_)
        refine WP_aload_n dX2_seekTwo_114 rfl rfl ⟨Nat.le_of_ble_eq_true rfl, Nat.le_of_ble_eq_true rfl⟩ ?_
        refine WP_getfield (ci := 2) (j := 6) (n := 11) (t := 2) (x := μ16 120 6) dX2_seekTwo_115 f_X2_29 k_120 rfl rfl ?_
        refine WP_aload_n dX2_seekTwo_118 rfl rfl ⟨Nat.le_of_ble_eq_true rfl, Nat.le_of_ble_eq_true rfl⟩ ?_
        refine WP_getfield (ci := 2) (j := 5) (n := 11) (t := 2) (x := μ16 120 5) dX2_seekTwo_119 f_X2_25 k_120 rfl rfl ?_
        refine WP_aload_n dX2_seekTwo_122 rfl rfl ⟨Nat.le_of_ble_eq_true rfl, Nat.le_of_ble_eq_true rfl⟩ ?_
        refine WP_getfield (ci := 2) (j := 4) (n := 11) (t := 2) (x := μ16 120 4) dX2_seekTwo_123 f_X2_21 k_120 rfl rfl ?_
        refine WP_aload_n dX2_seekTwo_126 rfl rfl ⟨Nat.le_of_ble_eq_true rfl, Nat.le_of_ble_eq_true rfl⟩ ?_
        refine WP_getfield (ci := 2) (j := 9) (n := 11) (t := 0) (x := μ16 120 9) dX2_seekTwo_127 f_X2_48 k_120 rfl rfl ?_
        refine WP_aload_n dX2_seekTwo_130 rfl rfl ⟨Nat.le_of_ble_eq_true rfl, Nat.le_of_ble_eq_true rfl⟩ ?_
        refine WP_getfield (ci := 2) (j := 0) (n := 11) (t := 0) (x := μ16 120 0) dX2_seekTwo_131 f_X2_9 k_120 rfl rfl ?_
        obtain ⟨g17, h⟩ := h
        refine WQ_invVi (v := (2, μ16 120 6)) (as := [(2, μ16 120 5), (2, μ16 120 4), (0, μ16 120 9), (0, μ16 120 0)]) dX2_seekTwo_134 l_X2_70 mw_X0_run mi_X0_run ms_X0_run mo_X0_run (rcv (ci := 0) (n := 16) (r := (RX0, TX0, 16)) g17 rfl rfl) (Nat.le_of_ble_eq_true rfl) h rfl (fun r18 μ19 h => ?_)
        refine WQ_ifeq (tgt := 161) dX2_seekTwo_137 (by decide) (fun c20 => ?_) (fun c20 => ?_)
        · replace h := h.1 c20
          obtain ⟨g21, h⟩ := h
          refine WQ_iinc dX2_seekTwo_161 rfl (by decide) g21 (fun v22 e22 => ?_)
          refine WP_same (L' := [(2, 120), (0, x1), (0, x2), (0, v22)]) rfl ?_
          replace h := h v22 e22
          refine WP_goto (tgt := 75) dX2_seekTwo_164 (by decide) ?_
          exact h
        · replace h := h.2 c20
          refine WP_aload_n dX2_seekTwo_140 rfl rfl ⟨Nat.le_of_ble_eq_true rfl, Nat.le_of_ble_eq_true rfl⟩ ?_
          refine WP_iconst dX2_seekTwo_141 (by decide) ?_
          refine WQ_put (ci := 2) (j := 1) (n := 11) dX2_seekTwo_142 f_X2_76 k_120 rfl (fun μ23 eμ23 => ?_)
          replace h := h μ23 eμ23
          refine WP_aload_n dX2_seekTwo_145 rfl rfl ⟨Nat.le_of_ble_eq_true rfl, Nat.le_of_ble_eq_true rfl⟩ ?_
          refine WP_iload_n dX2_seekTwo_146 rfl rfl ?_
          refine WQ_invSi (as := [(0, x1)]) dX2_seekTwo_147 l_X2_100 mw_X2_code mt_X2_code mo_X2_code (Nat.le_of_ble_eq_true rfl) h rfl (fun r24 μ25 h => ?_)
          refine WQ_put (ci := 2) (j := 2) (n := 11) dX2_seekTwo_150 f_X2_64 k_120 rfl (fun μ26 eμ26 => ?_)
          replace h := h μ26 eμ26
          refine WP_aload_n dX2_seekTwo_153 rfl rfl ⟨Nat.le_of_ble_eq_true rfl, Nat.le_of_ble_eq_true rfl⟩ ?_
          refine WP_iload_n dX2_seekTwo_154 rfl rfl ?_
          refine WQ_invSi (as := [(0, x3)]) dX2_seekTwo_155 l_X2_100 mw_X2_code mt_X2_code mo_X2_code (Nat.le_of_ble_eq_true rfl) h rfl (fun r27 μ28 h => ?_)
          refine WQ_put (ci := 2) (j := 3) (n := 11) dX2_seekTwo_158 f_X2_67 k_120 rfl (fun μ29 eμ29 => ?_)
          replace h := h μ29 eμ29
          obtain ⟨g30, h⟩ := h
          refine WQ_iinc dX2_seekTwo_161 rfl (by decide) g30 (fun v31 e31 => ?_)
          refine WP_same (L' := [(2, 120), (0, x1), (0, x2), (0, v31)]) rfl ?_
          replace h := h v31 e31
          refine WP_goto (tgt := 75) dX2_seekTwo_164 (by decide) ?_
          exact h

theorem s_X2_start_0 {d : Nat} {sc : SC} {Q : Mem → Prop} {μ : Mem} {a1 a2 a3 a4 a5 : Int} (ha2 : isK 1 a2) (ha3 : isK 3 a3) (ha4 : isK 6 a4) (ha5 : isK 0 a5)
    (h : ∀ μ1, μ1 = mup μ 120 0 a1 → ∀ μ2, μ2 = mup μ1 120 7 (μ1 a2 3) → ∀ μ3, μ3 = mup μ2 120 4 a3 → ∀ μ4, μ4 = mup μ3 120 5 a4 → ∀ μ5, μ5 = mup μ4 120 6 a5 → isK 6 (μ5 120 5) ∧ CAv mX6_copyFrom d sc [(2, μ5 120 5), (2, a2 + 7)] μ5 (fun μ8 => isK 6 (μ8 120 5) ∧ (∀ μ10, μ10 = mup μ8 120 8 (μ8 (μ8 120 5) 0) → ∀ μ11, μ11 = mup μ10 120 9 (-1) → WQ mX2_start d sc (ZV sc Q) 60 [(2, 120), (0, a1), (9, 0), (9, 0), (9, 0), (9, 0), (0, 0)] [] μ11))) :
    WQ mX2_start d sc (ZV sc Q) 0 [(2, 120), (0, a1), (2, a2), (2, a3), (2, a4), (2, a5), (9, 0)] [] μ := by
  refine WP_aload_n dX2_start_0 rfl rfl ⟨Nat.le_of_ble_eq_true rfl, Nat.le_of_ble_eq_true rfl⟩ ?_
  refine WP_iload_n dX2_start_1 rfl rfl ?_
  refine WQ_put (ci := 2) (j := 0) (n := 11) dX2_start_2 f_X2_9 k_120 rfl (fun μ1 eμ1 => ?_)
  replace h := h μ1 eμ1
  refine WP_aload_n dX2_start_5 rfl rfl ⟨Nat.le_of_ble_eq_true rfl, Nat.le_of_ble_eq_true rfl⟩ ?_
  refine WP_aload_n dX2_start_6 rfl rfl ⟨Nat.le_of_ble_eq_true rfl, Nat.le_of_ble_eq_true rfl⟩ ?_
  refine WP_getfield (ci := 1) (j := 3) (n := 11) (t := 0) (x := μ1 a2 3) dX2_start_7 f_X2_15 ha2 rfl rfl ?_
  refine WQ_put (ci := 2) (j := 7) (n := 11) dX2_start_10 f_X2_20 k_120 rfl (fun μ2 eμ2 => ?_)
  replace h := h μ2 eμ2
  refine WP_aload_n dX2_start_13 rfl rfl ⟨Nat.le_of_ble_eq_true rfl, Nat.le_of_ble_eq_true rfl⟩ ?_
  refine WP_aload_n dX2_start_14 rfl rfl ⟨Nat.le_of_ble_eq_true rfl, Nat.le_of_ble_eq_true rfl⟩ ?_
  refine WQ_put (ci := 2) (j := 4) (n := 11) dX2_start_15 f_X2_21 k_120 rfl (fun μ3 eμ3 => ?_)
  replace h := h μ3 eμ3
  refine WP_aload_n dX2_start_18 rfl rfl ⟨Nat.le_of_ble_eq_true rfl, Nat.le_of_ble_eq_true rfl⟩ ?_
  refine WP_aload dX2_start_19 rfl ⟨Nat.le_of_ble_eq_true rfl, Nat.le_of_ble_eq_true rfl⟩ ?_
  refine WQ_put (ci := 2) (j := 5) (n := 11) dX2_start_21 f_X2_25 k_120 rfl (fun μ4 eμ4 => ?_)
  replace h := h μ4 eμ4
  refine WP_aload_n dX2_start_24 rfl rfl ⟨Nat.le_of_ble_eq_true rfl, Nat.le_of_ble_eq_true rfl⟩ ?_
  refine WP_aload dX2_start_25 rfl ⟨Nat.le_of_ble_eq_true rfl, Nat.le_of_ble_eq_true rfl⟩ ?_
  refine WQ_put (ci := 2) (j := 6) (n := 11) dX2_start_27 f_X2_29 k_120 rfl (fun μ5 eμ5 => ?_)
  replace h := h μ5 eμ5
  refine WP_aload_n dX2_start_30 rfl rfl ⟨Nat.le_of_ble_eq_true rfl, Nat.le_of_ble_eq_true rfl⟩ ?_
  refine WP_getfield (ci := 2) (j := 5) (n := 11) (t := 2) (x := μ5 120 5) dX2_start_31 f_X2_25 k_120 rfl rfl ?_
  refine WP_aload_n dX2_start_34 rfl rfl ⟨Nat.le_of_ble_eq_true rfl, Nat.le_of_ble_eq_true rfl⟩ ?_
  refine WP_getfield (ci := 1) (j := 10) (n := 11) (t := 2) (x := a2 + 7) dX2_start_35 f_X2_33 ha2 rfl rfl ?_
  obtain ⟨g6, h⟩ := h
  refine WQ_invVv (v := (2, μ5 120 5)) (as := [(2, a2 + 7)]) dX2_start_38 l_X2_36 mw_X6_copyFrom mi_X6_copyFrom ms_X6_copyFrom mo_X6_copyFrom (rcv (ci := 6) (n := 7) (r := (RX6, TX6, 7)) g6 rfl rfl) (Nat.le_of_ble_eq_true rfl) h rfl (fun μ8 h => ?_)
  refine WP_aload_n dX2_start_41 rfl rfl ⟨Nat.le_of_ble_eq_true rfl, Nat.le_of_ble_eq_true rfl⟩ ?_
  refine WP_aload_n dX2_start_42 rfl rfl ⟨Nat.le_of_ble_eq_true rfl, Nat.le_of_ble_eq_true rfl⟩ ?_
  refine WP_getfield (ci := 2) (j := 5) (n := 11) (t := 2) (x := μ8 120 5) dX2_start_43 f_X2_25 k_120 rfl rfl ?_
  obtain ⟨g9, h⟩ := h
  refine WP_getfield (ci := 6) (j := 0) (n := 7) (t := 0) (x := μ8 (μ8 120 5) 0) dX2_start_46 f_X2_42 g9 rfl rfl ?_
  refine WQ_put (ci := 2) (j := 8) (n := 11) dX2_start_49 f_X2_45 k_120 rfl (fun μ10 eμ10 => ?_)
  replace h := h μ10 eμ10
  refine WP_aload_n dX2_start_52 rfl rfl ⟨Nat.le_of_ble_eq_true rfl, Nat.le_of_ble_eq_true rfl⟩ ?_
  refine WP_iconst dX2_start_53 (by decide) ?_
  refine WQ_put (ci := 2) (j := 9) (n := 11) dX2_start_54 f_X2_48 k_120 rfl (fun μ11 eμ11 => ?_)
  replace h := h μ11 eμ11
  refine WP_iconst dX2_start_57 (by decide) ?_
  refine WP_istore (L' := [(2, 120), (0, a1), (2, a2), (2, a3), (2, a4), (2, a5), (0, 0)]) dX2_start_58 (by decide) rfl ?_
  refine WP_lforget (L' := [(2, 120), (0, a1), (9, 0), (9, 0), (9, 0), (9, 0), (0, 0)]) rfl (fun i hi => ?_) h
  match i, hi with
  | 0, _ => exact Or.inl rfl
  | 1, _ => exact Or.inl rfl
  | 2, _ => exact Or.inr rfl
  | 3, _ => exact Or.inr rfl
  | 4, _ => exact Or.inr rfl
  | 5, _ => exact Or.inr rfl
  | 6, _ => exact Or.inl rfl
  | i + 7, hi => exact absurd hi (by simp only [List.length_cons, List.length_nil]; omega)

theorem s_X2_start_60 {d : Nat} {sc : SC} {Q : Mem → Prop} {μ : Mem} {x1 x6 : Int} (hd2 : 2 ≤ d)
    (h : (μ 120 8 ≤ x6 → ∀ μ2, μ2 = mup μ 120 2 (-1) → ∀ μ3, μ3 = mup μ2 120 3 (-1) → isK 0 (μ3 120 6) ∧ CAi mX0_run d sc [(2, μ3 120 6), (2, μ3 120 5), (2, μ3 120 4), (0, μ3 120 9), (0, x1)] μ3 (fun r5 μ6 => (r5 = 0 → ∀ μ8, μ8 = mup μ6 120 1 (-1) → CAi mX2_inTime d sc [(2, 120)] μ8 (fun r9 μ10 => ∀ μ11, μ11 = mup μ10 120 10 r9 → Q μ11)) ∧ (r5 ≠ 0 → ∀ μ12, μ12 = mup μ6 120 1 0 → CAi mX2_inTime d sc [(2, 120)] μ12 (fun r13 μ14 => ∀ μ15, μ15 = mup μ14 120 10 r13 → Q μ15)))) ∧ (x6 < μ 120 8 → isK 6 (μ 120 5) ∧ (0 ≤ x6 ∧ x6 < 10) ∧ (μ (μ 120 5 + 1) x6 ≠ x1 → (-2147483648 ≤ x6 + 1 ∧ x6 + 1 < 2147483648) ∧ ∀ v20 : Int, v20 = x6 + 1 → WQ mX2_start d sc (ZV sc Q) 60 [(2, 120), (0, x1), (9, 0), (9, 0), (9, 0), (9, 0), (0, v20)] [] μ) ∧ (μ (μ 120 5 + 1) x6 = x1 → (0 ≤ x6 ∧ x6 < 10) ∧ (∀ μ22, μ22 = mup μ 120 9 (max (μ 120 9) (μ (μ 120 5 + 3) x6)) → (-2147483648 ≤ x6 + 1 ∧ x6 + 1 < 2147483648) ∧ ∀ v24 : Int, v24 = x6 + 1 → WQ mX2_start d sc (ZV sc Q) 60 [(2, 120), (0, x1), (9, 0), (9, 0), (9, 0), (9, 0), (0, v24)] [] μ22)))) :
    WQ mX2_start d sc (ZV sc Q) 60 [(2, 120), (0, x1), (9, 0), (9, 0), (9, 0), (9, 0), (0, x6)] [] μ := by
  refine WP_iload dX2_start_60 rfl ?_
  refine WP_aload_n dX2_start_62 rfl rfl ⟨Nat.le_of_ble_eq_true rfl, Nat.le_of_ble_eq_true rfl⟩ ?_
  refine WP_getfield (ci := 2) (j := 8) (n := 11) (t := 0) (x := μ 120 8) dX2_start_63 f_X2_45 k_120 rfl rfl ?_
  refine WQ_icmp_ge (tgt := 110) dX2_start_66 (by decide) (fun c1 => ?_) (fun c1 => ?_)
  · replace h := h.1 c1
    refine WP_aload_n dX2_start_110 rfl rfl ⟨Nat.le_of_ble_eq_true rfl, Nat.le_of_ble_eq_true rfl⟩ ?_
    refine WP_iconst dX2_start_111 (by decide) ?_
    refine WQ_put (ci := 2) (j := 2) (n := 11) dX2_start_112 f_X2_64 k_120 rfl (fun μ2 eμ2 => ?_)
    replace h := h μ2 eμ2
    refine WP_aload_n dX2_start_115 rfl rfl ⟨Nat.le_of_ble_eq_true rfl, Nat.le_of_ble_eq_true rfl⟩ ?_
    refine WP_iconst dX2_start_116 (by decide) ?_
    refine WQ_put (ci := 2) (j := 3) (n := 11) dX2_start_117 f_X2_67 k_120 rfl (fun μ3 eμ3 => ?_)
    replace h := h μ3 eμ3
    refine WP_aload_n dX2_start_120 rfl rfl ⟨Nat.le_of_ble_eq_true rfl, Nat.le_of_ble_eq_true rfl⟩ ?_
    refine WP_aload_n dX2_start_121 rfl rfl ⟨Nat.le_of_ble_eq_true rfl, Nat.le_of_ble_eq_true rfl⟩ ?_
    refine WP_getfield (ci := 2) (j := 6) (n := 11) (t := 2) (x := μ3 120 6) dX2_start_122 f_X2_29 k_120 rfl rfl ?_
    refine WP_aload_n dX2_start_125 rfl rfl ⟨Nat.le_of_ble_eq_true rfl, Nat.le_of_ble_eq_true rfl⟩ ?_
    refine WP_getfield (ci := 2) (j := 5) (n := 11) (t := 2) (x := μ3 120 5) dX2_start_126 f_X2_25 k_120 rfl rfl ?_
    refine WP_aload_n dX2_start_129 rfl rfl ⟨Nat.le_of_ble_eq_true rfl, Nat.le_of_ble_eq_true rfl⟩ ?_
    refine WP_getfield (ci := 2) (j := 4) (n := 11) (t := 2) (x := μ3 120 4) dX2_start_130 f_X2_21 k_120 rfl rfl ?_
    refine WP_aload_n dX2_start_133 rfl rfl ⟨Nat.le_of_ble_eq_true rfl, Nat.le_of_ble_eq_true rfl⟩ ?_
    refine WP_getfield (ci := 2) (j := 9) (n := 11) (t := 0) (x := μ3 120 9) dX2_start_134 f_X2_48 k_120 rfl rfl ?_
    refine WP_iload_n dX2_start_137 rfl rfl ?_
    obtain ⟨g4, h⟩ := h
    refine WQ_invVi (v := (2, μ3 120 6)) (as := [(2, μ3 120 5), (2, μ3 120 4), (0, μ3 120 9), (0, x1)]) dX2_start_138 l_X2_70 mw_X0_run mi_X0_run ms_X0_run mo_X0_run (rcv (ci := 0) (n := 16) (r := (RX0, TX0, 16)) g4 rfl rfl) (Nat.le_of_ble_eq_true rfl) h rfl (fun r5 μ6 h => ?_)
    refine WQ_ifeq (tgt := 148) dX2_start_141 (by decide) (fun c7 => ?_) (fun c7 => ?_)
    · replace h := h.1 c7
      refine WP_iconst dX2_start_148 (by decide) ?_
      refine WQ_put (ci := 2) (j := 1) (n := 11) dX2_start_149 f_X2_76 k_120 rfl (fun μ8 eμ8 => ?_)
      replace h := h μ8 eμ8
      refine WP_aload_n dX2_start_152 rfl rfl ⟨Nat.le_of_ble_eq_true rfl, Nat.le_of_ble_eq_true rfl⟩ ?_
      refine WP_aload_n dX2_start_153 rfl rfl ⟨Nat.le_of_ble_eq_true rfl, Nat.le_of_ble_eq_true rfl⟩ ?_
      refine WQ_invVi (v := (2, 120)) (as := []) dX2_start_154 l_X2_79 mw_X2_inTime mi_X2_inTime ms_X2_inTime mo_X2_inTime (rcv (ci := 2) (n := 11) (r := (RX2, TX2, 11)) k_120 rfl rfl) (Nat.le_of_ble_eq_true rfl) h rfl (fun r9 μ10 h => ?_)
      refine WQ_put (ci := 2) (j := 10) (n := 11) dX2_start_157 f_X2_83 k_120 rfl (fun μ11 eμ11 => ?_)
      replace h := h μ11 eμ11
      exact WQ_return dX2_start_160 rfl h
    · replace h := h.2 c7
      refine WP_iconst dX2_start_144 (by decide) ?_
      refine WP_goto (tgt := 149) dX2_start_145 (by decide) ?_
      refine WQ_put (ci := 2) (j := 1) (n := 11) dX2_start_149 f_X2_76 k_120 rfl (fun μ12 eμ12 => ?_)
      replace h := h μ12 eμ12
      refine WP_aload_n dX2_start_152 rfl rfl ⟨Nat.le_of_ble_eq_true rfl, Nat.le_of_ble_eq_true rfl⟩ ?_
      refine WP_aload_n dX2_start_153 rfl rfl ⟨Nat.le_of_ble_eq_true rfl, Nat.le_of_ble_eq_true rfl⟩ ?_
      refine WQ_invVi (v := (2, 120)) (as := []) dX2_start_154 l_X2_79 mw_X2_inTime mi_X2_inTime ms_X2_inTime mo_X2_inTime (rcv (ci := 2) (n := 11) (r := (RX2, TX2, 11)) k_120 rfl rfl) (Nat.le_of_ble_eq_true rfl) h rfl (fun r13 μ14 h => ?_)
      refine WQ_put (ci := 2) (j := 10) (n := 11) dX2_start_157 f_X2_83 k_120 rfl (fun μ15 eμ15 => ?_)
      replace h := h μ15 eμ15
      exact WQ_return dX2_start_160 rfl h
  · replace h := h.2 c1
    refine WP_aload_n dX2_start_69 rfl rfl ⟨Nat.le_of_ble_eq_true rfl, Nat.le_of_ble_eq_true rfl⟩ ?_
    refine WP_getfield (ci := 2) (j := 5) (n := 11) (t := 2) (x := μ 120 5) dX2_start_70 f_X2_25 k_120 rfl rfl ?_
    obtain ⟨g16, h⟩ := h
    refine WP_getfield (ci := 6) (j := 1) (n := 7) (t := 2) (x := μ 120 5 + 1) dX2_start_73 f_X2_51 g16 rfl rfl ?_
    refine WP_iload dX2_start_76 rfl ?_
    obtain ⟨g17, h⟩ := h
    refine WP_iaload (n := 10) dX2_start_78 (kf_6_1 g16) g17 ?_
    refine WP_iload_n dX2_start_79 rfl rfl ?_
    refine WQ_icmp_ne (tgt := 104) dX2_start_80 (by decide) (fun c18 => ?_) (fun c18 => ?_)
    · replace h := h.1 c18
      obtain ⟨g19, h⟩ := h
      refine WQ_iinc dX2_start_104 rfl (by decide) g19 (fun v20 e20 => ?_)
      refine WP_same (L' := [(2, 120), (0, x1), (9, 0), (9, 0), (9, 0), (9, 0), (0, v20)]) rfl ?_
      replace h := h v20 e20
      refine WP_goto (tgt := 60) dX2_start_107 (by decide) ?_
      exact h
    · replace h := h.2 c18
      refine WP_aload_n dX2_start_83 rfl rfl ⟨Nat.le_of_ble_eq_true rfl, Nat.le_of_ble_eq_true rfl⟩ ?_
      refine WP_aload_n dX2_start_84 rfl rfl ⟨Nat.le_of_ble_eq_true rfl, Nat.le_of_ble_eq_true rfl⟩ ?_
      refine WP_getfield (ci := 2) (j := 9) (n := 11) (t := 0) (x := μ 120 9) dX2_start_85 f_X2_48 k_120 rfl rfl ?_
      refine WP_aload_n dX2_start_88 rfl rfl ⟨Nat.le_of_ble_eq_true rfl, Nat.le_of_ble_eq_true rfl⟩ ?_
      refine WP_getfield (ci := 2) (j := 5) (n := 11) (t := 2) (x := μ 120 5) dX2_start_89 f_X2_25 k_120 rfl rfl ?_
      refine WP_getfield (ci := 6) (j := 3) (n := 7) (t := 2) (x := μ 120 5 + 3) dX2_start_92 f_X2_55 g16 rfl rfl ?_
      refine WP_iload dX2_start_95 rfl ?_
      obtain ⟨g21, h⟩ := h
      refine WP_iaload (n := 10) dX2_start_97 (kf_6_3 g16) g21 ?_
      refine WQ_mmax (by omega) dX2_start_98 l_X2_58 (Nat.le_of_ble_eq_true rfl) ?_
      refine WQ_put (ci := 2) (j := 9) (n := 11) dX2_start_101 f_X2_48 k_120 rfl (fun μ22 eμ22 => ?_)
      replace h := h μ22 eμ22
      obtain ⟨g23, h⟩ := h
      refine WQ_iinc dX2_start_104 rfl (by decide) g23 (fun v24 e24 => ?_)
      refine WP_same (L' := [(2, 120), (0, x1), (9, 0), (9, 0), (9, 0), (9, 0), (0, v24)]) rfl ?_
      replace h := h v24 e24
      refine WP_goto (tgt := 60) dX2_start_107 (by decide) ?_
      exact h

theorem s_X2_tellToo_0 {d : Nat} {sc : SC} {Q : Mem → Prop} {μ : Mem} {a1 : Int}
    (h : 0 ≤ a1 ∧ 0 ≤ a1 ∧ isK 6 (μ 120 5) ∧ CAv mX6_add d sc [(2, μ 120 5), (0, a1 % 6), (0, μ 120 0), (0, a1 / 6), (0, 10)] μ (fun μ5 => Q μ5)) :
    WQ mX2_tellToo d sc (ZV sc Q) 0 [(2, 120), (0, a1)] [] μ := by
  refine WP_aload_n dX2_tellToo_0 rfl rfl ⟨Nat.le_of_ble_eq_true rfl, Nat.le_of_ble_eq_true rfl⟩ ?_
  refine WP_getfield (ci := 2) (j := 5) (n := 11) (t := 2) (x := μ 120 5) dX2_tellToo_1 f_X2_25 k_120 rfl rfl ?_
  refine WP_iload_n dX2_tellToo_4 rfl rfl ?_
  refine WP_bipush dX2_tellToo_5 (by decide +kernel) (by decide) ?_
  obtain ⟨g1, h⟩ := h
  refine WP_irem dX2_tellToo_7 ⟨g1, by decide⟩ ?_
  refine WP_aload_n dX2_tellToo_8 rfl rfl ⟨Nat.le_of_ble_eq_true rfl, Nat.le_of_ble_eq_true rfl⟩ ?_
  refine WP_getfield (ci := 2) (j := 0) (n := 11) (t := 0) (x := μ 120 0) dX2_tellToo_9 f_X2_9 k_120 rfl rfl ?_
  refine WP_iload_n dX2_tellToo_12 rfl rfl ?_
  refine WP_bipush dX2_tellToo_13 (by decide +kernel) (by decide) ?_
  obtain ⟨g2, h⟩ := h
  refine WP_idiv dX2_tellToo_15 ⟨g2, by decide⟩ ?_
  refine WP_bipush dX2_tellToo_16 (by decide +kernel) (by decide) ?_
  obtain ⟨g3, h⟩ := h
  refine WQ_invVv (v := (2, μ 120 5)) (as := [(0, a1 % 6), (0, μ 120 0), (0, a1 / 6), (0, 10)]) dX2_tellToo_18 l_X2_104 mw_X6_add mi_X6_add ms_X6_add mo_X6_add (rcv (ci := 6) (n := 7) (r := (RX6, TX6, 7)) g3 rfl rfl) (Nat.le_of_ble_eq_true rfl) h rfl (fun μ5 h => ?_)
  exact WQ_return dX2_tellToo_21 rfl h

theorem s_X3_gapOf_0 {d : Nat} {sc : SC} {Q : Int → Mem → Prop} {μ : Mem} {a0 a1 a2 : Int} (hd2 : 2 ≤ d) (ha0 : isK 3 a0)
    (h : CAv mX3_nameTwo d sc [(2, a0), (0, a1), (0, a2)] μ (fun μ2 => isK 1 (μ2 a0 3) ∧ CAi mX1_hasLaw d sc [(2, μ2 a0 3), (0, 0)] μ2 (fun r4 μ5 => (r4 = 0 → (-2147483648 ≤ (μ5 (a0 + 4) 6) + 1 ∧ (μ5 (a0 + 4) 6) + 1 < 2147483648) ∧ (∀ v9 : Int, v9 = (μ5 (a0 + 4) 6) + 1 → Q (max 1 (min 20 v9)) μ5)) ∧ (r4 ≠ 0 → CAi mX3_work d sc [(2, a0), (0, 0)] μ5 (fun r10 μ11 => Q (max 1 (min 20 r10)) μ11))))) :
    WQ mX3_gapOf d sc (ZI sc Q) 0 [(2, a0), (0, a1), (0, a2), (9, 0)] [] μ := by
  refine WP_aload_n dX3_gapOf_0 rfl rfl ⟨Nat.le_of_ble_eq_true rfl, Nat.le_of_ble_eq_true rfl⟩ ?_
  refine WP_iload_n dX3_gapOf_1 rfl rfl ?_
  refine WP_iload_n dX3_gapOf_2 rfl rfl ?_
  refine WQ_invVv (v := (2, a0)) (as := [(0, a1), (0, a2)]) dX3_gapOf_3 l_X3_81 mw_X3_nameTwo mi_X3_nameTwo ms_X3_nameTwo mo_X3_nameTwo (rcv (ci := 3) (n := 9) (r := (RX3, TX3, 9)) ha0 rfl rfl) (Nat.le_of_ble_eq_true rfl) h rfl (fun μ2 h => ?_)
  refine WP_aload_n dX3_gapOf_6 rfl rfl ⟨Nat.le_of_ble_eq_true rfl, Nat.le_of_ble_eq_true rfl⟩ ?_
  refine WP_getfield (ci := 3) (j := 3) (n := 9) (t := 2) (x := μ2 a0 3) dX3_gapOf_7 f_X3_34 ha0 rfl rfl ?_
  refine WP_iconst dX3_gapOf_10 (by decide) ?_
  obtain ⟨g3, h⟩ := h
  refine WQ_invVi (v := (2, μ2 a0 3)) (as := [(0, 0)]) dX3_gapOf_11 l_X3_62 mw_X1_hasLaw mi_X1_hasLaw ms_X1_hasLaw mo_X1_hasLaw (rcv (ci := 1) (n := 11) (r := (RX1, TX1, 11)) g3 rfl rfl) (Nat.le_of_ble_eq_true rfl) h rfl (fun r4 μ5 h => ?_)
  refine WQ_ifeq (tgt := 25) dX3_gapOf_14 (by decide) (fun c6 => ?_) (fun c6 => ?_)
  · replace h := h.1 c6
    refine WP_aload_n dX3_gapOf_25 rfl rfl ⟨Nat.le_of_ble_eq_true rfl, Nat.le_of_ble_eq_true rfl⟩ ?_
    refine WP_getfield (ci := 3) (j := 5) (n := 9) (t := 2) (x := a0 + 4) dX3_gapOf_26 f_X3_21 ha0 rfl rfl ?_
    refine WP_bipush dX3_gapOf_29 (by decide +kernel) (by decide) ?_
    refine WP_iaload (n := 9) dX3_gapOf_31 (kf_3_5 ha0) ⟨by decide, by decide⟩ ?_
    refine WP_iconst dX3_gapOf_32 (by decide) ?_
    obtain ⟨g8, h⟩ := h
    refine WP_iadd dX3_gapOf_33 g8 ?_
    refine WQ_nm0 (fun v9 e9 => ?_)
    replace h := h v9 e9
    refine WP_istore_n (L' := [(2, a0), (0, a1), (0, a2), (0, v9)]) dX3_gapOf_34 rfl (by decide) rfl ?_
    refine WP_iconst dX3_gapOf_35 (by decide) ?_
    refine WP_bipush dX3_gapOf_36 (by decide +kernel) (by decide) ?_
    refine WP_iload_n dX3_gapOf_38 rfl rfl ?_
    refine WQ_mmin (by omega) dX3_gapOf_39 l_X3_73 (Nat.le_of_ble_eq_true rfl) ?_
    refine WQ_mmax (by omega) dX3_gapOf_42 l_X3_78 (Nat.le_of_ble_eq_true rfl) ?_
    exact WQ_ireturn dX3_gapOf_45 rfl h
  · replace h := h.2 c6
    refine WP_aload_n dX3_gapOf_17 rfl rfl ⟨Nat.le_of_ble_eq_true rfl, Nat.le_of_ble_eq_true rfl⟩ ?_
    refine WP_iconst dX3_gapOf_18 (by decide) ?_
    refine WQ_invVi (v := (2, a0)) (as := [(0, 0)]) dX3_gapOf_19 l_X3_66 mw_X3_work mi_X3_work ms_X3_work mo_X3_work (rcv (ci := 3) (n := 9) (r := (RX3, TX3, 9)) ha0 rfl rfl) (Nat.le_of_ble_eq_true rfl) h rfl (fun r10 μ11 h => ?_)
    refine WP_goto (tgt := 34) dX3_gapOf_22 (by decide) ?_
    refine WP_istore_n (L' := [(2, a0), (0, a1), (0, a2), (0, r10)]) dX3_gapOf_34 rfl (by decide) rfl ?_
    refine WP_iconst dX3_gapOf_35 (by decide) ?_
    refine WP_bipush dX3_gapOf_36 (by decide +kernel) (by decide) ?_
    refine WP_iload_n dX3_gapOf_38 rfl rfl ?_
    refine WQ_mmin (by omega) dX3_gapOf_39 l_X3_73 (Nat.le_of_ble_eq_true rfl) ?_
    refine WQ_mmax (by omega) dX3_gapOf_42 l_X3_78 (Nat.le_of_ble_eq_true rfl) ?_
    exact WQ_ireturn dX3_gapOf_45 rfl h

theorem s_X3_isAnswered_0 {d : Nat} {sc : SC} {Q : Int → Mem → Prop} {μ : Mem} {a0 a1 a2 : Int} (ha0 : isK 3 a0)
    (h : isK 1 (μ a0 3) ∧ CAi mX1_hasLaw d sc [(2, μ a0 3), (0, 2)] μ (fun r2 μ3 => (r2 ≠ 0 → (-2147483648 ≤ 2 * a1 ∧ 2 * a1 < 2147483648) ∧ (-2147483648 ≤ (2 * a1) + (iShr a2 6) ∧ (2 * a1) + (iShr a2 6) < 2147483648) ∧ (∀ v7 : Int, v7 = (2 * a1) + (iShr a2 6) → ∀ v8 : Int, v8 = lShl 1 (iAnd a2 63) → (0 ≤ v7 ∧ v7 < 72) ∧ (lAnd (μ3 (a0 + 6) v7) v8 ≠ 0 → WQ mX3_isAnswered d sc (ZI sc Q) 111 [(2, a0), (9, 0), (9, 0), (0, v7), (1, v8), (9, 0)] [] μ3) ∧ (lAnd (μ3 (a0 + 6) v7) v8 = 0 → 0 ≤ a1 ∧ 0 ≤ a1 ∧ CAv mX3_nameTwo d sc [(2, a0), (0, a1 / 6), (0, a1 % 6)] μ3 (fun μ14 => (0 ≤ a1 ∧ a1 < 36) ∧ (∀ μ17, μ17 = mup μ14 (a0 + 4) 7 (μ14 (a0 + 2) a1) → ∀ μ19, μ19 = mup μ17 (a0 + 4) 8 a2 → (0 ≤ v7 ∧ v7 < 72) ∧ (0 ≤ v7 ∧ v7 < 72) ∧ (∀ μ22, μ22 = mup μ19 (a0 + 6) v7 (lOr (μ19 (a0 + 6) v7) v8) → (0 ≤ v7 ∧ v7 < 72) ∧ CAi mX3_work d sc [(2, a0), (0, 2)] μ22 (fun r24 μ25 => (r24 = 0 → (0 ≤ v7 ∧ v7 < 72) ∧ (∀ μ28, μ28 = mup μ25 (a0 + 7) v7 (lOr (μ22 (a0 + 7) v7) 0) → WQ mX3_isAnswered d sc (ZI sc Q) 111 [(2, a0), (9, 0), (9, 0), (0, v7), (1, v8), (9, 0)] [] μ28)) ∧ (r24 ≠ 0 → (0 ≤ v7 ∧ v7 < 72) ∧ (∀ μ30, μ30 = mup μ25 (a0 + 7) v7 (lOr (μ22 (a0 + 7) v7) v8) → WQ mX3_isAnswered d sc (ZI sc Q) 111 [(2, a0), (9, 0), (9, 0), (0, v7), (1, v8), (9, 0)] [] μ30))))))))) ∧ (r2 = 0 → Q 0 μ3))) :
    WQ mX3_isAnswered d sc (ZI sc Q) 0 [(2, a0), (0, a1), (0, a2), (9, 0), (9, 0), (9, 0)] [] μ := by
  refine WP_aload_n dX3_isAnswered_0 rfl rfl ⟨Nat.le_of_ble_eq_true rfl, Nat.le_of_ble_eq_true rfl⟩ ?_
  refine WP_getfield (ci := 3) (j := 3) (n := 9) (t := 2) (x := μ a0 3) dX3_isAnswered_1 f_X3_34 ha0 rfl rfl ?_
  refine WP_iconst dX3_isAnswered_4 (by decide) ?_
  obtain ⟨g1, h⟩ := h
  refine WQ_invVi (v := (2, μ a0 3)) (as := [(0, 2)]) dX3_isAnswered_5 l_X3_62 mw_X1_hasLaw mi_X1_hasLaw ms_X1_hasLaw mo_X1_hasLaw (rcv (ci := 1) (n := 11) (r := (RX1, TX1, 11)) g1 rfl rfl) (Nat.le_of_ble_eq_true rfl) h rfl (fun r2 μ3 h => ?_)
  refine WQ_ifne (tgt := 13) dX3_isAnswered_8 (by decide) (fun c4 => ?_) (fun c4 => ?_)
  · replace h := h.1 c4
    refine WP_iconst dX3_isAnswered_13 (by decide) ?_
    refine WP_iload_n dX3_isAnswered_14 rfl rfl ?_
    obtain ⟨g5, h⟩ := h
    refine WP_imul dX3_isAnswered_15 g5 ?_
    refine WP_iload_n dX3_isAnswered_16 rfl rfl ?_
    refine WP_bipush dX3_isAnswered_17 (by decide +kernel) (by decide) ?_
    refine WP_ishr dX3_isAnswered_19 ?_
    obtain ⟨g6, h⟩ := h
    refine WP_iadd dX3_isAnswered_20 g6 ?_
    refine WQ_nm0 (fun v7 e7 => ?_)
    replace h := h v7 e7
    refine WP_istore_n (L' := [(2, a0), (0, a1), (0, a2), (0, v7), (9, 0), (9, 0)]) dX3_isAnswered_21 rfl (by decide) rfl ?_
    refine WP_lconst dX3_isAnswered_22 rfl ?_
    refine WP_iload_n dX3_isAnswered_23 rfl rfl ?_
    refine WP_bipush dX3_isAnswered_24 (by decide +kernel) (by decide) ?_
    refine WP_iand dX3_isAnswered_26 ?_
    refine WP_lshl dX3_isAnswered_27 ?_
    refine WQ_nm1 (fun v8 e8 => ?_)
    replace h := h v8 e8
    refine WP_lstore (L' := [(2, a0), (0, a1), (0, a2), (0, v7), (1, v8), (9, 0)]) dX3_isAnswered_28 (by decide) rfl ?_
    refine WP_aload_n dX3_isAnswered_30 rfl rfl ⟨Nat.le_of_ble_eq_true rfl, Nat.le_of_ble_eq_true rfl⟩ ?_
    refine WP_getfield (ci := 3) (j := 7) (n := 9) (t := 2) (x := a0 + 6) dX3_isAnswered_31 f_X3_27 ha0 rfl rfl ?_
    refine WP_iload_n dX3_isAnswered_34 rfl rfl ?_
    obtain ⟨g9, h⟩ := h
    refine WP_laload (n := 72) dX3_isAnswered_35 (kf_3_7 ha0) g9 ?_
    refine WP_lload dX3_isAnswered_36 rfl ?_
    refine WP_land dX3_isAnswered_38 ?_
    refine WP_lconst dX3_isAnswered_39 rfl ?_
    refine WQ_lifne (tgt := 111) dX3_isAnswered_40 dX3_isAnswered_41 (by decide) (fun c10 => ?_) (fun c10 => ?_)
    · replace h := h.1 c10
      refine WP_lforget (L' := [(2, a0), (9, 0), (9, 0), (0, v7), (1, v8), (9, 0)]) rfl (fun i hi => ?_) h
      match i, hi with
      | 0, _ => exact Or.inl rfl
      | 1, _ => exact Or.inr rfl
      | 2, _ => exact Or.inr rfl
      | 3, _ => exact Or.inl rfl
      | 4, _ => exact Or.inl rfl
      | 5, _ => exact Or.inl rfl
      | i + 6, hi => exact absurd hi (by simp only [List.length_cons, List.length_nil]; omega)
    · replace h := h.2 c10
      refine WP_aload_n dX3_isAnswered_44 rfl rfl ⟨Nat.le_of_ble_eq_true rfl, Nat.le_of_ble_eq_true rfl⟩ ?_
      refine WP_iload_n dX3_isAnswered_45 rfl rfl ?_
      refine WP_bipush dX3_isAnswered_46 (by decide +kernel) (by decide) ?_
      obtain ⟨g11, h⟩ := h
      refine WP_idiv dX3_isAnswered_48 ⟨g11, by decide⟩ ?_
      refine WP_iload_n dX3_isAnswered_49 rfl rfl ?_
      refine WP_bipush dX3_isAnswered_50 (by decide +kernel) (by decide) ?_
      obtain ⟨g12, h⟩ := h
      refine WP_irem dX3_isAnswered_52 ⟨g12, by decide⟩ ?_
      refine WQ_invVv (v := (2, a0)) (as := [(0, a1 / 6), (0, a1 % 6)]) dX3_isAnswered_53 l_X3_81 mw_X3_nameTwo mi_X3_nameTwo ms_X3_nameTwo mo_X3_nameTwo (rcv (ci := 3) (n := 9) (r := (RX3, TX3, 9)) ha0 rfl rfl) (Nat.le_of_ble_eq_true rfl) h rfl (fun μ14 h => ?_)
      refine WP_aload_n dX3_isAnswered_56 rfl rfl ⟨Nat.le_of_ble_eq_true rfl, Nat.le_of_ble_eq_true rfl⟩ ?_
      refine WP_getfield (ci := 3) (j := 5) (n := 9) (t := 2) (x := a0 + 4) dX3_isAnswered_57 f_X3_21 ha0 rfl rfl ?_
      refine WP_bipush dX3_isAnswered_60 (by decide +kernel) (by decide) ?_
      refine WP_aload_n dX3_isAnswered_62 rfl rfl ⟨Nat.le_of_ble_eq_true rfl, Nat.le_of_ble_eq_true rfl⟩ ?_
      refine WP_getfield (ci := 3) (j := 1) (n := 9) (t := 2) (x := a0 + 2) dX3_isAnswered_63 f_X3_15 ha0 rfl rfl ?_
      refine WP_iload_n dX3_isAnswered_66 rfl rfl ?_
      obtain ⟨g15, h⟩ := h
      refine WP_iaload (n := 36) dX3_isAnswered_67 (kf_3_1 ha0) g15 ?_
      refine WQ_iast (n := 9) dX3_isAnswered_68 (kf_3_5 ha0) ⟨by decide, by decide⟩ (fun μ17 eμ17 => ?_)
      replace h := h μ17 eμ17
      refine WP_aload_n dX3_isAnswered_69 rfl rfl ⟨Nat.le_of_ble_eq_true rfl, Nat.le_of_ble_eq_true rfl⟩ ?_
      refine WP_getfield (ci := 3) (j := 5) (n := 9) (t := 2) (x := a0 + 4) dX3_isAnswered_70 f_X3_21 ha0 rfl rfl ?_
      refine WP_bipush dX3_isAnswered_73 (by decide +kernel) (by decide) ?_
      refine WP_iload_n dX3_isAnswered_75 rfl rfl ?_
      refine WQ_iast (n := 9) dX3_isAnswered_76 (kf_3_5 ha0) ⟨by decide, by decide⟩ (fun μ19 eμ19 => ?_)
      replace h := h μ19 eμ19
      refine WP_aload_n dX3_isAnswered_77 rfl rfl ⟨Nat.le_of_ble_eq_true rfl, Nat.le_of_ble_eq_true rfl⟩ ?_
      refine WP_getfield (ci := 3) (j := 7) (n := 9) (t := 2) (x := a0 + 6) dX3_isAnswered_78 f_X3_27 ha0 rfl rfl ?_
      refine WP_iload_n dX3_isAnswered_81 rfl rfl ?_
      refine WP_dup2 dX3_isAnswered_82 (by simp) (by simp) ?_
      obtain ⟨g20, h⟩ := h
      refine WP_laload (n := 72) dX3_isAnswered_83 (kf_3_7 ha0) g20 ?_
      refine WP_lload dX3_isAnswered_84 rfl ?_
      refine WP_lor dX3_isAnswered_86 ?_
      obtain ⟨g21, h⟩ := h
      refine WQ_last (n := 72) dX3_isAnswered_87 (kf_3_7 ha0) g21 (fun μ22 eμ22 => ?_)
      replace h := h μ22 eμ22
      refine WP_aload_n dX3_isAnswered_88 rfl rfl ⟨Nat.le_of_ble_eq_true rfl, Nat.le_of_ble_eq_true rfl⟩ ?_
      refine WP_getfield (ci := 3) (j := 8) (n := 9) (t := 2) (x := a0 + 7) dX3_isAnswered_89 f_X3_31 ha0 rfl rfl ?_
      refine WP_iload_n dX3_isAnswered_92 rfl rfl ?_
      refine WP_dup2 dX3_isAnswered_93 (by simp) (by simp) ?_
      obtain ⟨g23, h⟩ := h
      refine WP_laload (n := 72) dX3_isAnswered_94 (kf_3_8 ha0) g23 ?_
      refine WP_aload_n dX3_isAnswered_95 rfl rfl ⟨Nat.le_of_ble_eq_true rfl, Nat.le_of_ble_eq_true rfl⟩ ?_
      refine WP_iconst dX3_isAnswered_96 (by decide) ?_
      refine WQ_invVi (v := (2, a0)) (as := [(0, 2)]) dX3_isAnswered_97 l_X3_66 mw_X3_work mi_X3_work ms_X3_work mo_X3_work (rcv (ci := 3) (n := 9) (r := (RX3, TX3, 9)) ha0 rfl rfl) (Nat.le_of_ble_eq_true rfl) h rfl (fun r24 μ25 h => ?_)
      refine WQ_ifeq (tgt := 108) dX3_isAnswered_100 (by decide) (fun c26 => ?_) (fun c26 => ?_)
      · replace h := h.1 c26
        refine WP_lconst dX3_isAnswered_108 rfl ?_
        refine WP_lor dX3_isAnswered_109 ?_
        obtain ⟨g27, h⟩ := h
        refine WQ_last (n := 72) dX3_isAnswered_110 (kf_3_8 ha0) g27 (fun μ28 eμ28 => ?_)
        replace h := h μ28 eμ28
        refine WP_lforget (L' := [(2, a0), (9, 0), (9, 0), (0, v7), (1, v8), (9, 0)]) rfl (fun i hi => ?_) h
        match i, hi with
        | 0, _ => exact Or.inl rfl
        | 1, _ => exact Or.inr rfl
        | 2, _ => exact Or.inr rfl
        | 3, _ => exact Or.inl rfl
        | 4, _ => exact Or.inl rfl
        | 5, _ => exact Or.inl rfl
        | i + 6, hi => exact absurd hi (by simp only [List.length_cons, List.length_nil]; omega)
      · replace h := h.2 c26
        refine WP_lload dX3_isAnswered_103 rfl ?_
        refine WP_goto (tgt := 109) dX3_isAnswered_105 (by decide) ?_
        refine WP_lor dX3_isAnswered_109 ?_
        obtain ⟨g29, h⟩ := h
        refine WQ_last (n := 72) dX3_isAnswered_110 (kf_3_8 ha0) g29 (fun μ30 eμ30 => ?_)
        replace h := h μ30 eμ30
        refine WP_lforget (L' := [(2, a0), (9, 0), (9, 0), (0, v7), (1, v8), (9, 0)]) rfl (fun i hi => ?_) h
        match i, hi with
        | 0, _ => exact Or.inl rfl
        | 1, _ => exact Or.inr rfl
        | 2, _ => exact Or.inr rfl
        | 3, _ => exact Or.inl rfl
        | 4, _ => exact Or.inl rfl
        | 5, _ => exact Or.inl rfl
        | i + 6, hi => exact absurd hi (by simp only [List.length_cons, List.length_nil]; omega)
  · replace h := h.2 c4
    refine WP_iconst dX3_isAnswered_11 (by decide) ?_
    exact WQ_zreturn dX3_isAnswered_12 rfl ⟨by decide, by decide⟩ h

theorem s_X3_isAnswered_111 {d : Nat} {sc : SC} {Q : Int → Mem → Prop} {μ : Mem} {x0 x3 x4 : Int} (hx0 : isK 3 x0)
    (h : (0 ≤ x3 ∧ x3 < 72) ∧ (lAnd (μ (x0 + 7) x3) x4 = 0 → Q 0 μ) ∧ (lAnd (μ (x0 + 7) x3) x4 ≠ 0 → Q 1 μ)) :
    WQ mX3_isAnswered d sc (ZI sc Q) 111 [(2, x0), (9, 0), (9, 0), (0, x3), (1, x4), (9, 0)] [] μ := by
  refine WP_aload_n dX3_isAnswered_111 rfl rfl ⟨Nat.le_of_ble_eq_true rfl, Nat.le_of_ble_eq_true rfl⟩ ?_
  refine WP_getfield (ci := 3) (j := 8) (n := 9) (t := 2) (x := x0 + 7) dX3_isAnswered_112 f_X3_31 hx0 rfl rfl ?_
  refine WP_iload_n dX3_isAnswered_115 rfl rfl ?_
  obtain ⟨g1, h⟩ := h
  refine WP_laload (n := 72) dX3_isAnswered_116 (kf_3_8 hx0) g1 ?_
  refine WP_lload dX3_isAnswered_117 rfl ?_
  refine WP_land dX3_isAnswered_119 ?_
  refine WP_lconst dX3_isAnswered_120 rfl ?_
  refine WQ_lifeq (tgt := 129) dX3_isAnswered_121 dX3_isAnswered_122 (by decide) (fun c2 => ?_) (fun c2 => ?_)
  · replace h := h.1 c2
    refine WP_iconst dX3_isAnswered_129 (by decide) ?_
    exact WQ_zreturn dX3_isAnswered_130 rfl ⟨by decide, by decide⟩ h
  · replace h := h.2 c2
    refine WP_iconst dX3_isAnswered_125 (by decide) ?_
    refine WP_goto (tgt := 130) dX3_isAnswered_126 (by decide) ?_
    exact WQ_zreturn dX3_isAnswered_130 rfl ⟨by decide, by decide⟩ h

theorem s_X3_learn_0 {d : Nat} {sc : SC} {Q : Mem → Prop} {μ : Mem} {a0 a1 a2 : Int} (ha0 : isK 3 a0) (ha1 : isK 1 a1) (ha2 : isK 6 a2)
    (h : CAv mX3_take d sc [(2, a0), (2, a1), (2, a2)] μ (fun μ2 => WQ mX3_learn d sc (ZV sc Q) 8 [(2, a0), (9, 0), (9, 0), (0, 0), (9, 0), (9, 0), (9, 0)] [] μ2)) :
    WQ mX3_learn d sc (ZV sc Q) 0 [(2, a0), (2, a1), (2, a2), (9, 0), (9, 0), (9, 0), (9, 0)] [] μ := by
  refine WP_aload_n dX3_learn_0 rfl rfl ⟨Nat.le_of_ble_eq_true rfl, Nat.le_of_ble_eq_true rfl⟩ ?_
  refine WP_aload_n dX3_learn_1 rfl rfl ⟨Nat.le_of_ble_eq_true rfl, Nat.le_of_ble_eq_true rfl⟩ ?_
  refine WP_aload_n dX3_learn_2 rfl rfl ⟨Nat.le_of_ble_eq_true rfl, Nat.le_of_ble_eq_true rfl⟩ ?_
  refine WQ_invVv (v := (2, a0)) (as := [(2, a1), (2, a2)]) dX3_learn_3 l_X3_48 mw_X3_take mi_X3_take ms_X3_take mo_X3_take (rcv (ci := 3) (n := 9) (r := (RX3, TX3, 9)) ha0 rfl rfl) (Nat.le_of_ble_eq_true rfl) h rfl (fun μ2 h => ?_)
  refine WP_iconst dX3_learn_6 (by decide) ?_
  refine WP_istore_n (L' := [(2, a0), (2, a1), (2, a2), (0, 0), (9, 0), (9, 0), (9, 0)]) dX3_learn_7 rfl (by decide) rfl ?_
  refine WP_lforget (L' := [(2, a0), (9, 0), (9, 0), (0, 0), (9, 0), (9, 0), (9, 0)]) rfl (fun i hi => ?_) h
  match i, hi with
  | 0, _ => exact Or.inl rfl
  | 1, _ => exact Or.inr rfl
  | 2, _ => exact Or.inr rfl
  | 3, _ => exact Or.inl rfl
  | 4, _ => exact Or.inl rfl
  | 5, _ => exact Or.inl rfl
  | 6, _ => exact Or.inl rfl
  | i + 7, hi => exact absurd hi (by simp only [List.length_cons, List.length_nil]; omega)

theorem s_X3_learn_8 {d : Nat} {sc : SC} {Q : Mem → Prop} {μ : Mem} {x0 x3 : Int} (hx0 : isK 3 x0)
    (h : isK 1 (μ x0 3) ∧ (μ (μ x0 3) 3 ≤ x3 → Q μ) ∧ (x3 < μ (μ x0 3) 3 → WQ mX3_learn d sc (ZV sc Q) 22 [(2, x0), (9, 0), (9, 0), (0, x3), (0, 0), (9, 0), (9, 0)] [] μ)) :
    WQ mX3_learn d sc (ZV sc Q) 8 [(2, x0), (9, 0), (9, 0), (0, x3), (9, 0), (9, 0), (9, 0)] [] μ := by
  refine WP_iload_n dX3_learn_8 rfl rfl ?_
  refine WP_aload_n dX3_learn_9 rfl rfl ⟨Nat.le_of_ble_eq_true rfl, Nat.le_of_ble_eq_true rfl⟩ ?_
  refine WP_getfield (ci := 3) (j := 3) (n := 9) (t := 2) (x := μ x0 3) dX3_learn_10 f_X3_34 hx0 rfl rfl ?_
  obtain ⟨g1, h⟩ := h
  refine WP_getfield (ci := 1) (j := 3) (n := 11) (t := 0) (x := μ (μ x0 3) 3) dX3_learn_13 f_X3_52 g1 rfl rfl ?_
  refine WQ_icmp_ge (tgt := 137) dX3_learn_16 (by decide) (fun c2 => ?_) (fun c2 => ?_)
  · replace h := h.1 c2
    exact WQ_return dX3_learn_137 rfl h
  · replace h := h.2 c2
    refine WP_iconst dX3_learn_19 (by decide) ?_
    refine WP_istore (L' := [(2, x0), (9, 0), (9, 0), (0, x3), (0, 0), (9, 0), (9, 0)]) dX3_learn_20 (by decide) rfl ?_
    exact h

theorem s_X3_learn_22 {d : Nat} {sc : SC} {Q : Mem → Prop} {μ : Mem} {x0 x3 x4 : Int} (hd2 : 2 ≤ d) (hx0 : isK 3 x0)
    (h : isK 1 (μ x0 3) ∧ (μ (μ x0 3) 3 ≤ x4 → (-2147483648 ≤ x3 + 1 ∧ x3 + 1 < 2147483648) ∧ ∀ v4 : Int, v4 = x3 + 1 → WQ mX3_learn d sc (ZV sc Q) 8 [(2, x0), (9, 0), (9, 0), (0, v4), (9, 0), (9, 0), (9, 0)] [] μ) ∧ (x4 < μ (μ x0 3) 3 → (x3 = x4 → (-2147483648 ≤ x4 + 1 ∧ x4 + 1 < 2147483648) ∧ ∀ v7 : Int, v7 = x4 + 1 → WQ mX3_learn d sc (ZV sc Q) 22 [(2, x0), (9, 0), (9, 0), (0, x3), (0, v7), (9, 0), (9, 0)] [] μ) ∧ (x3 ≠ x4 → (-2147483648 ≤ x3 * 6 ∧ x3 * 6 < 2147483648) ∧ (-2147483648 ≤ (x3 * 6) + x4 ∧ (x3 * 6) + x4 < 2147483648) ∧ (∀ v10 : Int, v10 = (x3 * 6) + x4 → CAi mX3_gapOf d sc [(2, x0), (0, x3), (0, x4)] μ (fun r11 μ12 => (0 ≤ v10 ∧ v10 < 36) ∧ (∀ μ14, μ14 = mup μ12 (x0 + 2) v10 r11 → (0 ≤ v10 ∧ v10 < 36) ∧ (∀ μ17, μ17 = mup μ14 (x0 + 1) v10 (μ14 (x0 + 4) 6) → isK 1 (μ17 x0 3) ∧ CAi mX1_hasLaw d sc [(2, μ17 x0 3), (0, 1)] μ17 (fun r19 μ20 => (r19 = 0 → isK 1 (μ20 x0 3) ∧ (0 ≤ x3 ∧ x3 < 6) ∧ (∀ v24 : Int, v24 = μ20 (μ20 x0 3 + 3) x3 → (0 ≤ v10 ∧ v10 < 36) ∧ (∀ μ26, μ26 = mup μ20 (x0 + 3) v10 (max 0 (min 9 v24)) → (-2147483648 ≤ x4 + 1 ∧ x4 + 1 < 2147483648) ∧ ∀ v28 : Int, v28 = x4 + 1 → WQ mX3_learn d sc (ZV sc Q) 22 [(2, x0), (9, 0), (9, 0), (0, x3), (0, v28), (9, 0), (9, 0)] [] μ26))) ∧ (r19 ≠ 0 → CAi mX3_work d sc [(2, x0), (0, 1)] μ20 (fun r29 μ30 => (0 ≤ v10 ∧ v10 < 36) ∧ (∀ μ32, μ32 = mup μ30 (x0 + 3) v10 (max 0 (min 9 r29)) → (-2147483648 ≤ x4 + 1 ∧ x4 + 1 < 2147483648) ∧ ∀ v34 : Int, v34 = x4 + 1 → WQ mX3_learn d sc (ZV sc Q) 22 [(2, x0), (9, 0), (9, 0), (0, x3), (0, v34), (9, 0), (9, 0)] [] μ32))))))))))) :
    WQ mX3_learn d sc (ZV sc Q) 22 [(2, x0), (9, 0), (9, 0), (0, x3), (0, x4), (9, 0), (9, 0)] [] μ := by
  refine WP_iload dX3_learn_22 rfl ?_
  refine WP_aload_n dX3_learn_24 rfl rfl ⟨Nat.le_of_ble_eq_true rfl, Nat.le_of_ble_eq_true rfl⟩ ?_
  refine WP_getfield (ci := 3) (j := 3) (n := 9) (t := 2) (x := μ x0 3) dX3_learn_25 f_X3_34 hx0 rfl rfl ?_
  obtain ⟨g1, h⟩ := h
  refine WP_getfield (ci := 1) (j := 3) (n := 11) (t := 0) (x := μ (μ x0 3) 3) dX3_learn_28 f_X3_52 g1 rfl rfl ?_
  refine WQ_icmp_ge (tgt := 131) dX3_learn_31 (by decide) (fun c2 => ?_) (fun c2 => ?_)
  · replace h := h.1 c2
    obtain ⟨g3, h⟩ := h
    refine WQ_iinc dX3_learn_131 rfl (by decide) g3 (fun v4 e4 => ?_)
    refine WP_same (L' := [(2, x0), (9, 0), (9, 0), (0, v4), (0, x4), (9, 0), (9, 0)]) rfl ?_
    replace h := h v4 e4
    refine WP_goto (tgt := 8) dX3_learn_134 (by decide) ?_
    refine WP_lforget (L' := [(2, x0), (9, 0), (9, 0), (0, v4), (9, 0), (9, 0), (9, 0)]) rfl (fun i hi => ?_) h
    match i, hi with
    | 0, _ => exact Or.inl rfl
    | 1, _ => exact Or.inl rfl
    | 2, _ => exact Or.inl rfl
    | 3, _ => exact Or.inl rfl
    | 4, _ => exact Or.inr rfl
    | 5, _ => exact Or.inl rfl
    | 6, _ => exact Or.inl rfl
    | i + 7, hi => exact absurd hi (by simp only [List.length_cons, List.length_nil]; omega)
  · replace h := h.2 c2
    refine WP_iload_n dX3_learn_34 rfl rfl ?_
    refine WP_iload dX3_learn_35 rfl ?_
    refine WQ_icmp_eq (tgt := 125) dX3_learn_37 (by decide) (fun c5 => ?_) (fun c5 => ?_)
    · replace h := h.1 c5
      obtain ⟨g6, h⟩ := h
      refine WQ_iinc dX3_learn_125 rfl (by decide) g6 (fun v7 e7 => ?_)
      refine WP_same (L' := [(2, x0), (9, 0), (9, 0), (0, x3), (0, v7), (9, 0), (9, 0)]) rfl ?_
      replace h := h v7 e7
      refine WP_goto (tgt := 22) dX3_learn_128 (by decide) ?_
      exact h
    · replace h := h.2 c5
      refine WP_iload_n dX3_learn_40 rfl rfl ?_
      refine WP_bipush dX3_learn_41 (by decide +kernel) (by decide) ?_
      obtain ⟨g8, h⟩ := h
      refine WP_imul dX3_learn_43 g8 ?_
      refine WP_iload dX3_learn_44 rfl ?_
      obtain ⟨g9, h⟩ := h
      refine WP_iadd dX3_learn_46 g9 ?_
      refine WQ_nm0 (fun v10 e10 => ?_)
      replace h := h v10 e10
      refine WP_istore (L' := [(2, x0), (9, 0), (9, 0), (0, x3), (0, x4), (0, v10), (9, 0)]) dX3_learn_47 (by decide) rfl ?_
      refine WP_aload_n dX3_learn_49 rfl rfl ⟨Nat.le_of_ble_eq_true rfl, Nat.le_of_ble_eq_true rfl⟩ ?_
      refine WP_getfield (ci := 3) (j := 1) (n := 9) (t := 2) (x := x0 + 2) dX3_learn_50 f_X3_15 hx0 rfl rfl ?_
      refine WP_iload dX3_learn_53 rfl ?_
      refine WP_aload_n dX3_learn_55 rfl rfl ⟨Nat.le_of_ble_eq_true rfl, Nat.le_of_ble_eq_true rfl⟩ ?_
      refine WP_iload_n dX3_learn_56 rfl rfl ?_
      refine WP_iload dX3_learn_57 rfl ?_
      refine WQ_invVi (v := (2, x0)) (as := [(0, x3), (0, x4)]) dX3_learn_59 l_X3_58 mw_X3_gapOf mi_X3_gapOf ms_X3_gapOf mo_X3_gapOf (rcv (ci := 3) (n := 9) (r := (RX3, TX3, 9)) hx0 rfl rfl) (Nat.le_of_ble_eq_true rfl) h rfl (fun r11 μ12 h => ?_)
      obtain ⟨g13, h⟩ := h
      refine WQ_iast (n := 36) dX3_learn_62 (kf_3_1 hx0) g13 (fun μ14 eμ14 => ?_)
      replace h := h μ14 eμ14
      refine WP_aload_n dX3_learn_63 rfl rfl ⟨Nat.le_of_ble_eq_true rfl, Nat.le_of_ble_eq_true rfl⟩ ?_
      refine WP_getfield (ci := 3) (j := 0) (n := 9) (t := 2) (x := x0 + 1) dX3_learn_64 f_X3_9 hx0 rfl rfl ?_
      refine WP_iload dX3_learn_67 rfl ?_
      refine WP_aload_n dX3_learn_69 rfl rfl ⟨Nat.le_of_ble_eq_true rfl, Nat.le_of_ble_eq_true rfl⟩ ?_
      refine WP_getfield (ci := 3) (j := 5) (n := 9) (t := 2) (x := x0 + 4) dX3_learn_70 f_X3_21 hx0 rfl rfl ?_
      refine WP_bipush dX3_learn_73 (by decide +kernel) (by decide) ?_
      refine WP_iaload (n := 9) dX3_learn_75 (kf_3_5 hx0) ⟨by decide, by decide⟩ ?_
      obtain ⟨g16, h⟩ := h
      refine WQ_iast (n := 36) dX3_learn_76 (kf_3_0 hx0) g16 (fun μ17 eμ17 => ?_)
      replace h := h μ17 eμ17
      refine WP_aload_n dX3_learn_77 rfl rfl ⟨Nat.le_of_ble_eq_true rfl, Nat.le_of_ble_eq_true rfl⟩ ?_
      refine WP_getfield (ci := 3) (j := 3) (n := 9) (t := 2) (x := μ17 x0 3) dX3_learn_78 f_X3_34 hx0 rfl rfl ?_
      refine WP_iconst dX3_learn_81 (by decide) ?_
      obtain ⟨g18, h⟩ := h
      refine WQ_invVi (v := (2, μ17 x0 3)) (as := [(0, 1)]) dX3_learn_82 l_X3_62 mw_X1_hasLaw mi_X1_hasLaw ms_X1_hasLaw mo_X1_hasLaw (rcv (ci := 1) (n := 11) (r := (RX1, TX1, 11)) g18 rfl rfl) (Nat.le_of_ble_eq_true rfl) h rfl (fun r19 μ20 h => ?_)
      refine WQ_ifeq (tgt := 96) dX3_learn_85 (by decide) (fun c21 => ?_) (fun c21 => ?_)
      · replace h := h.1 c21
        refine WP_aload_n dX3_learn_96 rfl rfl ⟨Nat.le_of_ble_eq_true rfl, Nat.le_of_ble_eq_true rfl⟩ ?_
        refine WP_getfield (ci := 3) (j := 3) (n := 9) (t := 2) (x := μ20 x0 3) dX3_learn_97 f_X3_34 hx0 rfl rfl ?_
        obtain ⟨g22, h⟩ := h
        refine WP_getfield (ci := 1) (j := 6) (n := 11) (t := 2) (x := μ20 x0 3 + 3) dX3_learn_100 f_X3_70 g22 rfl rfl ?_
        refine WP_iload_n dX3_learn_103 rfl rfl ?_
        obtain ⟨g23, h⟩ := h
        refine WP_iaload (n := 6) dX3_learn_104 (kf_1_6 g22) g23 ?_
        refine WQ_nm0 (fun v24 e24 => ?_)
        replace h := h v24 e24
        refine WP_istore (L' := [(2, x0), (9, 0), (9, 0), (0, x3), (0, x4), (0, v10), (0, v24)]) dX3_learn_105 (by decide) rfl ?_
        refine WP_aload_n dX3_learn_107 rfl rfl ⟨Nat.le_of_ble_eq_true rfl, Nat.le_of_ble_eq_true rfl⟩ ?_
        refine WP_getfield (ci := 3) (j := 2) (n := 9) (t := 2) (x := x0 + 3) dX3_learn_108 f_X3_18 hx0 rfl rfl ?_
        refine WP_iload dX3_learn_111 rfl ?_
        refine WP_iconst dX3_learn_113 (by decide) ?_
        refine WP_bipush dX3_learn_114 (by decide +kernel) (by decide) ?_
        refine WP_iload dX3_learn_116 rfl ?_
        refine WQ_mmin (by omega) dX3_learn_118 l_X3_73 (Nat.le_of_ble_eq_true rfl) ?_
        refine WQ_mmax (by omega) dX3_learn_121 l_X3_78 (Nat.le_of_ble_eq_true rfl) ?_
        obtain ⟨g25, h⟩ := h
        refine WQ_iast (n := 36) dX3_learn_124 (kf_3_2 hx0) g25 (fun μ26 eμ26 => ?_)
        replace h := h μ26 eμ26
        obtain ⟨g27, h⟩ := h
        refine WQ_iinc dX3_learn_125 rfl (by decide) g27 (fun v28 e28 => ?_)
        refine WP_same (L' := [(2, x0), (9, 0), (9, 0), (0, x3), (0, v28), (0, v10), (0, v24)]) rfl ?_
        replace h := h v28 e28
        refine WP_goto (tgt := 22) dX3_learn_128 (by decide) ?_
        refine WP_lforget (L' := [(2, x0), (9, 0), (9, 0), (0, x3), (0, v28), (9, 0), (9, 0)]) rfl (fun i hi => ?_) h
        match i, hi with
        | 0, _ => exact Or.inl rfl
        | 1, _ => exact Or.inl rfl
        | 2, _ => exact Or.inl rfl
        | 3, _ => exact Or.inl rfl
        | 4, _ => exact Or.inl rfl
        | 5, _ => exact Or.inr rfl
        | 6, _ => exact Or.inr rfl
        | i + 7, hi => exact absurd hi (by simp only [List.length_cons, List.length_nil]; omega)
      · replace h := h.2 c21
        refine WP_aload_n dX3_learn_88 rfl rfl ⟨Nat.le_of_ble_eq_true rfl, Nat.le_of_ble_eq_true rfl⟩ ?_
        refine WP_iconst dX3_learn_89 (by decide) ?_
        refine WQ_invVi (v := (2, x0)) (as := [(0, 1)]) dX3_learn_90 l_X3_66 mw_X3_work mi_X3_work ms_X3_work mo_X3_work (rcv (ci := 3) (n := 9) (r := (RX3, TX3, 9)) hx0 rfl rfl) (Nat.le_of_ble_eq_true rfl) h rfl (fun r29 μ30 h => ?_)
        refine WP_goto (tgt := 105) dX3_learn_93 (by decide) ?_
        refine WP_istore (L' := [(2, x0), (9, 0), (9, 0), (0, x3), (0, x4), (0, v10), (0, r29)]) dX3_learn_105 (by decide) rfl ?_
        refine WP_aload_n dX3_learn_107 rfl rfl ⟨Nat.le_of_ble_eq_true rfl, Nat.le_of_ble_eq_true rfl⟩ ?_
        refine WP_getfield (ci := 3) (j := 2) (n := 9) (t := 2) (x := x0 + 3) dX3_learn_108 f_X3_18 hx0 rfl rfl ?_
        refine WP_iload dX3_learn_111 rfl ?_
        refine WP_iconst dX3_learn_113 (by decide) ?_
        refine WP_bipush dX3_learn_114 (by decide +kernel) (by decide) ?_
        refine WP_iload dX3_learn_116 rfl ?_
        refine WQ_mmin (by omega) dX3_learn_118 l_X3_73 (Nat.le_of_ble_eq_true rfl) ?_
        refine WQ_mmax (by omega) dX3_learn_121 l_X3_78 (Nat.le_of_ble_eq_true rfl) ?_
        obtain ⟨g31, h⟩ := h
        refine WQ_iast (n := 36) dX3_learn_124 (kf_3_2 hx0) g31 (fun μ32 eμ32 => ?_)
        replace h := h μ32 eμ32
        obtain ⟨g33, h⟩ := h
        refine WQ_iinc dX3_learn_125 rfl (by decide) g33 (fun v34 e34 => ?_)
        refine WP_same (L' := [(2, x0), (9, 0), (9, 0), (0, x3), (0, v34), (0, v10), (0, r29)]) rfl ?_
        replace h := h v34 e34
        refine WP_goto (tgt := 22) dX3_learn_128 (by decide) ?_
        refine WP_lforget (L' := [(2, x0), (9, 0), (9, 0), (0, x3), (0, v34), (9, 0), (9, 0)]) rfl (fun i hi => ?_) h
        match i, hi with
        | 0, _ => exact Or.inl rfl
        | 1, _ => exact Or.inl rfl
        | 2, _ => exact Or.inl rfl
        | 3, _ => exact Or.inl rfl
        | 4, _ => exact Or.inl rfl
        | 5, _ => exact Or.inr rfl
        | 6, _ => exact Or.inr rfl
        | i + 7, hi => exact absurd hi (by simp only [List.length_cons, List.length_nil]; omega)

theorem s_X3_nameTwo_0 {d : Nat} {sc : SC} {Q : Mem → Prop} {μ : Mem} {a0 a1 a2 : Int} (ha0 : isK 3 a0)
    (h : isK 1 (μ a0 3) ∧ (1 ≤ μ (μ a0 3) 1 → WQ mX3_nameTwo d sc (ZV sc Q) 22 [(2, a0), (0, a1), (0, a2), (9, 0), (9, 0), (9, 0)] [(0, μ (μ a0 3) 1)] μ) ∧ (μ (μ a0 3) 1 < 1 → WQ mX3_nameTwo d sc (ZV sc Q) 22 [(2, a0), (0, a1), (0, a2), (9, 0), (9, 0), (9, 0)] [(0, 1)] μ)) :
    WQ mX3_nameTwo d sc (ZV sc Q) 0 [(2, a0), (0, a1), (0, a2), (9, 0), (9, 0), (9, 0)] [] μ := by
  refine WP_aload_n dX3_nameTwo_0 rfl rfl ⟨Nat.le_of_ble_eq_true rfl, Nat.le_of_ble_eq_true rfl⟩ ?_
  refine WP_getfield (ci := 3) (j := 3) (n := 9) (t := 2) (x := μ a0 3) dX3_nameTwo_1 f_X3_34 ha0 rfl rfl ?_
  obtain ⟨g1, h⟩ := h
  refine WP_getfield (ci := 1) (j := 1) (n := 11) (t := 0) (x := μ (μ a0 3) 1) dX3_nameTwo_4 f_X3_85 g1 rfl rfl ?_
  refine WP_iconst dX3_nameTwo_7 (by decide) ?_
  refine WQ_icmp_ge (tgt := 15) dX3_nameTwo_8 (by decide) (fun c2 => ?_) (fun c2 => ?_)
  · replace h := h.1 c2
    refine WP_aload_n dX3_nameTwo_15 rfl rfl ⟨Nat.le_of_ble_eq_true rfl, Nat.le_of_ble_eq_true rfl⟩ ?_
    refine WP_getfield (ci := 3) (j := 3) (n := 9) (t := 2) (x := μ a0 3) dX3_nameTwo_16 f_X3_34 ha0 rfl rfl ?_
    refine WP_getfield (ci := 1) (j := 1) (n := 11) (t := 0) (x := μ (μ a0 3) 1) dX3_nameTwo_19 f_X3_85 g1 rfl rfl ?_
    exact h
  · replace h := h.2 c2
    refine WP_iconst dX3_nameTwo_11 (by decide) ?_
    refine WP_goto (tgt := 22) dX3_nameTwo_12 (by decide) ?_
    exact h

theorem s_X3_nameTwo_22 {d : Nat} {sc : SC} {Q : Mem → Prop} {μ : Mem} {x0 x1 x2 y0 : Int} (hd2 : 2 ≤ d) (hx0 : isK 3 x0)
    (h : isK 6 (μ x0 4) ∧ (0 ≤ x1 ∧ x1 < 6) ∧ (∀ v3 : Int, v3 = μ (μ x0 4 + 5) x1 → (0 ≤ x2 ∧ x2 < 6) ∧ (∀ v5 : Int, v5 = μ (μ x0 4 + 5) x2 → ∀ μ7, μ7 = mup μ (x0 + 4) 0 (μ (μ x0 4) 6) → isK 1 (μ7 x0 3) ∧ (0 ≤ x1 ∧ x1 < 6) ∧ (∀ μ11, μ11 = mup μ7 (x0 + 4) 1 (μ7 (μ7 x0 3 + 1) x1) → isK 1 (μ11 x0 3) ∧ (0 ≤ x2 ∧ x2 < 6) ∧ (∀ μ15, μ15 = mup μ11 (x0 + 4) 2 (μ11 (μ11 x0 3 + 2) x2) → isK 1 (μ15 x0 3) ∧ (0 ≤ x1 ∧ x1 < 6) ∧ (∀ μ19, μ19 = mup μ15 (x0 + 4) 3 (μ15 (μ15 x0 3 + 3) x1) → ∀ μ21, μ21 = mup μ19 (x0 + 4) 4 x1 → ∀ μ23, μ23 = mup μ21 (x0 + 4) 5 x2 → (0 ≤ v3 ∧ 0 < y0) ∧ (0 ≤ v5 ∧ 0 < y0) ∧ (-2147483648 ≤ (v3 / y0) - (v5 / y0) ∧ (v3 / y0) - (v5 / y0) < 2147483648) ∧ -2147483648 < (v3 / y0) - (v5 / y0) ∧ (0 ≤ v3 ∧ 0 < y0) ∧ (0 ≤ v5 ∧ 0 < y0) ∧ (-2147483648 ≤ (v3 % y0) - (v5 % y0) ∧ (v3 % y0) - (v5 % y0) < 2147483648) ∧ -2147483648 < (v3 % y0) - (v5 % y0) ∧ (-2147483648 ≤ (iabs ((v3 / y0) - (v5 / y0))) + (iabs ((v3 % y0) - (v5 % y0))) ∧ (iabs ((v3 / y0) - (v5 / y0))) + (iabs ((v3 % y0) - (v5 % y0))) < 2147483648) ∧ (∀ μ34, μ34 = mup μ23 (x0 + 4) 6 ((iabs ((v3 / y0) - (v5 / y0))) + (iabs ((v3 % y0) - (v5 % y0)))) → Q μ34))))))) :
    WQ mX3_nameTwo d sc (ZV sc Q) 22 [(2, x0), (0, x1), (0, x2), (9, 0), (9, 0), (9, 0)] [(0, y0)] μ := by
  refine WP_istore_n (L' := [(2, x0), (0, x1), (0, x2), (0, y0), (9, 0), (9, 0)]) dX3_nameTwo_22 rfl (by decide) rfl ?_
  refine WP_aload_n dX3_nameTwo_23 rfl rfl ⟨Nat.le_of_ble_eq_true rfl, Nat.le_of_ble_eq_true rfl⟩ ?_
  refine WP_getfield (ci := 3) (j := 4) (n := 9) (t := 2) (x := μ x0 4) dX3_nameTwo_24 f_X3_38 hx0 rfl rfl ?_
  obtain ⟨g1, h⟩ := h
  refine WP_getfield (ci := 6) (j := 5) (n := 7) (t := 2) (x := μ x0 4 + 5) dX3_nameTwo_27 f_X3_88 g1 rfl rfl ?_
  refine WP_iload_n dX3_nameTwo_30 rfl rfl ?_
  obtain ⟨g2, h⟩ := h
  refine WP_iaload (n := 6) dX3_nameTwo_31 (kf_6_5 g1) g2 ?_
  refine WQ_nm0 (fun v3 e3 => ?_)
  replace h := h v3 e3
  refine WP_istore (L' := [(2, x0), (0, x1), (0, x2), (0, y0), (0, v3), (9, 0)]) dX3_nameTwo_32 (by decide) rfl ?_
  refine WP_aload_n dX3_nameTwo_34 rfl rfl ⟨Nat.le_of_ble_eq_true rfl, Nat.le_of_ble_eq_true rfl⟩ ?_
  refine WP_getfield (ci := 3) (j := 4) (n := 9) (t := 2) (x := μ x0 4) dX3_nameTwo_35 f_X3_38 hx0 rfl rfl ?_
  refine WP_getfield (ci := 6) (j := 5) (n := 7) (t := 2) (x := μ x0 4 + 5) dX3_nameTwo_38 f_X3_88 g1 rfl rfl ?_
  refine WP_iload_n dX3_nameTwo_41 rfl rfl ?_
  obtain ⟨g4, h⟩ := h
  refine WP_iaload (n := 6) dX3_nameTwo_42 (kf_6_5 g1) g4 ?_
  refine WQ_nm0 (fun v5 e5 => ?_)
  replace h := h v5 e5
  refine WP_istore (L' := [(2, x0), (0, x1), (0, x2), (0, y0), (0, v3), (0, v5)]) dX3_nameTwo_43 (by decide) rfl ?_
  refine WP_aload_n dX3_nameTwo_45 rfl rfl ⟨Nat.le_of_ble_eq_true rfl, Nat.le_of_ble_eq_true rfl⟩ ?_
  refine WP_getfield (ci := 3) (j := 5) (n := 9) (t := 2) (x := x0 + 4) dX3_nameTwo_46 f_X3_21 hx0 rfl rfl ?_
  refine WP_iconst dX3_nameTwo_49 (by decide) ?_
  refine WP_aload_n dX3_nameTwo_50 rfl rfl ⟨Nat.le_of_ble_eq_true rfl, Nat.le_of_ble_eq_true rfl⟩ ?_
  refine WP_getfield (ci := 3) (j := 4) (n := 9) (t := 2) (x := μ x0 4) dX3_nameTwo_51 f_X3_38 hx0 rfl rfl ?_
  refine WP_getfield (ci := 6) (j := 6) (n := 7) (t := 0) (x := μ (μ x0 4) 6) dX3_nameTwo_54 f_X3_93 g1 rfl rfl ?_
  refine WQ_iast (n := 9) dX3_nameTwo_57 (kf_3_5 hx0) ⟨by decide, by decide⟩ (fun μ7 eμ7 => ?_)
  replace h := h μ7 eμ7
  refine WP_aload_n dX3_nameTwo_58 rfl rfl ⟨Nat.le_of_ble_eq_true rfl, Nat.le_of_ble_eq_true rfl⟩ ?_
  refine WP_getfield (ci := 3) (j := 5) (n := 9) (t := 2) (x := x0 + 4) dX3_nameTwo_59 f_X3_21 hx0 rfl rfl ?_
  refine WP_iconst dX3_nameTwo_62 (by decide) ?_
  refine WP_aload_n dX3_nameTwo_63 rfl rfl ⟨Nat.le_of_ble_eq_true rfl, Nat.le_of_ble_eq_true rfl⟩ ?_
  refine WP_getfield (ci := 3) (j := 3) (n := 9) (t := 2) (x := μ7 x0 3) dX3_nameTwo_64 f_X3_34 hx0 rfl rfl ?_
  obtain ⟨g8, h⟩ := h
  refine WP_getfield (ci := 1) (j := 4) (n := 11) (t := 2) (x := μ7 x0 3 + 1) dX3_nameTwo_67 f_X3_96 g8 rfl rfl ?_
  refine WP_iload_n dX3_nameTwo_70 rfl rfl ?_
  obtain ⟨g9, h⟩ := h
  refine WP_iaload (n := 6) dX3_nameTwo_71 (kf_1_4 g8) g9 ?_
  refine WQ_iast (n := 9) dX3_nameTwo_72 (kf_3_5 hx0) ⟨by decide, by decide⟩ (fun μ11 eμ11 => ?_)
  replace h := h μ11 eμ11
  refine WP_aload_n dX3_nameTwo_73 rfl rfl ⟨Nat.le_of_ble_eq_true rfl, Nat.le_of_ble_eq_true rfl⟩ ?_
  refine WP_getfield (ci := 3) (j := 5) (n := 9) (t := 2) (x := x0 + 4) dX3_nameTwo_74 f_X3_21 hx0 rfl rfl ?_
  refine WP_iconst dX3_nameTwo_77 (by decide) ?_
  refine WP_aload_n dX3_nameTwo_78 rfl rfl ⟨Nat.le_of_ble_eq_true rfl, Nat.le_of_ble_eq_true rfl⟩ ?_
  refine WP_getfield (ci := 3) (j := 3) (n := 9) (t := 2) (x := μ11 x0 3) dX3_nameTwo_79 f_X3_34 hx0 rfl rfl ?_
  obtain ⟨g12, h⟩ := h
  refine WP_getfield (ci := 1) (j := 5) (n := 11) (t := 2) (x := μ11 x0 3 + 2) dX3_nameTwo_82 f_X3_99 g12 rfl rfl ?_
  refine WP_iload_n dX3_nameTwo_85 rfl rfl ?_
  obtain ⟨g13, h⟩ := h
  refine WP_iaload (n := 6) dX3_nameTwo_86 (kf_1_5 g12) g13 ?_
  refine WQ_iast (n := 9) dX3_nameTwo_87 (kf_3_5 hx0) ⟨by decide, by decide⟩ (fun μ15 eμ15 => ?_)
  replace h := h μ15 eμ15
  refine WP_aload_n dX3_nameTwo_88 rfl rfl ⟨Nat.le_of_ble_eq_true rfl, Nat.le_of_ble_eq_true rfl⟩ ?_
  refine WP_getfield (ci := 3) (j := 5) (n := 9) (t := 2) (x := x0 + 4) dX3_nameTwo_89 f_X3_21 hx0 rfl rfl ?_
  refine WP_iconst dX3_nameTwo_92 (by decide) ?_
  refine WP_aload_n dX3_nameTwo_93 rfl rfl ⟨Nat.le_of_ble_eq_true rfl, Nat.le_of_ble_eq_true rfl⟩ ?_
  refine WP_getfield (ci := 3) (j := 3) (n := 9) (t := 2) (x := μ15 x0 3) dX3_nameTwo_94 f_X3_34 hx0 rfl rfl ?_
  obtain ⟨g16, h⟩ := h
  refine WP_getfield (ci := 1) (j := 6) (n := 11) (t := 2) (x := μ15 x0 3 + 3) dX3_nameTwo_97 f_X3_70 g16 rfl rfl ?_
  refine WP_iload_n dX3_nameTwo_100 rfl rfl ?_
  obtain ⟨g17, h⟩ := h
  refine WP_iaload (n := 6) dX3_nameTwo_101 (kf_1_6 g16) g17 ?_
  refine WQ_iast (n := 9) dX3_nameTwo_102 (kf_3_5 hx0) ⟨by decide, by decide⟩ (fun μ19 eμ19 => ?_)
  replace h := h μ19 eμ19
  refine WP_aload_n dX3_nameTwo_103 rfl rfl ⟨Nat.le_of_ble_eq_true rfl, Nat.le_of_ble_eq_true rfl⟩ ?_
  refine WP_getfield (ci := 3) (j := 5) (n := 9) (t := 2) (x := x0 + 4) dX3_nameTwo_104 f_X3_21 hx0 rfl rfl ?_
  refine WP_iconst dX3_nameTwo_107 (by decide) ?_
  refine WP_iload_n dX3_nameTwo_108 rfl rfl ?_
  refine WQ_iast (n := 9) dX3_nameTwo_109 (kf_3_5 hx0) ⟨by decide, by decide⟩ (fun μ21 eμ21 => ?_)
  replace h := h μ21 eμ21
  refine WP_aload_n dX3_nameTwo_110 rfl rfl ⟨Nat.le_of_ble_eq_true rfl, Nat.le_of_ble_eq_true rfl⟩ ?_
  refine WP_getfield (ci := 3) (j := 5) (n := 9) (t := 2) (x := x0 + 4) dX3_nameTwo_111 f_X3_21 hx0 rfl rfl ?_
  refine WP_iconst dX3_nameTwo_114 (by decide) ?_
  refine WP_iload_n dX3_nameTwo_115 rfl rfl ?_
  refine WQ_iast (n := 9) dX3_nameTwo_116 (kf_3_5 hx0) ⟨by decide, by decide⟩ (fun μ23 eμ23 => ?_)
  replace h := h μ23 eμ23
  refine WP_aload_n dX3_nameTwo_117 rfl rfl ⟨Nat.le_of_ble_eq_true rfl, Nat.le_of_ble_eq_true rfl⟩ ?_
  refine WP_getfield (ci := 3) (j := 5) (n := 9) (t := 2) (x := x0 + 4) dX3_nameTwo_118 f_X3_21 hx0 rfl rfl ?_
  refine WP_bipush dX3_nameTwo_121 (by decide +kernel) (by decide) ?_
  refine WP_iload dX3_nameTwo_123 rfl ?_
  refine WP_iload_n dX3_nameTwo_125 rfl rfl ?_
  obtain ⟨g24, h⟩ := h
  refine WP_idiv dX3_nameTwo_126 g24 ?_
  refine WP_iload dX3_nameTwo_127 rfl ?_
  refine WP_iload_n dX3_nameTwo_129 rfl rfl ?_
  obtain ⟨g25, h⟩ := h
  refine WP_idiv dX3_nameTwo_130 g25 ?_
  obtain ⟨g26, h⟩ := h
  refine WP_isub dX3_nameTwo_131 g26 ?_
  obtain ⟨g27, h⟩ := h
  refine WQ_mabs (by omega) dX3_nameTwo_132 l_X3_102 (Nat.le_of_ble_eq_true rfl) g27 ?_
  refine WP_iload dX3_nameTwo_135 rfl ?_
  refine WP_iload_n dX3_nameTwo_137 rfl rfl ?_
  obtain ⟨g28, h⟩ := h
  refine WP_irem dX3_nameTwo_138 g28 ?_
  refine WP_iload dX3_nameTwo_139 rfl ?_
  refine WP_iload_n dX3_nameTwo_141 rfl rfl ?_
  obtain ⟨g29, h⟩ := h
  refine WP_irem dX3_nameTwo_142 g29 ?_
  obtain ⟨g30, h⟩ := h
  refine WP_isub dX3_nameTwo_143 g30 ?_
  obtain ⟨g31, h⟩ := h
  refine WQ_mabs (by omega) dX3_nameTwo_144 l_X3_102 (Nat.le_of_ble_eq_true rfl) g31 ?_
  obtain ⟨g32, h⟩ := h
  refine WP_iadd dX3_nameTwo_147 g32 ?_
  refine WQ_iast (n := 9) dX3_nameTwo_148 (kf_3_5 hx0) ⟨by decide, by decide⟩ (fun μ34 eμ34 => ?_)
  replace h := h μ34 eμ34
  exact WQ_return dX3_nameTwo_149 rfl h

theorem s_X3_take_0 {d : Nat} {sc : SC} {Q : Mem → Prop} {μ : Mem} {a0 a1 a2 : Int} (ha0 : isK 3 a0) (ha1 : isK 1 a1) (ha2 : isK 6 a2)
    (h : ∀ μ1, μ1 = mup μ a0 3 a1 → ∀ μ2, μ2 = mup μ1 a0 4 a2 → CAv mJ7_fill_d0a16 d sc [(2, a0 + 6), (1, 0)] μ2 (fun μ4 => CAv mJ7_fill_d0a16 d sc [(2, a0 + 7), (1, 0)] μ4 (fun μ6 => Q μ6))) :
    WQ mX3_take d sc (ZV sc Q) 0 [(2, a0), (2, a1), (2, a2)] [] μ := by
  refine WP_aload_n dX3_take_0 rfl rfl ⟨Nat.le_of_ble_eq_true rfl, Nat.le_of_ble_eq_true rfl⟩ ?_
  refine WP_aload_n dX3_take_1 rfl rfl ⟨Nat.le_of_ble_eq_true rfl, Nat.le_of_ble_eq_true rfl⟩ ?_
  refine WQ_put (ci := 3) (j := 3) (n := 9) dX3_take_2 f_X3_34 ha0 rfl (fun μ1 eμ1 => ?_)
  replace h := h μ1 eμ1
  refine WP_aload_n dX3_take_5 rfl rfl ⟨Nat.le_of_ble_eq_true rfl, Nat.le_of_ble_eq_true rfl⟩ ?_
  refine WP_aload_n dX3_take_6 rfl rfl ⟨Nat.le_of_ble_eq_true rfl, Nat.le_of_ble_eq_true rfl⟩ ?_
  refine WQ_put (ci := 3) (j := 4) (n := 9) dX3_take_7 f_X3_38 ha0 rfl (fun μ2 eμ2 => ?_)
  replace h := h μ2 eμ2
  refine WP_aload_n dX3_take_10 rfl rfl ⟨Nat.le_of_ble_eq_true rfl, Nat.le_of_ble_eq_true rfl⟩ ?_
  refine WP_getfield (ci := 3) (j := 7) (n := 9) (t := 2) (x := a0 + 6) dX3_take_11 f_X3_27 ha0 rfl rfl ?_
  refine WP_lconst dX3_take_14 rfl ?_
  refine WQ_invSv (as := [(2, a0 + 6), (1, 0)]) dX3_take_15 l_X3_42 mw_J7_fill_d0a16 mt_J7_fill_d0a16 mo_J7_fill_d0a16 (Nat.le_of_ble_eq_true rfl) h rfl (fun μ4 h => ?_)
  refine WP_aload_n dX3_take_18 rfl rfl ⟨Nat.le_of_ble_eq_true rfl, Nat.le_of_ble_eq_true rfl⟩ ?_
  refine WP_getfield (ci := 3) (j := 8) (n := 9) (t := 2) (x := a0 + 7) dX3_take_19 f_X3_31 ha0 rfl rfl ?_
  refine WP_lconst dX3_take_22 rfl ?_
  refine WQ_invSv (as := [(2, a0 + 7), (1, 0)]) dX3_take_23 l_X3_42 mw_J7_fill_d0a16 mt_J7_fill_d0a16 mo_J7_fill_d0a16 (Nat.le_of_ble_eq_true rfl) h rfl (fun μ6 h => ?_)
  exact WQ_return dX3_take_26 rfl h

theorem s_X3_work_0 {d : Nat} {sc : SC} {Q : Int → Mem → Prop} {μ : Mem} {a0 a1 : Int} (ha0 : isK 3 a0)
    (h : isK 1 (μ a0 3) ∧ (0 ≤ a1 ∧ a1 < 3) ∧ (∀ v3 : Int, v3 = μ (μ a0 3 + 5) a1 → WQ mX3_work d sc (ZI sc Q) 12 [(2, a0), (0, a1), (0, 0), (0, v3), (9, 0), (9, 0), (9, 0), (9, 0), (9, 0), (9, 0), (9, 0), (9, 0)] [] μ)) :
    WQ mX3_work d sc (ZI sc Q) 0 [(2, a0), (0, a1), (9, 0), (9, 0), (9, 0), (9, 0), (9, 0), (9, 0), (9, 0), (9, 0), (9, 0), (9, 0)] [] μ := by
  refine WP_iconst dX3_work_0 (by decide) ?_
  refine WP_istore_n (L' := [(2, a0), (0, a1), (0, 0), (9, 0), (9, 0), (9, 0), (9, 0), (9, 0), (9, 0), (9, 0), (9, 0), (9, 0)]) dX3_work_1 rfl (by decide) rfl ?_
  refine WP_aload_n dX3_work_2 rfl rfl ⟨Nat.le_of_ble_eq_true rfl, Nat.le_of_ble_eq_true rfl⟩ ?_
  refine WP_getfield (ci := 3) (j := 3) (n := 9) (t := 2) (x := μ a0 3) dX3_work_3 f_X3_34 ha0 rfl rfl ?_
  obtain ⟨g1, h⟩ := h
  refine WP_getfield (ci := 1) (j := 8) (n := 11) (t := 2) (x := μ a0 3 + 5) dX3_work_6 f_X3_105 g1 rfl rfl ?_
  refine WP_iload_n dX3_work_9 rfl rfl ?_
  obtain ⟨g2, h⟩ := h
  refine WP_iaload (n := 3) dX3_work_10 (kf_1_8 g1) g2 ?_
  refine WQ_nm0 (fun v3 e3 => ?_)
  replace h := h v3 e3
  refine WP_istore_n (L' := [(2, a0), (0, a1), (0, 0), (0, v3), (9, 0), (9, 0), (9, 0), (9, 0), (9, 0), (9, 0), (9, 0), (9, 0)]) dX3_work_11 rfl (by decide) rfl ?_
  exact h

theorem s_X3_work_12 {d : Nat} {sc : SC} {Q : Int → Mem → Prop} {μ : Mem} {x0 x1 x2 x3 : Int} (hx0 : isK 3 x0)
    (h : isK 1 (μ x0 3) ∧ (0 ≤ x1 ∧ x1 < 3) ∧ (μ (μ x0 3 + 6) x1 ≤ x3 → (x2 ≤ 0 → Q 0 μ) ∧ (0 < x2 → (-2147483648 ≤ x2 - 1 ∧ x2 - 1 < 2147483648) ∧ (0 ≤ x2 - 1 ∧ x2 - 1 < 64) ∧ Q (μ (x0 + 5) (x2 - 1)) μ)) ∧ (x3 < μ (μ x0 3 + 6) x1 → (0 ≤ x3 ∧ x3 < 900) ∧ (∀ v8 : Int, v8 = μ (μ x0 3 + 4) x3 → (-2147483648 ≤ v8 - 1000 ∧ v8 - 1000 < 2147483648) ∧ (∀ v10 : Int, v10 = v8 - 1000 → (v10 < 15 → WQ mX3_work d sc (ZI sc Q) 63 [(2, x0), (0, x1), (0, x2), (0, x3), (0, v8), (0, v10), (9, 0), (9, 0), (9, 0), (9, 0), (9, 0), (9, 0)] [(0, 0)] μ) ∧ (15 ≤ v10 → (23 < v10 → WQ mX3_work d sc (ZI sc Q) 63 [(2, x0), (0, x1), (0, x2), (0, x3), (0, v8), (0, v10), (9, 0), (9, 0), (9, 0), (9, 0), (9, 0), (9, 0)] [(0, 0)] μ) ∧ (v10 ≤ 23 → WQ mX3_work d sc (ZI sc Q) 63 [(2, x0), (0, x1), (0, x2), (0, x3), (0, v8), (0, v10), (9, 0), (9, 0), (9, 0), (9, 0), (9, 0), (9, 0)] [(0, 1)] μ)))))) :
    WQ mX3_work d sc (ZI sc Q) 12 [(2, x0), (0, x1), (0, x2), (0, x3), (9, 0), (9, 0), (9, 0), (9, 0), (9, 0), (9, 0), (9, 0), (9, 0)] [] μ := by
  refine WP_iload_n dX3_work_12 rfl rfl ?_
  refine WP_aload_n dX3_work_13 rfl rfl ⟨Nat.le_of_ble_eq_true rfl, Nat.le_of_ble_eq_true rfl⟩ ?_
  refine WP_getfield (ci := 3) (j := 3) (n := 9) (t := 2) (x := μ x0 3) dX3_work_14 f_X3_34 hx0 rfl rfl ?_
  obtain ⟨g1, h⟩ := h
  refine WP_getfield (ci := 1) (j := 9) (n := 11) (t := 2) (x := μ x0 3 + 6) dX3_work_17 f_X3_108 g1 rfl rfl ?_
  refine WP_iload_n dX3_work_20 rfl rfl ?_
  obtain ⟨g2, h⟩ := h
  refine WP_iaload (n := 3) dX3_work_21 (kf_1_9 g1) g2 ?_
  refine WQ_icmp_ge (tgt := 512) dX3_work_22 (by decide) (fun c3 => ?_) (fun c3 => ?_)
  · replace h := h.1 c3
    refine WP_iload_n dX3_work_512 rfl rfl ?_
    refine WQ_ifle (tgt := 527) dX3_work_513 (by decide) (fun c4 => ?_) (fun c4 => ?_)
    · replace h := h.1 c4
      refine WP_iconst dX3_work_527 (by decide) ?_
      exact WQ_ireturn dX3_work_528 rfl h
    · replace h := h.2 c4
      refine WP_aload_n dX3_work_516 rfl rfl ⟨Nat.le_of_ble_eq_true rfl, Nat.le_of_ble_eq_true rfl⟩ ?_
      refine WP_getfield (ci := 3) (j := 6) (n := 9) (t := 2) (x := x0 + 5) dX3_work_517 f_X3_24 hx0 rfl rfl ?_
      refine WP_iload_n dX3_work_520 rfl rfl ?_
      refine WP_iconst dX3_work_521 (by decide) ?_
      obtain ⟨g5, h⟩ := h
      refine WP_isub dX3_work_522 g5 ?_
      obtain ⟨g6, h⟩ := h
      refine WP_iaload (n := 64) dX3_work_523 (kf_3_6 hx0) g6 ?_
      refine WP_goto (tgt := 528) dX3_work_524 (by decide) ?_
      exact WQ_ireturn dX3_work_528 rfl h
  · replace h := h.2 c3
    refine WP_aload_n dX3_work_25 rfl rfl ⟨Nat.le_of_ble_eq_true rfl, Nat.le_of_ble_eq_true rfl⟩ ?_
    refine WP_getfield (ci := 3) (j := 3) (n := 9) (t := 2) (x := μ x0 3) dX3_work_26 f_X3_34 hx0 rfl rfl ?_
    refine WP_getfield (ci := 1) (j := 7) (n := 11) (t := 2) (x := μ x0 3 + 4) dX3_work_29 f_X3_111 g1 rfl rfl ?_
    refine WP_iload_n dX3_work_32 rfl rfl ?_
    obtain ⟨g7, h⟩ := h
    refine WP_iaload (n := 900) dX3_work_33 (kf_1_7 g1) g7 ?_
    refine WQ_nm0 (fun v8 e8 => ?_)
    replace h := h v8 e8
    refine WP_istore (L' := [(2, x0), (0, x1), (0, x2), (0, x3), (0, v8), (9, 0), (9, 0), (9, 0), (9, 0), (9, 0), (9, 0), (9, 0)]) dX3_work_34 (by decide) rfl ?_
    refine WP_iload dX3_work_36 rfl ?_
    refine WP_sipush dX3_work_38 (by decide +kernel) (by decide) ?_
    obtain ⟨g9, h⟩ := h
    refine WP_isub dX3_work_41 g9 ?_
    refine WQ_nm0 (fun v10 e10 => ?_)
    replace h := h v10 e10
    refine WP_istore (L' := [(2, x0), (0, x1), (0, x2), (0, x3), (0, v8), (0, v10), (9, 0), (9, 0), (9, 0), (9, 0), (9, 0), (9, 0)]) dX3_work_42 (by decide) rfl ?_
    refine WP_iload dX3_work_44 rfl ?_
    refine WP_bipush dX3_work_46 (by decide +kernel) (by decide) ?_
    refine WQ_icmp_lt (tgt := 62) dX3_work_48 (by decide) (fun c11 => ?_) (fun c11 => ?_)
    · replace h := h.1 c11
      refine WP_iconst dX3_work_62 (by decide) ?_
      exact h
    · replace h := h.2 c11
      refine WP_iload dX3_work_51 rfl ?_
      refine WP_bipush dX3_work_53 (by decide +kernel) (by decide) ?_
      refine WQ_icmp_gt (tgt := 62) dX3_work_55 (by decide) (fun c12 => ?_) (fun c12 => ?_)
      · replace h := h.1 c12
        refine WP_iconst dX3_work_62 (by decide) ?_
        exact h
      · replace h := h.2 c12
        refine WP_iconst dX3_work_58 (by decide) ?_
        refine WP_goto (tgt := 63) dX3_work_59 (by decide) ?_
        exact h

theorem s_X3_work_63 {d : Nat} {sc : SC} {Q : Int → Mem → Prop} {μ : Mem} {x0 x1 x2 x3 x4 x5 y0 : Int} (hx0 : isK 3 x0)
    (h : (x5 < 0 → WQ mX3_work d sc (ZI sc Q) 102 [(2, x0), (0, x1), (0, x2), (0, x3), (0, x4), (0, x5), (0, y0), (9, 0), (9, 0), (9, 0), (9, 0), (9, 0)] [(0, 0)] μ) ∧ (0 ≤ x5 → (y0 = 0 → (x5 ≠ 14 → (x5 ≠ 8 → WQ mX3_work d sc (ZI sc Q) 102 [(2, x0), (0, x1), (0, x2), (0, x3), (0, x4), (0, x5), (0, y0), (9, 0), (9, 0), (9, 0), (9, 0), (9, 0)] [(0, 2)] μ) ∧ (x5 = 8 → WQ mX3_work d sc (ZI sc Q) 102 [(2, x0), (0, x1), (0, x2), (0, x3), (0, x4), (0, x5), (0, y0), (9, 0), (9, 0), (9, 0), (9, 0), (9, 0)] [(0, 3)] μ)) ∧ (x5 = 14 → WQ mX3_work d sc (ZI sc Q) 102 [(2, x0), (0, x1), (0, x2), (0, x3), (0, x4), (0, x5), (0, y0), (9, 0), (9, 0), (9, 0), (9, 0), (9, 0)] [(0, 1)] μ)) ∧ (y0 ≠ 0 → WQ mX3_work d sc (ZI sc Q) 102 [(2, x0), (0, x1), (0, x2), (0, x3), (0, x4), (0, x5), (0, y0), (9, 0), (9, 0), (9, 0), (9, 0), (9, 0)] [(0, 0)] μ))) :
    WQ mX3_work d sc (ZI sc Q) 63 [(2, x0), (0, x1), (0, x2), (0, x3), (0, x4), (0, x5), (9, 0), (9, 0), (9, 0), (9, 0), (9, 0), (9, 0)] [(0, y0)] μ := by
  refine WP_istore (L' := [(2, x0), (0, x1), (0, x2), (0, x3), (0, x4), (0, x5), (0, y0), (9, 0), (9, 0), (9, 0), (9, 0), (9, 0)]) dX3_work_63 (by decide) rfl ?_
  refine WP_iload dX3_work_65 rfl ?_
  refine WQ_iflt (tgt := 75) dX3_work_67 (by decide) (fun c1 => ?_) (fun c1 => ?_)
  · replace h := h.1 c1
    refine WP_iconst dX3_work_75 (by decide) ?_
    refine WP_goto (tgt := 102) dX3_work_76 (by decide) ?_
    exact h
  · replace h := h.2 c1
    refine WP_iload dX3_work_70 rfl ?_
    refine WQ_ifeq (tgt := 79) dX3_work_72 (by decide) (fun c2 => ?_) (fun c2 => ?_)
    · replace h := h.1 c2
      refine WP_iload dX3_work_79 rfl ?_
      refine WP_bipush dX3_work_81 (by decide +kernel) (by decide) ?_
      refine WQ_icmp_ne (tgt := 90) dX3_work_83 (by decide) (fun c3 => ?_) (fun c3 => ?_)
      · replace h := h.1 c3
        refine WP_iload dX3_work_90 rfl ?_
        refine WP_bipush dX3_work_92 (by decide +kernel) (by decide) ?_
        refine WQ_icmp_ne (tgt := 101) dX3_work_94 (by decide) (fun c4 => ?_) (fun c4 => ?_)
        · replace h := h.1 c4
          refine WP_iconst dX3_work_101 (by decide) ?_
          exact h
        · replace h := h.2 c4
          refine WP_iconst dX3_work_97 (by decide) ?_
          refine WP_goto (tgt := 102) dX3_work_98 (by decide) ?_
          exact h
      · replace h := h.2 c3
        refine WP_iconst dX3_work_86 (by decide) ?_
        refine WP_goto (tgt := 102) dX3_work_87 (by decide) ?_
        exact h
    · replace h := h.2 c2
      refine WP_iconst dX3_work_75 (by decide) ?_
      refine WP_goto (tgt := 102) dX3_work_76 (by decide) ?_
      exact h

theorem s_X3_work_102 {d : Nat} {sc : SC} {Q : Int → Mem → Prop} {μ : Mem} {x0 x1 x2 x3 x4 x5 x6 y0 : Int} (hx0 : isK 3 x0)
    (h : (x2 < y0 → Q 0 μ) ∧ (y0 ≤ x2 → (-2147483648 ≤ x2 - y0 ∧ x2 - y0 < 2147483648) ∧ (x2 - y0 < 64 → (-2147483648 ≤ x2 - y0 ∧ x2 - y0 < 2147483648) ∧ (∀ v5 : Int, v5 = x2 - y0 → (y0 ≤ 0 → WQ mX3_work d sc (ZI sc Q) 141 [(2, x0), (0, x1), (0, v5), (0, x3), (0, x4), (0, x5), (0, x6), (0, y0), (9, 0), (9, 0), (9, 0), (9, 0)] [(0, 0)] μ) ∧ (0 < y0 → (0 ≤ v5 ∧ v5 < 64) ∧ WQ mX3_work d sc (ZI sc Q) 141 [(2, x0), (0, x1), (0, v5), (0, x3), (0, x4), (0, x5), (0, x6), (0, y0), (9, 0), (9, 0), (9, 0), (9, 0)] [(0, μ (x0 + 5) v5)] μ))) ∧ (64 ≤ x2 - y0 → Q 0 μ))) :
    WQ mX3_work d sc (ZI sc Q) 102 [(2, x0), (0, x1), (0, x2), (0, x3), (0, x4), (0, x5), (0, x6), (9, 0), (9, 0), (9, 0), (9, 0), (9, 0)] [(0, y0)] μ := by
  refine WP_istore (L' := [(2, x0), (0, x1), (0, x2), (0, x3), (0, x4), (0, x5), (0, x6), (0, y0), (9, 0), (9, 0), (9, 0), (9, 0)]) dX3_work_102 (by decide) rfl ?_
  refine WP_iload_n dX3_work_104 rfl rfl ?_
  refine WP_iload dX3_work_105 rfl ?_
  refine WQ_icmp_lt (tgt := 119) dX3_work_107 (by decide) (fun c1 => ?_) (fun c1 => ?_)
  · replace h := h.1 c1
    refine WP_iconst dX3_work_119 (by decide) ?_
    exact WQ_ireturn dX3_work_120 rfl h
  · replace h := h.2 c1
    refine WP_iload_n dX3_work_110 rfl rfl ?_
    refine WP_iload dX3_work_111 rfl ?_
    obtain ⟨g2, h⟩ := h
    refine WP_isub dX3_work_113 g2 ?_
    refine WP_bipush dX3_work_114 (by decide +kernel) (by decide) ?_
    refine WQ_icmp_lt (tgt := 121) dX3_work_116 (by decide) (fun c3 => ?_) (fun c3 => ?_)
    · replace h := h.1 c3
      refine WP_iload_n dX3_work_121 rfl rfl ?_
      refine WP_iload dX3_work_122 rfl ?_
      obtain ⟨g4, h⟩ := h
      refine WP_isub dX3_work_124 g4 ?_
      refine WQ_nm0 (fun v5 e5 => ?_)
      replace h := h v5 e5
      refine WP_istore_n (L' := [(2, x0), (0, x1), (0, v5), (0, x3), (0, x4), (0, x5), (0, x6), (0, y0), (9, 0), (9, 0), (9, 0), (9, 0)]) dX3_work_125 rfl (by decide) rfl ?_
      refine WP_iload dX3_work_126 rfl ?_
      refine WQ_ifle (tgt := 140) dX3_work_128 (by decide) (fun c6 => ?_) (fun c6 => ?_)
      · replace h := h.1 c6
        refine WP_iconst dX3_work_140 (by decide) ?_
        exact h
      · replace h := h.2 c6
        refine WP_aload_n dX3_work_131 rfl rfl ⟨Nat.le_of_ble_eq_true rfl, Nat.le_of_ble_eq_true rfl⟩ ?_
        refine WP_getfield (ci := 3) (j := 6) (n := 9) (t := 2) (x := x0 + 5) dX3_work_132 f_X3_24 hx0 rfl rfl ?_
        refine WP_iload_n dX3_work_135 rfl rfl ?_
        obtain ⟨g7, h⟩ := h
        refine WP_iaload (n := 64) dX3_work_136 (kf_3_6 hx0) g7 ?_
        refine WP_goto (tgt := 141) dX3_work_137 (by decide) ?_
        exact h
    · replace h := h.2 c3
      refine WP_iconst dX3_work_119 (by decide) ?_
      exact WQ_ireturn dX3_work_120 rfl h

theorem s_X3_work_141 {d : Nat} {sc : SC} {Q : Int → Mem → Prop} {μ : Mem} {x0 x1 x2 x3 x4 x5 x6 x7 y0 : Int} (hx0 : isK 3 x0)
    (h : (x7 ≤ 1 → WQ mX3_work d sc (ZI sc Q) 161 [(2, x0), (0, x1), (0, x2), (0, x3), (0, x4), (0, x5), (0, x6), (9, 0), (0, y0), (9, 0), (9, 0), (9, 0)] [(0, 0)] μ) ∧ (1 < x7 → (-2147483648 ≤ x2 + 1 ∧ x2 + 1 < 2147483648) ∧ (0 ≤ x2 + 1 ∧ x2 + 1 < 64) ∧ WQ mX3_work d sc (ZI sc Q) 161 [(2, x0), (0, x1), (0, x2), (0, x3), (0, x4), (0, x5), (0, x6), (9, 0), (0, y0), (9, 0), (9, 0), (9, 0)] [(0, μ (x0 + 5) (x2 + 1))] μ)) :
    WQ mX3_work d sc (ZI sc Q) 141 [(2, x0), (0, x1), (0, x2), (0, x3), (0, x4), (0, x5), (0, x6), (0, x7), (9, 0), (9, 0), (9, 0), (9, 0)] [(0, y0)] μ := by
  refine WP_istore (L' := [(2, x0), (0, x1), (0, x2), (0, x3), (0, x4), (0, x5), (0, x6), (0, x7), (0, y0), (9, 0), (9, 0), (9, 0)]) dX3_work_141 (by decide) rfl ?_
  refine WP_iload dX3_work_143 rfl ?_
  refine WP_iconst dX3_work_145 (by decide) ?_
  refine WQ_icmp_le (tgt := 160) dX3_work_146 (by decide) (fun c1 => ?_) (fun c1 => ?_)
  · replace h := h.1 c1
    refine WP_iconst dX3_work_160 (by decide) ?_
    refine WP_lforget (L' := [(2, x0), (0, x1), (0, x2), (0, x3), (0, x4), (0, x5), (0, x6), (9, 0), (0, y0), (9, 0), (9, 0), (9, 0)]) rfl (fun i hi => ?_) h
    match i, hi with
    | 0, _ => exact Or.inl rfl
    | 1, _ => exact Or.inl rfl
    | 2, _ => exact Or.inl rfl
    | 3, _ => exact Or.inl rfl
    | 4, _ => exact Or.inl rfl
    | 5, _ => exact Or.inl rfl
    | 6, _ => exact Or.inl rfl
    | 7, _ => exact Or.inr rfl
    | 8, _ => exact Or.inl rfl
    | 9, _ => exact Or.inl rfl
    | 10, _ => exact Or.inl rfl
    | 11, _ => exact Or.inl rfl
    | i + 12, hi => exact absurd hi (by simp only [List.length_cons, List.length_nil]; omega)
  · replace h := h.2 c1
    refine WP_aload_n dX3_work_149 rfl rfl ⟨Nat.le_of_ble_eq_true rfl, Nat.le_of_ble_eq_true rfl⟩ ?_
    refine WP_getfield (ci := 3) (j := 6) (n := 9) (t := 2) (x := x0 + 5) dX3_work_150 f_X3_24 hx0 rfl rfl ?_
    refine WP_iload_n dX3_work_153 rfl rfl ?_
    refine WP_iconst dX3_work_154 (by decide) ?_
    obtain ⟨g2, h⟩ := h
    refine WP_iadd dX3_work_155 g2 ?_
    obtain ⟨g3, h⟩ := h
    refine WP_iaload (n := 64) dX3_work_156 (kf_3_6 hx0) g3 ?_
    refine WP_goto (tgt := 161) dX3_work_157 (by decide) ?_
    refine WP_lforget (L' := [(2, x0), (0, x1), (0, x2), (0, x3), (0, x4), (0, x5), (0, x6), (9, 0), (0, y0), (9, 0), (9, 0), (9, 0)]) rfl (fun i hi => ?_) h
    match i, hi with
    | 0, _ => exact Or.inl rfl
    | 1, _ => exact Or.inl rfl
    | 2, _ => exact Or.inl rfl
    | 3, _ => exact Or.inl rfl
    | 4, _ => exact Or.inl rfl
    | 5, _ => exact Or.inl rfl
    | 6, _ => exact Or.inl rfl
    | 7, _ => exact Or.inr rfl
    | 8, _ => exact Or.inl rfl
    | 9, _ => exact Or.inl rfl
    | 10, _ => exact Or.inl rfl
    | 11, _ => exact Or.inl rfl
    | i + 12, hi => exact absurd hi (by simp only [List.length_cons, List.length_nil]; omega)

theorem s_X3_work_161 {d : Nat} {sc : SC} {Q : Int → Mem → Prop} {μ : Mem} {x0 x1 x2 x3 x4 x5 x6 x8 y0 : Int} (hx0 : isK 3 x0)
    (h : (x5 = 8 → (x8 = 0 → (-2147483648 ≤ x2 + 2 ∧ x2 + 2 < 2147483648) ∧ (0 ≤ x2 + 2 ∧ x2 + 2 < 64) ∧ WQ mX3_work d sc (ZI sc Q) 346 [(2, x0), (0, x1), (0, x2), (0, x3), (9, 0), (9, 0), (9, 0), (9, 0), (9, 0), (9, 0), (9, 0), (9, 0)] [(1, μ (x0 + 5) (x2 + 2))] μ) ∧ (x8 ≠ 0 → WQ mX3_work d sc (ZI sc Q) 346 [(2, x0), (0, x1), (0, x2), (0, x3), (9, 0), (9, 0), (9, 0), (9, 0), (9, 0), (9, 0), (9, 0), (9, 0)] [(1, y0)] μ)) ∧ (x5 = 12 → ∀ v5 : Int, v5 = iAnd x8 y0 → WQ mX3_work d sc (ZI sc Q) 482 [(2, x0), (0, x1), (0, x2), (0, x3), (9, 0), (9, 0), (9, 0), (9, 0), (9, 0), (9, 0), (1, v5), (9, 0)] [] μ) ∧ (x5 = 13 → ∀ v6 : Int, v6 = iOr x8 y0 → WQ mX3_work d sc (ZI sc Q) 482 [(2, x0), (0, x1), (0, x2), (0, x3), (9, 0), (9, 0), (9, 0), (9, 0), (9, 0), (9, 0), (1, v6), (9, 0)] [] μ) ∧ (x5 = 14 → (-2147483648 ≤ 1 - x8 ∧ 1 - x8 < 2147483648) ∧ (∀ v8 : Int, v8 = 1 - x8 → WQ mX3_work d sc (ZI sc Q) 482 [(2, x0), (0, x1), (0, x2), (0, x3), (9, 0), (9, 0), (9, 0), (9, 0), (9, 0), (9, 0), (1, v8), (9, 0)] [] μ)) ∧ (x5 = 32 → (-2147483648 ≤ x8 + y0 ∧ x8 + y0 < 2147483648) ∧ (∀ v10 : Int, v10 = x8 + y0 → WQ mX3_work d sc (ZI sc Q) 482 [(2, x0), (0, x1), (0, x2), (0, x3), (9, 0), (9, 0), (9, 0), (9, 0), (9, 0), (9, 0), (1, v10), (9, 0)] [] μ)) ∧ (x5 = 33 → (-2147483648 ≤ x8 - y0 ∧ x8 - y0 < 2147483648) ∧ (∀ v12 : Int, v12 = x8 - y0 → WQ mX3_work d sc (ZI sc Q) 482 [(2, x0), (0, x1), (0, x2), (0, x3), (9, 0), (9, 0), (9, 0), (9, 0), (9, 0), (9, 0), (1, v12), (9, 0)] [] μ)) ∧ (x5 = 34 → (-9223372036854775808 ≤ x8 * y0 ∧ x8 * y0 < 9223372036854775808) ∧ (∀ v14 : Int, v14 = x8 * y0 → WQ mX3_work d sc (ZI sc Q) 482 [(2, x0), (0, x1), (0, x2), (0, x3), (9, 0), (9, 0), (9, 0), (9, 0), (9, 0), (9, 0), (1, v14), (9, 0)] [] μ)) ∧ (x5 = 39 → (x8 ≠ y0 → WQ mX3_work d sc (ZI sc Q) 385 [(2, x0), (0, x1), (0, x2), (0, x3), (9, 0), (9, 0), (9, 0), (9, 0), (9, 0), (9, 0), (9, 0), (9, 0)] [(1, 0)] μ) ∧ (x8 = y0 → WQ mX3_work d sc (ZI sc Q) 385 [(2, x0), (0, x1), (0, x2), (0, x3), (9, 0), (9, 0), (9, 0), (9, 0), (9, 0), (9, 0), (9, 0), (9, 0)] [(1, 1)] μ)) ∧ (x5 = 40 → (y0 ≤ x8 → WQ mX3_work d sc (ZI sc Q) 482 [(2, x0), (0, x1), (0, x2), (0, x3), (9, 0), (9, 0), (9, 0), (9, 0), (9, 0), (9, 0), (1, 0), (9, 0)] [] μ) ∧ (x8 < y0 → WQ mX3_work d sc (ZI sc Q) 482 [(2, x0), (0, x1), (0, x2), (0, x3), (9, 0), (9, 0), (9, 0), (9, 0), (9, 0), (9, 0), (1, 1), (9, 0)] [] μ)) ∧ (x5 = 41 → (x8 ≤ y0 → WQ mX3_work d sc (ZI sc Q) 482 [(2, x0), (0, x1), (0, x2), (0, x3), (9, 0), (9, 0), (9, 0), (9, 0), (9, 0), (9, 0), (1, 0), (9, 0)] [] μ) ∧ (y0 < x8 → WQ mX3_work d sc (ZI sc Q) 482 [(2, x0), (0, x1), (0, x2), (0, x3), (9, 0), (9, 0), (9, 0), (9, 0), (9, 0), (9, 0), (1, 1), (9, 0)] [] μ)) ∧ ((x5 ≠ 8 ∧ x5 ≠ 12 ∧ x5 ≠ 13 ∧ x5 ≠ 14 ∧ x5 ≠ 32 ∧ x5 ≠ 33 ∧ x5 ≠ 34 ∧ x5 ≠ 39 ∧ x5 ≠ 40 ∧ x5 ≠ 41) → (x6 = 0 → WQ mX3_work d sc (ZI sc Q) 482 [(2, x0), (0, x1), (0, x2), (0, x3), (9, 0), (9, 0), (9, 0), (9, 0), (9, 0), (9, 0), (1, x4), (9, 0)] [] μ) ∧ (x6 ≠ 0 → (-2147483648 ≤ x5 - 15 ∧ x5 - 15 < 2147483648) ∧ (0 ≤ x5 - 15 ∧ x5 - 15 < 9) ∧ (∀ v21 : Int, v21 = μ (x0 + 4) (x5 - 15) → WQ mX3_work d sc (ZI sc Q) 482 [(2, x0), (0, x1), (0, x2), (0, x3), (9, 0), (9, 0), (9, 0), (9, 0), (9, 0), (9, 0), (1, v21), (9, 0)] [] μ)))) :
    WQ mX3_work d sc (ZI sc Q) 161 [(2, x0), (0, x1), (0, x2), (0, x3), (0, x4), (0, x5), (0, x6), (9, 0), (0, x8), (9, 0), (9, 0), (9, 0)] [(0, y0)] μ := by
  refine WP_istore (L' := [(2, x0), (0, x1), (0, x2), (0, x3), (0, x4), (0, x5), (0, x6), (9, 0), (0, x8), (0, y0), (9, 0), (9, 0)]) dX3_work_161 (by decide) rfl ?_
  refine WP_iload dX3_work_163 rfl ?_
  have hD : (x5 ≠ 8 ∧ x5 ≠ 12 ∧ x5 ≠ 13 ∧ x5 ≠ 14 ∧ x5 ≠ 32 ∧ x5 ≠ 33 ∧ x5 ≠ 34 ∧ x5 ≠ 39 ∧ x5 ≠ 40 ∧ x5 ≠ 41) → WQ mX3_work d sc (ZI sc Q) 458 [(2, x0), (0, x1), (0, x2), (0, x3), (0, x4), (0, x5), (0, x6), (9, 0), (0, x8), (0, y0), (9, 0), (9, 0)] [] μ := by
    intro c1
    replace h := h.2.2.2.2.2.2.2.2.2.2 c1
    refine WP_iload dX3_work_458 rfl ?_
    refine WQ_ifeq (tgt := 477) dX3_work_460 (by decide) (fun c18 => ?_) (fun c18 => ?_)
    · replace h := h.1 c18
      refine WP_iload dX3_work_477 rfl ?_
      refine WP_i2l dX3_work_479 ?_
      refine WP_lstore (L' := [(2, x0), (0, x1), (0, x2), (0, x3), (0, x4), (0, x5), (0, x6), (9, 0), (0, x8), (0, y0), (1, x4), (9, 0)]) dX3_work_480 (by decide) rfl ?_
      refine WP_lforget (L' := [(2, x0), (0, x1), (0, x2), (0, x3), (9, 0), (9, 0), (9, 0), (9, 0), (9, 0), (9, 0), (1, x4), (9, 0)]) rfl (fun i hi => ?_) h
      match i, hi with
      | 0, _ => exact Or.inl rfl
      | 1, _ => exact Or.inl rfl
      | 2, _ => exact Or.inl rfl
      | 3, _ => exact Or.inl rfl
      | 4, _ => exact Or.inr rfl
      | 5, _ => exact Or.inr rfl
      | 6, _ => exact Or.inr rfl
      | 7, _ => exact Or.inl rfl
      | 8, _ => exact Or.inr rfl
      | 9, _ => exact Or.inr rfl
      | 10, _ => exact Or.inl rfl
      | 11, _ => exact Or.inl rfl
      | i + 12, hi => exact absurd hi (by simp only [List.length_cons, List.length_nil]; omega)
    · replace h := h.2 c18
      refine WP_aload_n dX3_work_463 rfl rfl ⟨Nat.le_of_ble_eq_true rfl, Nat.le_of_ble_eq_true rfl⟩ ?_
      refine WP_getfield (ci := 3) (j := 5) (n := 9) (t := 2) (x := x0 + 4) dX3_work_464 f_X3_21 hx0 rfl rfl ?_
      refine WP_iload dX3_work_467 rfl ?_
      refine WP_bipush dX3_work_469 (by decide +kernel) (by decide) ?_
      obtain ⟨g19, h⟩ := h
      refine WP_isub dX3_work_471 g19 ?_
      obtain ⟨g20, h⟩ := h
      refine WP_iaload (n := 9) dX3_work_472 (kf_3_5 hx0) g20 ?_
      refine WP_i2l dX3_work_473 ?_
      refine WP_goto (tgt := 480) dX3_work_474 (by decide) ?_
      refine WQ_nm1 (fun v21 e21 => ?_)
      replace h := h v21 e21
      refine WP_lstore (L' := [(2, x0), (0, x1), (0, x2), (0, x3), (0, x4), (0, x5), (0, x6), (9, 0), (0, x8), (0, y0), (1, v21), (9, 0)]) dX3_work_480 (by decide) rfl ?_
      refine WP_lforget (L' := [(2, x0), (0, x1), (0, x2), (0, x3), (9, 0), (9, 0), (9, 0), (9, 0), (9, 0), (9, 0), (1, v21), (9, 0)]) rfl (fun i hi => ?_) h
      match i, hi with
      | 0, _ => exact Or.inl rfl
      | 1, _ => exact Or.inl rfl
      | 2, _ => exact Or.inl rfl
      | 3, _ => exact Or.inl rfl
      | 4, _ => exact Or.inr rfl
      | 5, _ => exact Or.inr rfl
      | 6, _ => exact Or.inr rfl
      | 7, _ => exact Or.inl rfl
      | 8, _ => exact Or.inr rfl
      | 9, _ => exact Or.inr rfl
      | 10, _ => exact Or.inl rfl
      | 11, _ => exact Or.inl rfl
      | i + 12, hi => exact absurd hi (by simp only [List.length_cons, List.length_nil]; omega)
  rcases (show (x5 < 8 ∨ 41 < x5) ∨ x5 = 8 ∨ x5 = 9 ∨ x5 = 10 ∨ x5 = 11 ∨ x5 = 12 ∨ x5 = 13 ∨ x5 = 14 ∨ x5 = 15 ∨ x5 = 16 ∨ x5 = 17 ∨ x5 = 18 ∨ x5 = 19 ∨ x5 = 20 ∨ x5 = 21 ∨ x5 = 22 ∨ x5 = 23 ∨ x5 = 24 ∨ x5 = 25 ∨ x5 = 26 ∨ x5 = 27 ∨ x5 = 28 ∨ x5 = 29 ∨ x5 = 30 ∨ x5 = 31 ∨ x5 = 32 ∨ x5 = 33 ∨ x5 = 34 ∨ x5 = 35 ∨ x5 = 36 ∨ x5 = 37 ∨ x5 = 38 ∨ x5 = 39 ∨ x5 = 40 ∨ x5 = 41 by omega) with c1 | c1 | c1 | c1 | c1 | c1 | c1 | c1 | c1 | c1 | c1 | c1 | c1 | c1 | c1 | c1 | c1 | c1 | c1 | c1 | c1 | c1 | c1 | c1 | c1 | c1 | c1 | c1 | c1 | c1 | c1 | c1 | c1 | c1 | c1
  · exact WP_tableOut (tgt := 458) dX3_work_165 c1 (by decide) (hD (by omega))
  · refine WP_tableIn (tgt := 326) dX3_work_165 (by omega) (by omega) (by rw [c1]; rfl) (by decide) ?_
    replace h := h.1 c1
    refine WP_iload dX3_work_326 rfl ?_
    refine WQ_ifeq (tgt := 337) dX3_work_328 (by decide) (fun c2 => ?_) (fun c2 => ?_)
    · replace h := h.1 c2
      refine WP_aload_n dX3_work_337 rfl rfl ⟨Nat.le_of_ble_eq_true rfl, Nat.le_of_ble_eq_true rfl⟩ ?_
      refine WP_getfield (ci := 3) (j := 6) (n := 9) (t := 2) (x := x0 + 5) dX3_work_338 f_X3_24 hx0 rfl rfl ?_
      refine WP_iload_n dX3_work_341 rfl rfl ?_
      refine WP_iconst dX3_work_342 (by decide) ?_
      obtain ⟨g3, h⟩ := h
      refine WP_iadd dX3_work_343 g3 ?_
      obtain ⟨g4, h⟩ := h
      refine WP_iaload (n := 64) dX3_work_344 (kf_3_6 hx0) g4 ?_
      refine WP_i2l dX3_work_345 ?_
      refine WP_lforget (L' := [(2, x0), (0, x1), (0, x2), (0, x3), (9, 0), (9, 0), (9, 0), (9, 0), (9, 0), (9, 0), (9, 0), (9, 0)]) rfl (fun i hi => ?_) h
      match i, hi with
      | 0, _ => exact Or.inl rfl
      | 1, _ => exact Or.inl rfl
      | 2, _ => exact Or.inl rfl
      | 3, _ => exact Or.inl rfl
      | 4, _ => exact Or.inr rfl
      | 5, _ => exact Or.inr rfl
      | 6, _ => exact Or.inr rfl
      | 7, _ => exact Or.inl rfl
      | 8, _ => exact Or.inr rfl
      | 9, _ => exact Or.inr rfl
      | 10, _ => exact Or.inl rfl
      | 11, _ => exact Or.inl rfl
      | i + 12, hi => exact absurd hi (by simp only [List.length_cons, List.length_nil]; omega)
    · replace h := h.2 c2
      refine WP_iload dX3_work_331 rfl ?_
      refine WP_i2l dX3_work_333 ?_
      refine WP_goto (tgt := 346) dX3_work_334 (by decide) ?_
      refine WP_lforget (L' := [(2, x0), (0, x1), (0, x2), (0, x3), (9, 0), (9, 0), (9, 0), (9, 0), (9, 0), (9, 0), (9, 0), (9, 0)]) rfl (fun i hi => ?_) h
      match i, hi with
      | 0, _ => exact Or.inl rfl
      | 1, _ => exact Or.inl rfl
      | 2, _ => exact Or.inl rfl
      | 3, _ => exact Or.inl rfl
      | 4, _ => exact Or.inr rfl
      | 5, _ => exact Or.inr rfl
      | 6, _ => exact Or.inr rfl
      | 7, _ => exact Or.inl rfl
      | 8, _ => exact Or.inr rfl
      | 9, _ => exact Or.inr rfl
      | 10, _ => exact Or.inl rfl
      | 11, _ => exact Or.inl rfl
      | i + 12, hi => exact absurd hi (by simp only [List.length_cons, List.length_nil]; omega)
  · exact WP_tableIn (tgt := 458) dX3_work_165 (by omega) (by omega) (by rw [c1]; rfl) (by decide) (hD (by omega))
  · exact WP_tableIn (tgt := 458) dX3_work_165 (by omega) (by omega) (by rw [c1]; rfl) (by decide) (hD (by omega))
  · exact WP_tableIn (tgt := 458) dX3_work_165 (by omega) (by omega) (by rw [c1]; rfl) (by decide) (hD (by omega))
  · refine WP_tableIn (tgt := 351) dX3_work_165 (by omega) (by omega) (by rw [c1]; rfl) (by decide) ?_
    replace h := h.2.1 c1
    refine WP_iload dX3_work_351 rfl ?_
    refine WP_iload dX3_work_353 rfl ?_
    refine WP_iand dX3_work_355 ?_
    refine WP_i2l dX3_work_356 ?_
    refine WQ_nm1 (fun v5 e5 => ?_)
    replace h := h v5 e5
    refine WP_lstore (L' := [(2, x0), (0, x1), (0, x2), (0, x3), (0, x4), (0, x5), (0, x6), (9, 0), (0, x8), (0, y0), (1, v5), (9, 0)]) dX3_work_357 (by decide) rfl ?_
    refine WP_goto (tgt := 482) dX3_work_359 (by decide) ?_
    refine WP_lforget (L' := [(2, x0), (0, x1), (0, x2), (0, x3), (9, 0), (9, 0), (9, 0), (9, 0), (9, 0), (9, 0), (1, v5), (9, 0)]) rfl (fun i hi => ?_) h
    match i, hi with
    | 0, _ => exact Or.inl rfl
    | 1, _ => exact Or.inl rfl
    | 2, _ => exact Or.inl rfl
    | 3, _ => exact Or.inl rfl
    | 4, _ => exact Or.inr rfl
    | 5, _ => exact Or.inr rfl
    | 6, _ => exact Or.inr rfl
    | 7, _ => exact Or.inl rfl
    | 8, _ => exact Or.inr rfl
    | 9, _ => exact Or.inr rfl
    | 10, _ => exact Or.inl rfl
    | 11, _ => exact Or.inl rfl
    | i + 12, hi => exact absurd hi (by simp only [List.length_cons, List.length_nil]; omega)
  · refine WP_tableIn (tgt := 362) dX3_work_165 (by omega) (by omega) (by rw [c1]; rfl) (by decide) ?_
    replace h := h.2.2.1 c1
    refine WP_iload dX3_work_362 rfl ?_
    refine WP_iload dX3_work_364 rfl ?_
    refine WP_ior dX3_work_366 ?_
    refine WP_i2l dX3_work_367 ?_
    refine WQ_nm1 (fun v6 e6 => ?_)
    replace h := h v6 e6
    refine WP_lstore (L' := [(2, x0), (0, x1), (0, x2), (0, x3), (0, x4), (0, x5), (0, x6), (9, 0), (0, x8), (0, y0), (1, v6), (9, 0)]) dX3_work_368 (by decide) rfl ?_
    refine WP_goto (tgt := 482) dX3_work_370 (by decide) ?_
    refine WP_lforget (L' := [(2, x0), (0, x1), (0, x2), (0, x3), (9, 0), (9, 0), (9, 0), (9, 0), (9, 0), (9, 0), (1, v6), (9, 0)]) rfl (fun i hi => ?_) h
    match i, hi with
    | 0, _ => exact Or.inl rfl
    | 1, _ => exact Or.inl rfl
    | 2, _ => exact Or.inl rfl
    | 3, _ => exact Or.inl rfl
    | 4, _ => exact Or.inr rfl
    | 5, _ => exact Or.inr rfl
    | 6, _ => exact Or.inr rfl
    | 7, _ => exact Or.inl rfl
    | 8, _ => exact Or.inr rfl
    | 9, _ => exact Or.inr rfl
    | 10, _ => exact Or.inl rfl
    | 11, _ => exact Or.inl rfl
    | i + 12, hi => exact absurd hi (by simp only [List.length_cons, List.length_nil]; omega)
  · refine WP_tableIn (tgt := 316) dX3_work_165 (by omega) (by omega) (by rw [c1]; rfl) (by decide) ?_
    replace h := h.2.2.2.1 c1
    refine WP_iconst dX3_work_316 (by decide) ?_
    refine WP_iload dX3_work_317 rfl ?_
    obtain ⟨g7, h⟩ := h
    refine WP_isub dX3_work_319 g7 ?_
    refine WP_i2l dX3_work_320 ?_
    refine WQ_nm1 (fun v8 e8 => ?_)
    replace h := h v8 e8
    refine WP_lstore (L' := [(2, x0), (0, x1), (0, x2), (0, x3), (0, x4), (0, x5), (0, x6), (9, 0), (0, x8), (0, y0), (1, v8), (9, 0)]) dX3_work_321 (by decide) rfl ?_
    refine WP_goto (tgt := 482) dX3_work_323 (by decide) ?_
    refine WP_lforget (L' := [(2, x0), (0, x1), (0, x2), (0, x3), (9, 0), (9, 0), (9, 0), (9, 0), (9, 0), (9, 0), (1, v8), (9, 0)]) rfl (fun i hi => ?_) h
    match i, hi with
    | 0, _ => exact Or.inl rfl
    | 1, _ => exact Or.inl rfl
    | 2, _ => exact Or.inl rfl
    | 3, _ => exact Or.inl rfl
    | 4, _ => exact Or.inr rfl
    | 5, _ => exact Or.inr rfl
    | 6, _ => exact Or.inr rfl
    | 7, _ => exact Or.inl rfl
    | 8, _ => exact Or.inr rfl
    | 9, _ => exact Or.inr rfl
    | 10, _ => exact Or.inl rfl
    | 11, _ => exact Or.inl rfl
    | i + 12, hi => exact absurd hi (by simp only [List.length_cons, List.length_nil]; omega)
  · exact WP_tableIn (tgt := 458) dX3_work_165 (by omega) (by omega) (by rw [c1]; rfl) (by decide) (hD (by omega))
  · exact WP_tableIn (tgt := 458) dX3_work_165 (by omega) (by omega) (by rw [c1]; rfl) (by decide) (hD (by omega))
  · exact WP_tableIn (tgt := 458) dX3_work_165 (by omega) (by omega) (by rw [c1]; rfl) (by decide) (hD (by omega))
  · exact WP_tableIn (tgt := 458) dX3_work_165 (by omega) (by omega) (by rw [c1]; rfl) (by decide) (hD (by omega))
  · exact WP_tableIn (tgt := 458) dX3_work_165 (by omega) (by omega) (by rw [c1]; rfl) (by decide) (hD (by omega))
  · exact WP_tableIn (tgt := 458) dX3_work_165 (by omega) (by omega) (by rw [c1]; rfl) (by decide) (hD (by omega))
  · exact WP_tableIn (tgt := 458) dX3_work_165 (by omega) (by omega) (by rw [c1]; rfl) (by decide) (hD (by omega))
  · exact WP_tableIn (tgt := 458) dX3_work_165 (by omega) (by omega) (by rw [c1]; rfl) (by decide) (hD (by omega))
  · exact WP_tableIn (tgt := 458) dX3_work_165 (by omega) (by omega) (by rw [c1]; rfl) (by decide) (hD (by omega))
  · exact WP_tableIn (tgt := 458) dX3_work_165 (by omega) (by omega) (by rw [c1]; rfl) (by decide) (hD (by omega))
  · exact WP_tableIn (tgt := 458) dX3_work_165 (by omega) (by omega) (by rw [c1]; rfl) (by decide) (hD (by omega))
  · exact WP_tableIn (tgt := 458) dX3_work_165 (by omega) (by omega) (by rw [c1]; rfl) (by decide) (hD (by omega))
  · exact WP_tableIn (tgt := 458) dX3_work_165 (by omega) (by omega) (by rw [c1]; rfl) (by decide) (hD (by omega))
  · exact WP_tableIn (tgt := 458) dX3_work_165 (by omega) (by omega) (by rw [c1]; rfl) (by decide) (hD (by omega))
  · exact WP_tableIn (tgt := 458) dX3_work_165 (by omega) (by omega) (by rw [c1]; rfl) (by decide) (hD (by omega))
  · exact WP_tableIn (tgt := 458) dX3_work_165 (by omega) (by omega) (by rw [c1]; rfl) (by decide) (hD (by omega))
  · exact WP_tableIn (tgt := 458) dX3_work_165 (by omega) (by omega) (by rw [c1]; rfl) (by decide) (hD (by omega))
  · refine WP_tableIn (tgt := 424) dX3_work_165 (by omega) (by omega) (by rw [c1]; rfl) (by decide) ?_
    replace h := h.2.2.2.2.1 c1
    refine WP_iload dX3_work_424 rfl ?_
    refine WP_iload dX3_work_426 rfl ?_
    obtain ⟨g9, h⟩ := h
    refine WP_iadd dX3_work_428 g9 ?_
    refine WP_i2l dX3_work_429 ?_
    refine WQ_nm1 (fun v10 e10 => ?_)
    replace h := h v10 e10
    refine WP_lstore (L' := [(2, x0), (0, x1), (0, x2), (0, x3), (0, x4), (0, x5), (0, x6), (9, 0), (0, x8), (0, y0), (1, v10), (9, 0)]) dX3_work_430 (by decide) rfl ?_
    refine WP_goto (tgt := 482) dX3_work_432 (by decide) ?_
    refine WP_lforget (L' := [(2, x0), (0, x1), (0, x2), (0, x3), (9, 0), (9, 0), (9, 0), (9, 0), (9, 0), (9, 0), (1, v10), (9, 0)]) rfl (fun i hi => ?_) h
    match i, hi with
    | 0, _ => exact Or.inl rfl
    | 1, _ => exact Or.inl rfl
    | 2, _ => exact Or.inl rfl
    | 3, _ => exact Or.inl rfl
    | 4, _ => exact Or.inr rfl
    | 5, _ => exact Or.inr rfl
    | 6, _ => exact Or.inr rfl
    | 7, _ => exact Or.inl rfl
    | 8, _ => exact Or.inr rfl
    | 9, _ => exact Or.inr rfl
    | 10, _ => exact Or.inl rfl
    | 11, _ => exact Or.inl rfl
    | i + 12, hi => exact absurd hi (by simp only [List.length_cons, List.length_nil]; omega)
  · refine WP_tableIn (tgt := 435) dX3_work_165 (by omega) (by omega) (by rw [c1]; rfl) (by decide) ?_
    replace h := h.2.2.2.2.2.1 c1
    refine WP_iload dX3_work_435 rfl ?_
    refine WP_iload dX3_work_437 rfl ?_
    obtain ⟨g11, h⟩ := h
    refine WP_isub dX3_work_439 g11 ?_
    refine WP_i2l dX3_work_440 ?_
    refine WQ_nm1 (fun v12 e12 => ?_)
    replace h := h v12 e12
    refine WP_lstore (L' := [(2, x0), (0, x1), (0, x2), (0, x3), (0, x4), (0, x5), (0, x6), (9, 0), (0, x8), (0, y0), (1, v12), (9, 0)]) dX3_work_441 (by decide) rfl ?_
    refine WP_goto (tgt := 482) dX3_work_443 (by decide) ?_
    refine WP_lforget (L' := [(2, x0), (0, x1), (0, x2), (0, x3), (9, 0), (9, 0), (9, 0), (9, 0), (9, 0), (9, 0), (1, v12), (9, 0)]) rfl (fun i hi => ?_) h
    match i, hi with
    | 0, _ => exact Or.inl rfl
    | 1, _ => exact Or.inl rfl
    | 2, _ => exact Or.inl rfl
    | 3, _ => exact Or.inl rfl
    | 4, _ => exact Or.inr rfl
    | 5, _ => exact Or.inr rfl
    | 6, _ => exact Or.inr rfl
    | 7, _ => exact Or.inl rfl
    | 8, _ => exact Or.inr rfl
    | 9, _ => exact Or.inr rfl
    | 10, _ => exact Or.inl rfl
    | 11, _ => exact Or.inl rfl
    | i + 12, hi => exact absurd hi (by simp only [List.length_cons, List.length_nil]; omega)
  · refine WP_tableIn (tgt := 446) dX3_work_165 (by omega) (by omega) (by rw [c1]; rfl) (by decide) ?_
    replace h := h.2.2.2.2.2.2.1 c1
    refine WP_iload dX3_work_446 rfl ?_
    refine WP_i2l dX3_work_448 ?_
    refine WP_iload dX3_work_449 rfl ?_
    refine WP_i2l dX3_work_451 ?_
    obtain ⟨g13, h⟩ := h
    refine WP_lmul dX3_work_452 g13 ?_
    refine WQ_nm1 (fun v14 e14 => ?_)
    replace h := h v14 e14
    refine WP_lstore (L' := [(2, x0), (0, x1), (0, x2), (0, x3), (0, x4), (0, x5), (0, x6), (9, 0), (0, x8), (0, y0), (1, v14), (9, 0)]) dX3_work_453 (by decide) rfl ?_
    refine WP_goto (tgt := 482) dX3_work_455 (by decide) ?_
    refine WP_lforget (L' := [(2, x0), (0, x1), (0, x2), (0, x3), (9, 0), (9, 0), (9, 0), (9, 0), (9, 0), (9, 0), (1, v14), (9, 0)]) rfl (fun i hi => ?_) h
    match i, hi with
    | 0, _ => exact Or.inl rfl
    | 1, _ => exact Or.inl rfl
    | 2, _ => exact Or.inl rfl
    | 3, _ => exact Or.inl rfl
    | 4, _ => exact Or.inr rfl
    | 5, _ => exact Or.inr rfl
    | 6, _ => exact Or.inr rfl
    | 7, _ => exact Or.inl rfl
    | 8, _ => exact Or.inr rfl
    | 9, _ => exact Or.inr rfl
    | 10, _ => exact Or.inl rfl
    | 11, _ => exact Or.inl rfl
    | i + 12, hi => exact absurd hi (by simp only [List.length_cons, List.length_nil]; omega)
  · exact WP_tableIn (tgt := 458) dX3_work_165 (by omega) (by omega) (by rw [c1]; rfl) (by decide) (hD (by omega))
  · exact WP_tableIn (tgt := 458) dX3_work_165 (by omega) (by omega) (by rw [c1]; rfl) (by decide) (hD (by omega))
  · exact WP_tableIn (tgt := 458) dX3_work_165 (by omega) (by omega) (by rw [c1]; rfl) (by decide) (hD (by omega))
  · exact WP_tableIn (tgt := 458) dX3_work_165 (by omega) (by omega) (by rw [c1]; rfl) (by decide) (hD (by omega))
  · refine WP_tableIn (tgt := 373) dX3_work_165 (by omega) (by omega) (by rw [c1]; rfl) (by decide) ?_
    replace h := h.2.2.2.2.2.2.2.1 c1
    refine WP_iload dX3_work_373 rfl ?_
    refine WP_iload dX3_work_375 rfl ?_
    refine WQ_icmp_ne (tgt := 384) dX3_work_377 (by decide) (fun c15 => ?_) (fun c15 => ?_)
    · replace h := h.1 c15
      refine WP_lconst dX3_work_384 rfl ?_
      refine WP_lforget (L' := [(2, x0), (0, x1), (0, x2), (0, x3), (9, 0), (9, 0), (9, 0), (9, 0), (9, 0), (9, 0), (9, 0), (9, 0)]) rfl (fun i hi => ?_) h
      match i, hi with
      | 0, _ => exact Or.inl rfl
      | 1, _ => exact Or.inl rfl
      | 2, _ => exact Or.inl rfl
      | 3, _ => exact Or.inl rfl
      | 4, _ => exact Or.inr rfl
      | 5, _ => exact Or.inr rfl
      | 6, _ => exact Or.inr rfl
      | 7, _ => exact Or.inl rfl
      | 8, _ => exact Or.inr rfl
      | 9, _ => exact Or.inr rfl
      | 10, _ => exact Or.inl rfl
      | 11, _ => exact Or.inl rfl
      | i + 12, hi => exact absurd hi (by simp only [List.length_cons, List.length_nil]; omega)
    · replace h := h.2 c15
      refine WP_lconst dX3_work_380 rfl ?_
      refine WP_goto (tgt := 385) dX3_work_381 (by decide) ?_
      refine WP_lforget (L' := [(2, x0), (0, x1), (0, x2), (0, x3), (9, 0), (9, 0), (9, 0), (9, 0), (9, 0), (9, 0), (9, 0), (9, 0)]) rfl (fun i hi => ?_) h
      match i, hi with
      | 0, _ => exact Or.inl rfl
      | 1, _ => exact Or.inl rfl
      | 2, _ => exact Or.inl rfl
      | 3, _ => exact Or.inl rfl
      | 4, _ => exact Or.inr rfl
      | 5, _ => exact Or.inr rfl
      | 6, _ => exact Or.inr rfl
      | 7, _ => exact Or.inl rfl
      | 8, _ => exact Or.inr rfl
      | 9, _ => exact Or.inr rfl
      | 10, _ => exact Or.inl rfl
      | 11, _ => exact Or.inl rfl
      | i + 12, hi => exact absurd hi (by simp only [List.length_cons, List.length_nil]; omega)
  · refine WP_tableIn (tgt := 390) dX3_work_165 (by omega) (by omega) (by rw [c1]; rfl) (by decide) ?_
    replace h := h.2.2.2.2.2.2.2.2.1 c1
    refine WP_iload dX3_work_390 rfl ?_
    refine WP_iload dX3_work_392 rfl ?_
    refine WQ_icmp_ge (tgt := 401) dX3_work_394 (by decide) (fun c16 => ?_) (fun c16 => ?_)
    · replace h := h.1 c16
      refine WP_lconst dX3_work_401 rfl ?_
      refine WP_lstore (L' := [(2, x0), (0, x1), (0, x2), (0, x3), (0, x4), (0, x5), (0, x6), (9, 0), (0, x8), (0, y0), (1, 0), (9, 0)]) dX3_work_402 (by decide) rfl ?_
      refine WP_goto (tgt := 482) dX3_work_404 (by decide) ?_
      refine WP_lforget (L' := [(2, x0), (0, x1), (0, x2), (0, x3), (9, 0), (9, 0), (9, 0), (9, 0), (9, 0), (9, 0), (1, 0), (9, 0)]) rfl (fun i hi => ?_) h
      match i, hi with
      | 0, _ => exact Or.inl rfl
      | 1, _ => exact Or.inl rfl
      | 2, _ => exact Or.inl rfl
      | 3, _ => exact Or.inl rfl
      | 4, _ => exact Or.inr rfl
      | 5, _ => exact Or.inr rfl
      | 6, _ => exact Or.inr rfl
      | 7, _ => exact Or.inl rfl
      | 8, _ => exact Or.inr rfl
      | 9, _ => exact Or.inr rfl
      | 10, _ => exact Or.inl rfl
      | 11, _ => exact Or.inl rfl
      | i + 12, hi => exact absurd hi (by simp only [List.length_cons, List.length_nil]; omega)
    · replace h := h.2 c16
      refine WP_lconst dX3_work_397 rfl ?_
      refine WP_goto (tgt := 402) dX3_work_398 (by decide) ?_
      refine WP_lstore (L' := [(2, x0), (0, x1), (0, x2), (0, x3), (0, x4), (0, x5), (0, x6), (9, 0), (0, x8), (0, y0), (1, 1), (9, 0)]) dX3_work_402 (by decide) rfl ?_
      refine WP_goto (tgt := 482) dX3_work_404 (by decide) ?_
      refine WP_lforget (L' := [(2, x0), (0, x1), (0, x2), (0, x3), (9, 0), (9, 0), (9, 0), (9, 0), (9, 0), (9, 0), (1, 1), (9, 0)]) rfl (fun i hi => ?_) h
      match i, hi with
      | 0, _ => exact Or.inl rfl
      | 1, _ => exact Or.inl rfl
      | 2, _ => exact Or.inl rfl
      | 3, _ => exact Or.inl rfl
      | 4, _ => exact Or.inr rfl
      | 5, _ => exact Or.inr rfl
      | 6, _ => exact Or.inr rfl
      | 7, _ => exact Or.inl rfl
      | 8, _ => exact Or.inr rfl
      | 9, _ => exact Or.inr rfl
      | 10, _ => exact Or.inl rfl
      | 11, _ => exact Or.inl rfl
      | i + 12, hi => exact absurd hi (by simp only [List.length_cons, List.length_nil]; omega)
  · refine WP_tableIn (tgt := 407) dX3_work_165 (by omega) (by omega) (by rw [c1]; rfl) (by decide) ?_
    replace h := h.2.2.2.2.2.2.2.2.2.1 c1
    refine WP_iload dX3_work_407 rfl ?_
    refine WP_iload dX3_work_409 rfl ?_
    refine WQ_icmp_le (tgt := 418) dX3_work_411 (by decide) (fun c17 => ?_) (fun c17 => ?_)
    · replace h := h.1 c17
      refine WP_lconst dX3_work_418 rfl ?_
      refine WP_lstore (L' := [(2, x0), (0, x1), (0, x2), (0, x3), (0, x4), (0, x5), (0, x6), (9, 0), (0, x8), (0, y0), (1, 0), (9, 0)]) dX3_work_419 (by decide) rfl ?_
      refine WP_goto (tgt := 482) dX3_work_421 (by decide) ?_
      refine WP_lforget (L' := [(2, x0), (0, x1), (0, x2), (0, x3), (9, 0), (9, 0), (9, 0), (9, 0), (9, 0), (9, 0), (1, 0), (9, 0)]) rfl (fun i hi => ?_) h
      match i, hi with
      | 0, _ => exact Or.inl rfl
      | 1, _ => exact Or.inl rfl
      | 2, _ => exact Or.inl rfl
      | 3, _ => exact Or.inl rfl
      | 4, _ => exact Or.inr rfl
      | 5, _ => exact Or.inr rfl
      | 6, _ => exact Or.inr rfl
      | 7, _ => exact Or.inl rfl
      | 8, _ => exact Or.inr rfl
      | 9, _ => exact Or.inr rfl
      | 10, _ => exact Or.inl rfl
      | 11, _ => exact Or.inl rfl
      | i + 12, hi => exact absurd hi (by simp only [List.length_cons, List.length_nil]; omega)
    · replace h := h.2 c17
      refine WP_lconst dX3_work_414 rfl ?_
      refine WP_goto (tgt := 419) dX3_work_415 (by decide) ?_
      refine WP_lstore (L' := [(2, x0), (0, x1), (0, x2), (0, x3), (0, x4), (0, x5), (0, x6), (9, 0), (0, x8), (0, y0), (1, 1), (9, 0)]) dX3_work_419 (by decide) rfl ?_
      refine WP_goto (tgt := 482) dX3_work_421 (by decide) ?_
      refine WP_lforget (L' := [(2, x0), (0, x1), (0, x2), (0, x3), (9, 0), (9, 0), (9, 0), (9, 0), (9, 0), (9, 0), (1, 1), (9, 0)]) rfl (fun i hi => ?_) h
      match i, hi with
      | 0, _ => exact Or.inl rfl
      | 1, _ => exact Or.inl rfl
      | 2, _ => exact Or.inl rfl
      | 3, _ => exact Or.inl rfl
      | 4, _ => exact Or.inr rfl
      | 5, _ => exact Or.inr rfl
      | 6, _ => exact Or.inr rfl
      | 7, _ => exact Or.inl rfl
      | 8, _ => exact Or.inr rfl
      | 9, _ => exact Or.inr rfl
      | 10, _ => exact Or.inl rfl
      | 11, _ => exact Or.inl rfl
      | i + 12, hi => exact absurd hi (by simp only [List.length_cons, List.length_nil]; omega)

theorem s_X3_work_346 {d : Nat} {sc : SC} {Q : Int → Mem → Prop} {μ : Mem} {x0 x1 x2 x3 y0 : Int} (hx0 : isK 3 x0)
    (h : WQ mX3_work d sc (ZI sc Q) 482 [(2, x0), (0, x1), (0, x2), (0, x3), (9, 0), (9, 0), (9, 0), (9, 0), (9, 0), (9, 0), (1, y0), (9, 0)] [] μ) :
    WQ mX3_work d sc (ZI sc Q) 346 [(2, x0), (0, x1), (0, x2), (0, x3), (9, 0), (9, 0), (9, 0), (9, 0), (9, 0), (9, 0), (9, 0), (9, 0)] [(1, y0)] μ := by
  refine WP_lstore (L' := [(2, x0), (0, x1), (0, x2), (0, x3), (9, 0), (9, 0), (9, 0), (9, 0), (9, 0), (9, 0), (1, y0), (9, 0)]) dX3_work_346 (by decide) rfl ?_
  refine WP_goto (tgt := 482) dX3_work_348 (by decide) ?_
  exact h

theorem s_X3_work_385 {d : Nat} {sc : SC} {Q : Int → Mem → Prop} {μ : Mem} {x0 x1 x2 x3 y0 : Int} (hx0 : isK 3 x0)
    (h : WQ mX3_work d sc (ZI sc Q) 482 [(2, x0), (0, x1), (0, x2), (0, x3), (9, 0), (9, 0), (9, 0), (9, 0), (9, 0), (9, 0), (1, y0), (9, 0)] [] μ) :
    WQ mX3_work d sc (ZI sc Q) 385 [(2, x0), (0, x1), (0, x2), (0, x3), (9, 0), (9, 0), (9, 0), (9, 0), (9, 0), (9, 0), (9, 0), (9, 0)] [(1, y0)] μ := by
  refine WP_lstore (L' := [(2, x0), (0, x1), (0, x2), (0, x3), (9, 0), (9, 0), (9, 0), (9, 0), (9, 0), (9, 0), (1, y0), (9, 0)]) dX3_work_385 (by decide) rfl ?_
  refine WP_goto (tgt := 482) dX3_work_387 (by decide) ?_
  exact h

theorem s_X3_work_482 {d : Nat} {sc : SC} {Q : Int → Mem → Prop} {μ : Mem} {x0 x1 x2 x3 x10 : Int} (hd2 : 2 ≤ d) (hx0 : isK 3 x0)
    (h : (0 ≤ x2 ∧ x2 < 64) ∧ (∀ μ2, μ2 = mup μ (x0 + 5) x2 (w32 (max (-1000000) (min 1000000 x10))) → (-2147483648 ≤ x2 + 1 ∧ x2 + 1 < 2147483648) ∧ ∀ v4 : Int, v4 = x2 + 1 → (-2147483648 ≤ x3 + 1 ∧ x3 + 1 < 2147483648) ∧ ∀ v6 : Int, v6 = x3 + 1 → WQ mX3_work d sc (ZI sc Q) 12 [(2, x0), (0, x1), (0, v4), (0, v6), (9, 0), (9, 0), (9, 0), (9, 0), (9, 0), (9, 0), (9, 0), (9, 0)] [] μ2)) :
    WQ mX3_work d sc (ZI sc Q) 482 [(2, x0), (0, x1), (0, x2), (0, x3), (9, 0), (9, 0), (9, 0), (9, 0), (9, 0), (9, 0), (1, x10), (9, 0)] [] μ := by
  refine WP_aload_n dX3_work_482 rfl rfl ⟨Nat.le_of_ble_eq_true rfl, Nat.le_of_ble_eq_true rfl⟩ ?_
  refine WP_getfield (ci := 3) (j := 6) (n := 9) (t := 2) (x := x0 + 5) dX3_work_483 f_X3_24 hx0 rfl rfl ?_
  refine WP_iload_n dX3_work_486 rfl rfl ?_
  refine WP_ldc2 dX3_work_487 c_X3_114 (by decide) ?_
  refine WP_ldc2 dX3_work_490 c_X3_116 (by decide) ?_
  refine WP_lload dX3_work_493 rfl ?_
  refine WQ_mminL (by omega) dX3_work_495 l_X3_118 (Nat.le_of_ble_eq_true rfl) ?_
  refine WQ_mmaxL (by omega) dX3_work_498 l_X3_121 (Nat.le_of_ble_eq_true rfl) ?_
  refine WP_l2i dX3_work_501 ?_
  obtain ⟨g1, h⟩ := h
  refine WQ_iast (n := 64) dX3_work_502 (kf_3_6 hx0) g1 (fun μ2 eμ2 => ?_)
  replace h := h μ2 eμ2
  obtain ⟨g3, h⟩ := h
  refine WQ_iinc dX3_work_503 rfl (by decide) g3 (fun v4 e4 => ?_)
  refine WP_same (L' := [(2, x0), (0, x1), (0, v4), (0, x3), (9, 0), (9, 0), (9, 0), (9, 0), (9, 0), (9, 0), (1, x10), (9, 0)]) rfl ?_
  replace h := h v4 e4
  obtain ⟨g5, h⟩ := h
  refine WQ_iinc dX3_work_506 rfl (by decide) g5 (fun v6 e6 => ?_)
  refine WP_same (L' := [(2, x0), (0, x1), (0, v4), (0, v6), (9, 0), (9, 0), (9, 0), (9, 0), (9, 0), (9, 0), (1, x10), (9, 0)]) rfl ?_
  replace h := h v6 e6
  refine WP_goto (tgt := 12) dX3_work_509 (by decide) ?_
  refine WP_lforget (L' := [(2, x0), (0, x1), (0, v4), (0, v6), (9, 0), (9, 0), (9, 0), (9, 0), (9, 0), (9, 0), (9, 0), (9, 0)]) rfl (fun i hi => ?_) h
  match i, hi with
  | 0, _ => exact Or.inl rfl
  | 1, _ => exact Or.inl rfl
  | 2, _ => exact Or.inl rfl
  | 3, _ => exact Or.inl rfl
  | 4, _ => exact Or.inl rfl
  | 5, _ => exact Or.inl rfl
  | 6, _ => exact Or.inl rfl
  | 7, _ => exact Or.inl rfl
  | 8, _ => exact Or.inl rfl
  | 9, _ => exact Or.inl rfl
  | 10, _ => exact Or.inr rfl
  | 11, _ => exact Or.inl rfl
  | i + 12, hi => exact absurd hi (by simp only [List.length_cons, List.length_nil]; omega)

theorem s_X4_reckon_0 {d : Nat} {sc : SC} {Q : Mem → Prop} {μ : Mem} {a1 a2 a3 a4 : Int} (ha1 : isK 1 a1) (ha2 : isK 3 a2) (ha3 : isK 6 a3) (ha4 : isK 0 a4)
    (h : CAv mJ7_fill_d0a16 d sc [(2, 118), (1, 0)] μ (fun μ2 => CAv mJ7_fill_d0a16 d sc [(2, 119), (1, 0)] μ2 (fun μ4 => ∀ μ5, μ5 = mup μ4 117 1 1 → WQ mX4_reckon d sc (ZV sc Q) 30 [(2, 117), (2, a1), (2, a2), (2, a3), (2, a4), (2, a1 + 7), (0, 0), (9, 0), (9, 0), (9, 0)] [] μ5))) :
    WQ mX4_reckon d sc (ZV sc Q) 0 [(2, 117), (2, a1), (2, a2), (2, a3), (2, a4), (9, 0), (9, 0), (9, 0), (9, 0), (9, 0)] [] μ := by
  refine WP_aload_n dX4_reckon_0 rfl rfl ⟨Nat.le_of_ble_eq_true rfl, Nat.le_of_ble_eq_true rfl⟩ ?_
  refine WP_getfield (ci := 1) (j := 10) (n := 11) (t := 2) (x := a1 + 7) dX4_reckon_1 f_X4_18 ha1 rfl rfl ?_
  refine WP_astore (L' := [(2, 117), (2, a1), (2, a2), (2, a3), (2, a4), (2, a1 + 7), (9, 0), (9, 0), (9, 0), (9, 0)]) dX4_reckon_4 (by decide) (Nat.le_of_ble_eq_true rfl) rfl ?_
  refine WP_aload_n dX4_reckon_6 rfl rfl ⟨Nat.le_of_ble_eq_true rfl, Nat.le_of_ble_eq_true rfl⟩ ?_
  refine WP_getfield (ci := 4) (j := 2) (n := 4) (t := 2) (x := 118) dX4_reckon_7 f_X4_9 k_117 rfl rfl ?_
  refine WP_lconst dX4_reckon_10 rfl ?_
  refine WQ_invSv (as := [(2, 118), (1, 0)]) dX4_reckon_11 l_X4_24 mw_J7_fill_d0a16 mt_J7_fill_d0a16 mo_J7_fill_d0a16 (Nat.le_of_ble_eq_true rfl) h rfl (fun μ2 h => ?_)
  refine WP_aload_n dX4_reckon_14 rfl rfl ⟨Nat.le_of_ble_eq_true rfl, Nat.le_of_ble_eq_true rfl⟩ ?_
  refine WP_getfield (ci := 4) (j := 3) (n := 4) (t := 2) (x := 119) dX4_reckon_15 f_X4_15 k_117 rfl rfl ?_
  refine WP_lconst dX4_reckon_18 rfl ?_
  refine WQ_invSv (as := [(2, 119), (1, 0)]) dX4_reckon_19 l_X4_24 mw_J7_fill_d0a16 mt_J7_fill_d0a16 mo_J7_fill_d0a16 (Nat.le_of_ble_eq_true rfl) h rfl (fun μ4 h => ?_)
  refine WP_aload_n dX4_reckon_22 rfl rfl ⟨Nat.le_of_ble_eq_true rfl, Nat.le_of_ble_eq_true rfl⟩ ?_
  refine WP_lconst dX4_reckon_23 rfl ?_
  refine WQ_put (ci := 4) (j := 1) (n := 4) dX4_reckon_24 f_X4_30 k_117 rfl (fun μ5 eμ5 => ?_)
  replace h := h μ5 eμ5
  refine WP_iconst dX4_reckon_27 (by decide) ?_
  refine WP_istore (L' := [(2, 117), (2, a1), (2, a2), (2, a3), (2, a4), (2, a1 + 7), (0, 0), (9, 0), (9, 0), (9, 0)]) dX4_reckon_28 (by decide) rfl ?_
  exact h

theorem s_X4_reckon_30 {d : Nat} {sc : SC} {Q : Mem → Prop} {μ : Mem} {x1 x2 x3 x4 x5 x6 : Int} (hx1 : isK 1 x1) (hx2 : isK 3 x2) (hx3 : isK 6 x3) (hx4 : isK 0 x4) (hx5 : isK 6 x5)
    (h : (μ x5 0 ≤ x6 → WQ mX4_reckon d sc (ZV sc Q) 61 [(2, 117), (2, x1), (2, x2), (2, x3), (2, x4), (2, x5), (0, 0), (9, 0), (9, 0), (9, 0)] [] μ) ∧ (x6 < μ x5 0 → (-9223372036854775808 ≤ (μ 117 1) * 10 ∧ (μ 117 1) * 10 < 9223372036854775808) ∧ (∀ μ3, μ3 = mup μ 117 1 ((μ 117 1) * 10) → (-2147483648 ≤ x6 + 1 ∧ x6 + 1 < 2147483648) ∧ ∀ v5 : Int, v5 = x6 + 1 → WQ mX4_reckon d sc (ZV sc Q) 30 [(2, 117), (2, x1), (2, x2), (2, x3), (2, x4), (2, x5), (0, v5), (9, 0), (9, 0), (9, 0)] [] μ3))) :
    WQ mX4_reckon d sc (ZV sc Q) 30 [(2, 117), (2, x1), (2, x2), (2, x3), (2, x4), (2, x5), (0, x6), (9, 0), (9, 0), (9, 0)] [] μ := by
  refine WP_iload dX4_reckon_30 rfl ?_
  refine WP_aload dX4_reckon_32 rfl ⟨Nat.le_of_ble_eq_true rfl, Nat.le_of_ble_eq_true rfl⟩ ?_
  refine WP_getfield (ci := 6) (j := 0) (n := 7) (t := 0) (x := μ x5 0) dX4_reckon_34 f_X4_34 hx5 rfl rfl ?_
  refine WQ_icmp_ge (tgt := 58) dX4_reckon_37 (by decide) (fun c1 => ?_) (fun c1 => ?_)
  · replace h := h.1 c1
    refine WP_iconst dX4_reckon_58 (by decide) ?_
    refine WP_istore (L' := [(2, 117), (2, x1), (2, x2), (2, x3), (2, x4), (2, x5), (0, 0), (9, 0), (9, 0), (9, 0)]) dX4_reckon_59 (by decide) rfl ?_
    exact h
  · replace h := h.2 c1
    refine WP_aload_n dX4_reckon_40 rfl rfl ⟨Nat.le_of_ble_eq_true rfl, Nat.le_of_ble_eq_true rfl⟩ ?_
    refine WP_dup dX4_reckon_41 (by simp) ?_
    refine WP_getfield (ci := 4) (j := 1) (n := 4) (t := 1) (x := μ 117 1) dX4_reckon_42 f_X4_30 k_117 rfl rfl ?_
    refine WP_ldc2 dX4_reckon_45 c_X4_40 (by decide) ?_
    obtain ⟨g2, h⟩ := h
    refine WP_lmul dX4_reckon_48 g2 ?_
    refine WQ_put (ci := 4) (j := 1) (n := 4) dX4_reckon_49 f_X4_30 k_117 rfl (fun μ3 eμ3 => ?_)
    replace h := h μ3 eμ3
    obtain ⟨g4, h⟩ := h
    refine WQ_iinc dX4_reckon_52 rfl (by decide) g4 (fun v5 e5 => ?_)
    refine WP_same (L' := [(2, 117), (2, x1), (2, x2), (2, x3), (2, x4), (2, x5), (0, v5), (9, 0), (9, 0), (9, 0)]) rfl ?_
    replace h := h v5 e5
    refine WP_goto (tgt := 30) dX4_reckon_55 (by decide) ?_
    exact h

theorem s_X4_reckon_61 {d : Nat} {sc : SC} {Q : Mem → Prop} {μ : Mem} {x1 x2 x3 x4 x5 x6 : Int} (hx1 : isK 1 x1) (hx2 : isK 3 x2) (hx3 : isK 6 x3) (hx4 : isK 0 x4) (hx5 : isK 6 x5)
    (h : (iShl 1 (μ x5 0) ≤ x6 → ∀ μ2, μ2 = mup μ 117 0 1 → Q μ2) ∧ (x6 < iShl 1 (μ x5 0) → CAl mX4_tellSome d sc [(2, x5), (0, x6), (2, x3)] μ (fun r3 μ4 => (r3 = 0 → (-2147483648 ≤ x6 + 1 ∧ x6 + 1 < 2147483648) ∧ ∀ v7 : Int, v7 = x6 + 1 → WQ mX4_reckon d sc (ZV sc Q) 61 [(2, 117), (2, x1), (2, x2), (2, x3), (2, x4), (2, x5), (0, v7), (9, 0), (9, 0), (9, 0)] [] μ4) ∧ (r3 ≠ 0 → CAi mX0_run d sc [(2, x4), (2, x3), (2, x2), (0, 99), (0, (-1))] μ4 (fun r8 μ9 => WQ mX4_reckon d sc (ZV sc Q) 104 [(2, 117), (2, x1), (2, x2), (2, x3), (2, x4), (2, x5), (0, x6), (1, r3), (9, 0), (0, 0)] [] μ9))))) :
    WQ mX4_reckon d sc (ZV sc Q) 61 [(2, 117), (2, x1), (2, x2), (2, x3), (2, x4), (2, x5), (0, x6), (9, 0), (9, 0), (9, 0)] [] μ := by
  refine WP_iload dX4_reckon_61 rfl ?_
  refine WP_iconst dX4_reckon_63 (by decide) ?_
  refine WP_aload dX4_reckon_64 rfl ⟨Nat.le_of_ble_eq_true rfl, Nat.le_of_ble_eq_true rfl⟩ ?_
  refine WP_getfield (ci := 6) (j := 0) (n := 7) (t := 0) (x := μ x5 0) dX4_reckon_66 f_X4_34 hx5 rfl rfl ?_
  refine WP_ishl dX4_reckon_69 ?_
  refine WQ_icmp_ge (tgt := 174) dX4_reckon_70 (by decide) (fun c1 => ?_) (fun c1 => ?_)
  · replace h := h.1 c1
    refine WP_aload_n dX4_reckon_174 rfl rfl ⟨Nat.le_of_ble_eq_true rfl, Nat.le_of_ble_eq_true rfl⟩ ?_
    refine WP_iconst dX4_reckon_175 (by decide) ?_
    refine WQ_putz (ci := 4) (j := 0) (n := 4) dX4_reckon_176 f_X4_59 k_117 rfl ⟨by decide, by decide⟩ (fun μ2 eμ2 => ?_)
    replace h := h μ2 eμ2
    exact WQ_return dX4_reckon_179 rfl h
  · replace h := h.2 c1
    refine WP_aload dX4_reckon_73 rfl ⟨Nat.le_of_ble_eq_true rfl, Nat.le_of_ble_eq_true rfl⟩ ?_
    refine WP_iload dX4_reckon_75 rfl ?_
    refine WP_aload_n dX4_reckon_77 rfl rfl ⟨Nat.le_of_ble_eq_true rfl, Nat.le_of_ble_eq_true rfl⟩ ?_
    refine WQ_invSl (as := [(2, x5), (0, x6), (2, x3)]) dX4_reckon_78 l_X4_42 mw_X4_tellSome mt_X4_tellSome mo_X4_tellSome (Nat.le_of_ble_eq_true rfl) h rfl (fun r3 μ4 h => ?_)
    refine WP_lstore (L' := [(2, 117), (2, x1), (2, x2), (2, x3), (2, x4), (2, x5), (0, x6), (1, r3), (9, 0), (9, 0)]) dX4_reckon_81 (by decide) rfl ?_
    refine WP_lload dX4_reckon_83 rfl ?_
    refine WP_lconst dX4_reckon_85 rfl ?_
    refine WQ_lifeq (tgt := 168) dX4_reckon_86 dX4_reckon_87 (by decide) (fun c5 => ?_) (fun c5 => ?_)
    · replace h := h.1 c5
      obtain ⟨g6, h⟩ := h
      refine WQ_iinc dX4_reckon_168 rfl (by decide) g6 (fun v7 e7 => ?_)
      refine WP_same (L' := [(2, 117), (2, x1), (2, x2), (2, x3), (2, x4), (2, x5), (0, v7), (1, r3), (9, 0), (9, 0)]) rfl ?_
      replace h := h v7 e7
      refine WP_goto (tgt := 61) dX4_reckon_171 (by decide) ?_
      refine WP_lforget (L' := [(2, 117), (2, x1), (2, x2), (2, x3), (2, x4), (2, x5), (0, v7), (9, 0), (9, 0), (9, 0)]) rfl (fun i hi => ?_) h
      match i, hi with
      | 0, _ => exact Or.inl rfl
      | 1, _ => exact Or.inl rfl
      | 2, _ => exact Or.inl rfl
      | 3, _ => exact Or.inl rfl
      | 4, _ => exact Or.inl rfl
      | 5, _ => exact Or.inl rfl
      | 6, _ => exact Or.inl rfl
      | 7, _ => exact Or.inr rfl
      | 8, _ => exact Or.inl rfl
      | 9, _ => exact Or.inl rfl
      | i + 10, hi => exact absurd hi (by simp only [List.length_cons, List.length_nil]; omega)
    · replace h := h.2 c5
      refine WP_aload dX4_reckon_90 rfl ⟨Nat.le_of_ble_eq_true rfl, Nat.le_of_ble_eq_true rfl⟩ ?_
      refine WP_aload_n dX4_reckon_92 rfl rfl ⟨Nat.le_of_ble_eq_true rfl, Nat.le_of_ble_eq_true rfl⟩ ?_
      refine WP_aload_n dX4_reckon_93 rfl rfl ⟨Nat.le_of_ble_eq_true rfl, Nat.le_of_ble_eq_true rfl⟩ ?_
      refine WP_bipush dX4_reckon_94 (by decide +kernel) (by decide) ?_
      refine WP_iconst dX4_reckon_96 (by decide) ?_
      refine WQ_invVi (v := (2, x4)) (as := [(2, x3), (2, x2), (0, 99), (0, (-1))]) dX4_reckon_97 l_X4_46 mw_X0_run mi_X0_run ms_X0_run mo_X0_run (rcv (ci := 0) (n := 16) (r := (RX0, TX0, 16)) hx4 rfl rfl) (Nat.le_of_ble_eq_true rfl) h rfl (fun r8 μ9 h => ?_)
      refine WP_pop dX4_reckon_100 (by simp) ?_
      refine WP_iconst dX4_reckon_101 (by decide) ?_
      refine WP_istore (L' := [(2, 117), (2, x1), (2, x2), (2, x3), (2, x4), (2, x5), (0, x6), (1, r3), (9, 0), (0, 0)]) dX4_reckon_102 (by decide) rfl ?_
      exact h

theorem s_X4_reckon_104 {d : Nat} {sc : SC} {Q : Mem → Prop} {μ : Mem} {x1 x2 x3 x4 x5 x6 x7 x9 : Int} (hx1 : isK 1 x1) (hx2 : isK 3 x2) (hx3 : isK 6 x3) (hx4 : isK 0 x4) (hx5 : isK 6 x5)
    (h : (μ x1 3 ≤ x9 → (-2147483648 ≤ x6 + 1 ∧ x6 + 1 < 2147483648) ∧ ∀ v3 : Int, v3 = x6 + 1 → WQ mX4_reckon d sc (ZV sc Q) 61 [(2, 117), (2, x1), (2, x2), (2, x3), (2, x4), (2, x5), (0, v3), (9, 0), (9, 0), (9, 0)] [] μ) ∧ (x9 < μ x1 3 → (0 ≤ x9 ∧ x9 < 6) ∧ (0 ≤ x9 ∧ x9 < 6) ∧ (μ (x4 + 3) x9 ≠ 0 → (-9223372036854775808 ≤ (μ 118 x9) + 0 ∧ (μ 118 x9) + 0 < 9223372036854775808) ∧ (0 ≤ x9 ∧ x9 < 6) ∧ (∀ μ9, μ9 = mup μ 118 x9 ((μ 118 x9) + 0) → (0 ≤ x9 ∧ x9 < 6) ∧ (0 ≤ x9 ∧ x9 < 6) ∧ (-9223372036854775808 ≤ x7 * (μ9 (x4 + 3) x9) ∧ x7 * (μ9 (x4 + 3) x9) < 9223372036854775808) ∧ (-9223372036854775808 ≤ (μ9 119 x9) + (x7 * (μ9 (x4 + 3) x9)) ∧ (μ9 119 x9) + (x7 * (μ9 (x4 + 3) x9)) < 9223372036854775808) ∧ (0 ≤ x9 ∧ x9 < 6) ∧ (∀ μ15, μ15 = mup μ9 119 x9 ((μ9 119 x9) + (x7 * (μ9 (x4 + 3) x9))) → (-2147483648 ≤ x9 + 1 ∧ x9 + 1 < 2147483648) ∧ ∀ v17 : Int, v17 = x9 + 1 → WQ mX4_reckon d sc (ZV sc Q) 104 [(2, 117), (2, x1), (2, x2), (2, x3), (2, x4), (2, x5), (0, x6), (1, x7), (9, 0), (0, v17)] [] μ15))) ∧ (μ (x4 + 3) x9 = 0 → (-9223372036854775808 ≤ (μ 118 x9) + x7 ∧ (μ 118 x9) + x7 < 9223372036854775808) ∧ (0 ≤ x9 ∧ x9 < 6) ∧ (∀ μ20, μ20 = mup μ 118 x9 ((μ 118 x9) + x7) → (0 ≤ x9 ∧ x9 < 6) ∧ (0 ≤ x9 ∧ x9 < 6) ∧ (-9223372036854775808 ≤ x7 * (μ20 (x4 + 3) x9) ∧ x7 * (μ20 (x4 + 3) x9) < 9223372036854775808) ∧ (-9223372036854775808 ≤ (μ20 119 x9) + (x7 * (μ20 (x4 + 3) x9)) ∧ (μ20 119 x9) + (x7 * (μ20 (x4 + 3) x9)) < 9223372036854775808) ∧ (0 ≤ x9 ∧ x9 < 6) ∧ (∀ μ26, μ26 = mup μ20 119 x9 ((μ20 119 x9) + (x7 * (μ20 (x4 + 3) x9))) → (-2147483648 ≤ x9 + 1 ∧ x9 + 1 < 2147483648) ∧ ∀ v28 : Int, v28 = x9 + 1 → WQ mX4_reckon d sc (ZV sc Q) 104 [(2, 117), (2, x1), (2, x2), (2, x3), (2, x4), (2, x5), (0, x6), (1, x7), (9, 0), (0, v28)] [] μ26))))) :
    WQ mX4_reckon d sc (ZV sc Q) 104 [(2, 117), (2, x1), (2, x2), (2, x3), (2, x4), (2, x5), (0, x6), (1, x7), (9, 0), (0, x9)] [] μ := by
  refine WP_iload dX4_reckon_104 rfl ?_
  refine WP_aload_n dX4_reckon_106 rfl rfl ⟨Nat.le_of_ble_eq_true rfl, Nat.le_of_ble_eq_true rfl⟩ ?_
  refine WP_getfield (ci := 1) (j := 3) (n := 11) (t := 0) (x := μ x1 3) dX4_reckon_107 f_X4_52 hx1 rfl rfl ?_
  refine WQ_icmp_ge (tgt := 168) dX4_reckon_110 (by decide) (fun c1 => ?_) (fun c1 => ?_)
  · replace h := h.1 c1
    obtain ⟨g2, h⟩ := h
    refine WQ_iinc dX4_reckon_168 rfl (by decide) g2 (fun v3 e3 => ?_)
    refine WP_same (L' := [(2, 117), (2, x1), (2, x2), (2, x3), (2, x4), (2, x5), (0, v3), (1, x7), (9, 0), (0, x9)]) rfl ?_
    replace h := h v3 e3
    refine WP_goto (tgt := 61) dX4_reckon_171 (by decide) ?_
    refine WP_lforget (L' := [(2, 117), (2, x1), (2, x2), (2, x3), (2, x4), (2, x5), (0, v3), (9, 0), (9, 0), (9, 0)]) rfl (fun i hi => ?_) h
    match i, hi with
    | 0, _ => exact Or.inl rfl
    | 1, _ => exact Or.inl rfl
    | 2, _ => exact Or.inl rfl
    | 3, _ => exact Or.inl rfl
    | 4, _ => exact Or.inl rfl
    | 5, _ => exact Or.inl rfl
    | 6, _ => exact Or.inl rfl
    | 7, _ => exact Or.inr rfl
    | 8, _ => exact Or.inl rfl
    | 9, _ => exact Or.inr rfl
    | i + 10, hi => exact absurd hi (by simp only [List.length_cons, List.length_nil]; omega)
  · replace h := h.2 c1
    refine WP_aload_n dX4_reckon_113 rfl rfl ⟨Nat.le_of_ble_eq_true rfl, Nat.le_of_ble_eq_true rfl⟩ ?_
    refine WP_getfield (ci := 4) (j := 2) (n := 4) (t := 2) (x := 118) dX4_reckon_114 f_X4_9 k_117 rfl rfl ?_
    refine WP_iload dX4_reckon_117 rfl ?_
    refine WP_dup2 dX4_reckon_119 (by simp) (by simp) ?_
    obtain ⟨g4, h⟩ := h
    refine WP_laload (n := 6) dX4_reckon_120 k_118 g4 ?_
    refine WP_aload dX4_reckon_121 rfl ⟨Nat.le_of_ble_eq_true rfl, Nat.le_of_ble_eq_true rfl⟩ ?_
    refine WP_getfield (ci := 0) (j := 3) (n := 16) (t := 2) (x := x4 + 3) dX4_reckon_123 f_X4_55 hx4 rfl rfl ?_
    refine WP_iload dX4_reckon_126 rfl ?_
    obtain ⟨g5, h⟩ := h
    refine WP_iaload (n := 6) dX4_reckon_128 (kf_0_3 hx4) g5 ?_
    refine WQ_ifne (tgt := 137) dX4_reckon_129 (by decide) (fun c6 => ?_) (fun c6 => ?_)
    · replace h := h.1 c6
      refine WP_lconst dX4_reckon_137 rfl ?_
      obtain ⟨g7, h⟩ := h
      refine WP_ladd dX4_reckon_138 g7 ?_
      obtain ⟨g8, h⟩ := h
      refine WQ_last (n := 6) dX4_reckon_139 k_118 g8 (fun μ9 eμ9 => ?_)
      replace h := h μ9 eμ9
      refine WP_aload_n dX4_reckon_140 rfl rfl ⟨Nat.le_of_ble_eq_true rfl, Nat.le_of_ble_eq_true rfl⟩ ?_
      refine WP_getfield (ci := 4) (j := 3) (n := 4) (t := 2) (x := 119) dX4_reckon_141 f_X4_15 k_117 rfl rfl ?_
      refine WP_iload dX4_reckon_144 rfl ?_
      refine WP_dup2 dX4_reckon_146 (by simp) (by simp) ?_
      obtain ⟨g10, h⟩ := h
      refine WP_laload (n := 6) dX4_reckon_147 k_119 g10 ?_
      refine WP_lload dX4_reckon_148 rfl ?_
      refine WP_aload dX4_reckon_150 rfl ⟨Nat.le_of_ble_eq_true rfl, Nat.le_of_ble_eq_true rfl⟩ ?_
      refine WP_getfield (ci := 0) (j := 3) (n := 16) (t := 2) (x := x4 + 3) dX4_reckon_152 f_X4_55 hx4 rfl rfl ?_
      refine WP_iload dX4_reckon_155 rfl ?_
      obtain ⟨g11, h⟩ := h
      refine WP_iaload (n := 6) dX4_reckon_157 (kf_0_3 hx4) g11 ?_
      refine WP_i2l dX4_reckon_158 ?_
      obtain ⟨g12, h⟩ := h
      refine WP_lmul dX4_reckon_159 g12 ?_
      obtain ⟨g13, h⟩ := h
      refine WP_ladd dX4_reckon_160 g13 ?_
      obtain ⟨g14, h⟩ := h
      refine WQ_last (n := 6) dX4_reckon_161 k_119 g14 (fun μ15 eμ15 => ?_)
      replace h := h μ15 eμ15
      obtain ⟨g16, h⟩ := h
      refine WQ_iinc dX4_reckon_162 rfl (by decide) g16 (fun v17 e17 => ?_)
      refine WP_same (L' := [(2, 117), (2, x1), (2, x2), (2, x3), (2, x4), (2, x5), (0, x6), (1, x7), (9, 0), (0, v17)]) rfl ?_
      replace h := h v17 e17
      refine WP_goto (tgt := 104) dX4_reckon_165 (by decide) ?_
      exact h
    · replace h := h.2 c6
      refine WP_lload dX4_reckon_132 rfl ?_
      refine WP_goto (tgt := 138) dX4_reckon_134 (by decide) ?_
      obtain ⟨g18, h⟩ := h
      refine WP_ladd dX4_reckon_138 g18 ?_
      obtain ⟨g19, h⟩ := h
      refine WQ_last (n := 6) dX4_reckon_139 k_118 g19 (fun μ20 eμ20 => ?_)
      replace h := h μ20 eμ20
      refine WP_aload_n dX4_reckon_140 rfl rfl ⟨Nat.le_of_ble_eq_true rfl, Nat.le_of_ble_eq_true rfl⟩ ?_
      refine WP_getfield (ci := 4) (j := 3) (n := 4) (t := 2) (x := 119) dX4_reckon_141 f_X4_15 k_117 rfl rfl ?_
      refine WP_iload dX4_reckon_144 rfl ?_
      refine WP_dup2 dX4_reckon_146 (by simp) (by simp) ?_
      obtain ⟨g21, h⟩ := h
      refine WP_laload (n := 6) dX4_reckon_147 k_119 g21 ?_
      refine WP_lload dX4_reckon_148 rfl ?_
      refine WP_aload dX4_reckon_150 rfl ⟨Nat.le_of_ble_eq_true rfl, Nat.le_of_ble_eq_true rfl⟩ ?_
      refine WP_getfield (ci := 0) (j := 3) (n := 16) (t := 2) (x := x4 + 3) dX4_reckon_152 f_X4_55 hx4 rfl rfl ?_
      refine WP_iload dX4_reckon_155 rfl ?_
      obtain ⟨g22, h⟩ := h
      refine WP_iaload (n := 6) dX4_reckon_157 (kf_0_3 hx4) g22 ?_
      refine WP_i2l dX4_reckon_158 ?_
      obtain ⟨g23, h⟩ := h
      refine WP_lmul dX4_reckon_159 g23 ?_
      obtain ⟨g24, h⟩ := h
      refine WP_ladd dX4_reckon_160 g24 ?_
      obtain ⟨g25, h⟩ := h
      refine WQ_last (n := 6) dX4_reckon_161 k_119 g25 (fun μ26 eμ26 => ?_)
      replace h := h μ26 eμ26
      obtain ⟨g27, h⟩ := h
      refine WQ_iinc dX4_reckon_162 rfl (by decide) g27 (fun v28 e28 => ?_)
      refine WP_same (L' := [(2, 117), (2, x1), (2, x2), (2, x3), (2, x4), (2, x5), (0, x6), (1, x7), (9, 0), (0, v28)]) rfl ?_
      replace h := h v28 e28
      refine WP_goto (tgt := 104) dX4_reckon_165 (by decide) ?_
      exact h

theorem s_X4_tellSome_0 {d : Nat} {sc : SC} {Q : Int → Mem → Prop} {μ : Mem} {a0 a1 a2 : Int} (ha0 : isK 6 a0) (ha2 : isK 6 a2)
    (h : ∀ μ1, μ1 = mup μ a2 0 0 → WQ mX4_tellSome d sc (ZL sc Q) 10 [(2, a0), (0, a1), (2, a2), (1, 1), (9, 0), (0, 0)] [] μ1) :
    WQ mX4_tellSome d sc (ZL sc Q) 0 [(2, a0), (0, a1), (2, a2), (9, 0), (9, 0), (9, 0)] [] μ := by
  refine WP_aload_n dX4_tellSome_0 rfl rfl ⟨Nat.le_of_ble_eq_true rfl, Nat.le_of_ble_eq_true rfl⟩ ?_
  refine WP_iconst dX4_tellSome_1 (by decide) ?_
  refine WQ_put (ci := 6) (j := 0) (n := 7) dX4_tellSome_2 f_X4_34 ha2 rfl (fun μ1 eμ1 => ?_)
  replace h := h μ1 eμ1
  refine WP_lconst dX4_tellSome_5 rfl ?_
  refine WP_lstore_n (L' := [(2, a0), (0, a1), (2, a2), (1, 1), (9, 0), (9, 0)]) dX4_tellSome_6 rfl (by decide) rfl ?_
  refine WP_iconst dX4_tellSome_7 (by decide) ?_
  refine WP_istore (L' := [(2, a0), (0, a1), (2, a2), (1, 1), (9, 0), (0, 0)]) dX4_tellSome_8 (by decide) rfl ?_
  exact h

theorem s_X4_tellSome_10 {d : Nat} {sc : SC} {Q : Int → Mem → Prop} {μ : Mem} {x0 x1 x2 x3 x5 : Int} (hx0 : isK 6 x0) (hx2 : isK 6 x2)
    (h : (μ x0 0 ≤ x5 → Q x3 μ) ∧ (x5 < μ x0 0 → (x3 = 0 → Q x3 μ) ∧ (x3 ≠ 0 → (iAnd (iShr x1 x5) 1 = 0 → (0 ≤ x5 ∧ x5 < 10) ∧ (-2147483648 ≤ 10 - (μ (x0 + 4) x5) ∧ 10 - (μ (x0 + 4) x5) < 2147483648) ∧ (-9223372036854775808 ≤ x3 * (10 - (μ (x0 + 4) x5)) ∧ x3 * (10 - (μ (x0 + 4) x5)) < 9223372036854775808) ∧ (∀ v7 : Int, v7 = x3 * (10 - (μ (x0 + 4) x5)) → (-2147483648 ≤ x5 + 1 ∧ x5 + 1 < 2147483648) ∧ ∀ v9 : Int, v9 = x5 + 1 → WQ mX4_tellSome d sc (ZL sc Q) 10 [(2, x0), (0, x1), (2, x2), (1, v7), (9, 0), (0, v9)] [] μ)) ∧ (iAnd (iShr x1 x5) 1 ≠ 0 → (0 ≤ x5 ∧ x5 < 10) ∧ (-9223372036854775808 ≤ x3 * (μ (x0 + 4) x5) ∧ x3 * (μ (x0 + 4) x5) < 9223372036854775808) ∧ (∀ v12 : Int, v12 = x3 * (μ (x0 + 4) x5) → (0 ≤ x5 ∧ x5 < 10) ∧ (0 ≤ x5 ∧ x5 < 10) ∧ (0 ≤ x5 ∧ x5 < 10) ∧ CAv mX6_add d sc [(2, x2), (0, μ (x0 + 1) x5), (0, μ (x0 + 2) x5), (0, μ (x0 + 3) x5), (0, 10)] μ (fun μ17 => (-2147483648 ≤ x5 + 1 ∧ x5 + 1 < 2147483648) ∧ ∀ v19 : Int, v19 = x5 + 1 → WQ mX4_tellSome d sc (ZL sc Q) 10 [(2, x0), (0, x1), (2, x2), (1, v12), (9, 0), (0, v19)] [] μ17)))))) :
    WQ mX4_tellSome d sc (ZL sc Q) 10 [(2, x0), (0, x1), (2, x2), (1, x3), (9, 0), (0, x5)] [] μ := by
  refine WP_iload dX4_tellSome_10 rfl ?_
  refine WP_aload_n dX4_tellSome_12 rfl rfl ⟨Nat.le_of_ble_eq_true rfl, Nat.le_of_ble_eq_true rfl⟩ ?_
  refine WP_getfield (ci := 6) (j := 0) (n := 7) (t := 0) (x := μ x0 0) dX4_tellSome_13 f_X4_34 hx0 rfl rfl ?_
  refine WQ_icmp_ge (tgt := 95) dX4_tellSome_16 (by decide) (fun c1 => ?_) (fun c1 => ?_)
  · replace h := h.1 c1
    refine WP_lload_n dX4_tellSome_95 rfl rfl ?_
    exact WQ_lreturn dX4_tellSome_96 rfl h
  · replace h := h.2 c1
    refine WP_lload_n dX4_tellSome_19 rfl rfl ?_
    refine WP_lconst dX4_tellSome_20 rfl ?_
    refine WQ_lifeq (tgt := 95) dX4_tellSome_21 dX4_tellSome_22 (by decide) (fun c2 => ?_) (fun c2 => ?_)
    · replace h := h.1 c2
      refine WP_lload_n dX4_tellSome_95 rfl rfl ?_
      exact WQ_lreturn dX4_tellSome_96 rfl h
    · replace h := h.2 c2
      refine WP_iload_n dX4_tellSome_25 rfl rfl ?_
      refine WP_iload dX4_tellSome_26 rfl ?_
      refine WP_ishr dX4_tellSome_28 ?_
      refine WP_iconst dX4_tellSome_29 (by decide) ?_
      refine WP_iand dX4_tellSome_30 ?_
      refine WQ_ifeq (tgt := 75) dX4_tellSome_31 (by decide) (fun c3 => ?_) (fun c3 => ?_)
      · replace h := h.1 c3
        refine WP_lload_n dX4_tellSome_75 rfl rfl ?_
        refine WP_bipush dX4_tellSome_76 (by decide +kernel) (by decide) ?_
        refine WP_aload_n dX4_tellSome_78 rfl rfl ⟨Nat.le_of_ble_eq_true rfl, Nat.le_of_ble_eq_true rfl⟩ ?_
        refine WP_getfield (ci := 6) (j := 4) (n := 7) (t := 2) (x := x0 + 4) dX4_tellSome_79 f_X4_63 hx0 rfl rfl ?_
        refine WP_iload dX4_tellSome_82 rfl ?_
        obtain ⟨g4, h⟩ := h
        refine WP_iaload (n := 10) dX4_tellSome_84 (kf_6_4 hx0) g4 ?_
        obtain ⟨g5, h⟩ := h
        refine WP_isub dX4_tellSome_85 g5 ?_
        refine WP_i2l dX4_tellSome_86 ?_
        obtain ⟨g6, h⟩ := h
        refine WP_lmul dX4_tellSome_87 g6 ?_
        refine WQ_nm1 (fun v7 e7 => ?_)
        replace h := h v7 e7
        refine WP_lstore_n (L' := [(2, x0), (0, x1), (2, x2), (1, v7), (9, 0), (0, x5)]) dX4_tellSome_88 rfl (by decide) rfl ?_
        obtain ⟨g8, h⟩ := h
        refine WQ_iinc dX4_tellSome_89 rfl (by decide) g8 (fun v9 e9 => ?_)
        refine WP_same (L' := [(2, x0), (0, x1), (2, x2), (1, v7), (9, 0), (0, v9)]) rfl ?_
        replace h := h v9 e9
        refine WP_goto (tgt := 10) dX4_tellSome_92 (by decide) ?_
        exact h
      · replace h := h.2 c3
        refine WP_lload_n dX4_tellSome_34 rfl rfl ?_
        refine WP_aload_n dX4_tellSome_35 rfl rfl ⟨Nat.le_of_ble_eq_true rfl, Nat.le_of_ble_eq_true rfl⟩ ?_
        refine WP_getfield (ci := 6) (j := 4) (n := 7) (t := 2) (x := x0 + 4) dX4_tellSome_36 f_X4_63 hx0 rfl rfl ?_
        refine WP_iload dX4_tellSome_39 rfl ?_
        obtain ⟨g10, h⟩ := h
        refine WP_iaload (n := 10) dX4_tellSome_41 (kf_6_4 hx0) g10 ?_
        refine WP_i2l dX4_tellSome_42 ?_
        obtain ⟨g11, h⟩ := h
        refine WP_lmul dX4_tellSome_43 g11 ?_
        refine WQ_nm1 (fun v12 e12 => ?_)
        replace h := h v12 e12
        refine WP_lstore_n (L' := [(2, x0), (0, x1), (2, x2), (1, v12), (9, 0), (0, x5)]) dX4_tellSome_44 rfl (by decide) rfl ?_
        refine WP_aload_n dX4_tellSome_45 rfl rfl ⟨Nat.le_of_ble_eq_true rfl, Nat.le_of_ble_eq_true rfl⟩ ?_
        refine WP_aload_n dX4_tellSome_46 rfl rfl ⟨Nat.le_of_ble_eq_true rfl, Nat.le_of_ble_eq_true rfl⟩ ?_
        refine WP_getfield (ci := 6) (j := 1) (n := 7) (t := 2) (x := x0 + 1) dX4_tellSome_47 f_X4_66 hx0 rfl rfl ?_
        refine WP_iload dX4_tellSome_50 rfl ?_
        obtain ⟨g13, h⟩ := h
        refine WP_iaload (n := 10) dX4_tellSome_52 (kf_6_1 hx0) g13 ?_
        refine WP_aload_n dX4_tellSome_53 rfl rfl ⟨Nat.le_of_ble_eq_true rfl, Nat.le_of_ble_eq_true rfl⟩ ?_
        refine WP_getfield (ci := 6) (j := 2) (n := 7) (t := 2) (x := x0 + 2) dX4_tellSome_54 f_X4_69 hx0 rfl rfl ?_
        refine WP_iload dX4_tellSome_57 rfl ?_
        obtain ⟨g14, h⟩ := h
        refine WP_iaload (n := 10) dX4_tellSome_59 (kf_6_2 hx0) g14 ?_
        refine WP_aload_n dX4_tellSome_60 rfl rfl ⟨Nat.le_of_ble_eq_true rfl, Nat.le_of_ble_eq_true rfl⟩ ?_
        refine WP_getfield (ci := 6) (j := 3) (n := 7) (t := 2) (x := x0 + 3) dX4_tellSome_61 f_X4_72 hx0 rfl rfl ?_
        refine WP_iload dX4_tellSome_64 rfl ?_
        obtain ⟨g15, h⟩ := h
        refine WP_iaload (n := 10) dX4_tellSome_66 (kf_6_3 hx0) g15 ?_
        refine WP_bipush dX4_tellSome_67 (by decide +kernel) (by decide) ?_
        refine WQ_invVv (v := (2, x2)) (as := [(0, μ (x0 + 1) x5), (0, μ (x0 + 2) x5), (0, μ (x0 + 3) x5), (0, 10)]) dX4_tellSome_69 l_X4_75 mw_X6_add mi_X6_add ms_X6_add mo_X6_add (rcv (ci := 6) (n := 7) (r := (RX6, TX6, 7)) hx2 rfl rfl) (Nat.le_of_ble_eq_true rfl) h rfl (fun μ17 h => ?_)
        refine WP_goto (tgt := 89) dX4_tellSome_72 (by decide) ?_
        obtain ⟨g18, h⟩ := h
        refine WQ_iinc dX4_tellSome_89 rfl (by decide) g18 (fun v19 e19 => ?_)
        refine WP_same (L' := [(2, x0), (0, x1), (2, x2), (1, v12), (9, 0), (0, v19)]) rfl ?_
        replace h := h v19 e19
        refine WP_goto (tgt := 10) dX4_tellSome_92 (by decide) ?_
        exact h

theorem s_X5_forget_0 {d : Nat} {sc : SC} {Q : Mem → Prop} {μ : Mem}
    (h : ∀ μ1, μ1 = mup μ 34 0 0 → Q μ1) :
    WQ mX5_forget d sc (ZV sc Q) 0 [(2, 34)] [] μ := by
  refine WP_aload_n dX5_forget_0 rfl rfl ⟨Nat.le_of_ble_eq_true rfl, Nat.le_of_ble_eq_true rfl⟩ ?_
  refine WP_iconst dX5_forget_1 (by decide) ?_
  refine WQ_put (ci := 5) (j := 0) (n := 2) dX5_forget_2 f_X5_18 k_34 rfl (fun μ1 eμ1 => ?_)
  replace h := h μ1 eμ1
  exact WQ_return dX5_forget_5 rfl h

theorem s_X5_keep_0 {d : Nat} {sc : SC} {Q : Mem → Prop} {μ : Mem} {a1 : Int} (ha1 : isK 6 a1)
    (h : (μ 34 0 < 10 → (0 ≤ μ 34 0 ∧ μ 34 0 < 10) ∧ isK 6 (μ 35 (μ 34 0)) ∧ CAv mX6_copyFrom d sc [(2, μ 35 (μ 34 0)), (2, a1)] μ (fun μ5 => (-2147483648 ≤ (μ5 34 0) + 1 ∧ (μ5 34 0) + 1 < 2147483648) ∧ (∀ μ7, μ7 = mup μ5 34 0 ((μ5 34 0) + 1) → Q μ7))) ∧ (10 ≤ μ 34 0 → WQ mX5_keep d sc (ZV sc Q) 18 [(2, 34), (2, a1), (2, μ 35 0), (0, 1)] [] μ)) :
    WQ mX5_keep d sc (ZV sc Q) 0 [(2, 34), (2, a1), (9, 0), (9, 0)] [] μ := by
  refine WP_aload_n dX5_keep_0 rfl rfl ⟨Nat.le_of_ble_eq_true rfl, Nat.le_of_ble_eq_true rfl⟩ ?_
  refine WP_getfield (ci := 5) (j := 0) (n := 2) (t := 0) (x := μ 34 0) dX5_keep_1 f_X5_18 k_34 rfl rfl ?_
  refine WP_bipush dX5_keep_4 (by decide +kernel) (by decide) ?_
  refine WQ_icmp_lt (tgt := 58) dX5_keep_6 (by decide) (fun c1 => ?_) (fun c1 => ?_)
  · replace h := h.1 c1
    refine WP_aload_n dX5_keep_58 rfl rfl ⟨Nat.le_of_ble_eq_true rfl, Nat.le_of_ble_eq_true rfl⟩ ?_
    refine WP_getfield (ci := 5) (j := 1) (n := 2) (t := 2) (x := 35) dX5_keep_59 f_X5_11 k_34 rfl rfl ?_
    refine WP_aload_n dX5_keep_62 rfl rfl ⟨Nat.le_of_ble_eq_true rfl, Nat.le_of_ble_eq_true rfl⟩ ?_
    refine WP_getfield (ci := 5) (j := 0) (n := 2) (t := 0) (x := μ 34 0) dX5_keep_63 f_X5_18 k_34 rfl rfl ?_
    obtain ⟨g2, h⟩ := h
    refine WP_aaload (n := 10) (ci := 6) dX5_keep_66 k_35 (by decide) g2 ?_
    refine WP_aload_n dX5_keep_67 rfl rfl ⟨Nat.le_of_ble_eq_true rfl, Nat.le_of_ble_eq_true rfl⟩ ?_
    obtain ⟨g3, h⟩ := h
    refine WQ_invVv (v := (2, μ 35 (μ 34 0))) (as := [(2, a1)]) dX5_keep_68 l_X5_22 mw_X6_copyFrom mi_X6_copyFrom ms_X6_copyFrom mo_X6_copyFrom (rcv (ci := 6) (n := 7) (r := (RX6, TX6, 7)) g3 rfl rfl) (Nat.le_of_ble_eq_true rfl) h rfl (fun μ5 h => ?_)
    refine WP_aload_n dX5_keep_71 rfl rfl ⟨Nat.le_of_ble_eq_true rfl, Nat.le_of_ble_eq_true rfl⟩ ?_
    refine WP_dup dX5_keep_72 (by simp) ?_
    refine WP_getfield (ci := 5) (j := 0) (n := 2) (t := 0) (x := μ5 34 0) dX5_keep_73 f_X5_18 k_34 rfl rfl ?_
    refine WP_iconst dX5_keep_76 (by decide) ?_
    obtain ⟨g6, h⟩ := h
    refine WP_iadd dX5_keep_77 g6 ?_
    refine WQ_put (ci := 5) (j := 0) (n := 2) dX5_keep_78 f_X5_18 k_34 rfl (fun μ7 eμ7 => ?_)
    replace h := h μ7 eμ7
    exact WQ_return dX5_keep_81 rfl h
  · replace h := h.2 c1
    refine WP_aload_n dX5_keep_9 rfl rfl ⟨Nat.le_of_ble_eq_true rfl, Nat.le_of_ble_eq_true rfl⟩ ?_
    refine WP_getfield (ci := 5) (j := 1) (n := 2) (t := 2) (x := 35) dX5_keep_10 f_X5_11 k_34 rfl rfl ?_
    refine WP_iconst dX5_keep_13 (by decide) ?_
    refine WP_aaload (n := 10) (ci := 6) dX5_keep_14 k_35 (by decide) ⟨by decide, by decide⟩ ?_
    refine WP_astore_n (L' := [(2, 34), (2, a1), (2, μ 35 0), (9, 0)]) dX5_keep_15 rfl (by decide) (Nat.le_of_ble_eq_true rfl) rfl ?_
    refine WP_iconst dX5_keep_16 (by decide) ?_
    refine WP_istore_n (L' := [(2, 34), (2, a1), (2, μ 35 0), (0, 1)]) dX5_keep_17 rfl (by decide) rfl ?_
    exact h

theorem s_X5_keep_18 {d : Nat} {sc : SC} {Q : Mem → Prop} {μ : Mem} {x1 x2 x3 : Int} (hx1 : isK 6 x1) (hx2 : isK 6 x2)
    (h : (10 ≤ x3 → ∀ μ3, μ3 = mup μ 35 9 x2 → ∀ μ4, μ4 = mup μ3 34 0 9 → (0 ≤ μ4 34 0 ∧ μ4 34 0 < 10) ∧ isK 6 (μ4 35 (μ4 34 0)) ∧ CAv mX6_copyFrom d sc [(2, μ4 35 (μ4 34 0)), (2, x1)] μ4 (fun μ8 => (-2147483648 ≤ (μ8 34 0) + 1 ∧ (μ8 34 0) + 1 < 2147483648) ∧ (∀ μ10, μ10 = mup μ8 34 0 ((μ8 34 0) + 1) → Q μ10))) ∧ (x3 < 10 → (-2147483648 ≤ x3 - 1 ∧ x3 - 1 < 2147483648) ∧ (0 ≤ x3 ∧ x3 < 10) ∧ isK 6 (μ 35 x3) ∧ (0 ≤ x3 - 1 ∧ x3 - 1 < 10) ∧ (∀ μ14, μ14 = mup μ 35 (x3 - 1) (μ 35 x3) → (-2147483648 ≤ x3 + 1 ∧ x3 + 1 < 2147483648) ∧ ∀ v17 : Int, v17 = x3 + 1 → WQ mX5_keep d sc (ZV sc Q) 18 [(2, 34), (2, x1), (2, x2), (0, v17)] [] μ14))) :
    WQ mX5_keep d sc (ZV sc Q) 18 [(2, 34), (2, x1), (2, x2), (0, x3)] [] μ := by
  refine WP_iload_n dX5_keep_18 rfl rfl ?_
  refine WP_bipush dX5_keep_19 (by decide +kernel) (by decide) ?_
  refine WQ_icmp_ge (tgt := 44) dX5_keep_21 (by decide) (fun c1 => ?_) (fun c1 => ?_)
  · replace h := h.1 c1
    refine WP_aload_n dX5_keep_44 rfl rfl ⟨Nat.le_of_ble_eq_true rfl, Nat.le_of_ble_eq_true rfl⟩ ?_
    refine WP_getfield (ci := 5) (j := 1) (n := 2) (t := 2) (x := 35) dX5_keep_45 f_X5_11 k_34 rfl rfl ?_
    refine WP_bipush dX5_keep_48 (by decide +kernel) (by decide) ?_
    refine WP_aload_n dX5_keep_50 rfl rfl ⟨Nat.le_of_ble_eq_true rfl, Nat.le_of_ble_eq_true rfl⟩ ?_
    refine WQ_aast (n := 10) (ci := 6) (nb := 7) dX5_keep_51 k_35 (by decide) hx2 ⟨by decide, by decide⟩ (fun μ3 eμ3 => ?_)
    replace h := h μ3 eμ3
    refine WP_aload_n dX5_keep_52 rfl rfl ⟨Nat.le_of_ble_eq_true rfl, Nat.le_of_ble_eq_true rfl⟩ ?_
    refine WP_bipush dX5_keep_53 (by decide +kernel) (by decide) ?_
    refine WQ_put (ci := 5) (j := 0) (n := 2) dX5_keep_55 f_X5_18 k_34 rfl (fun μ4 eμ4 => ?_)
    replace h := h μ4 eμ4
    refine WP_aload_n dX5_keep_58 rfl rfl ⟨Nat.le_of_ble_eq_true rfl, Nat.le_of_ble_eq_true rfl⟩ ?_
    refine WP_getfield (ci := 5) (j := 1) (n := 2) (t := 2) (x := 35) dX5_keep_59 f_X5_11 k_34 rfl rfl ?_
    refine WP_aload_n dX5_keep_62 rfl rfl ⟨Nat.le_of_ble_eq_true rfl, Nat.le_of_ble_eq_true rfl⟩ ?_
    refine WP_getfield (ci := 5) (j := 0) (n := 2) (t := 0) (x := μ4 34 0) dX5_keep_63 f_X5_18 k_34 rfl rfl ?_
    obtain ⟨g5, h⟩ := h
    refine WP_aaload (n := 10) (ci := 6) dX5_keep_66 k_35 (by decide) g5 ?_
    refine WP_aload_n dX5_keep_67 rfl rfl ⟨Nat.le_of_ble_eq_true rfl, Nat.le_of_ble_eq_true rfl⟩ ?_
    obtain ⟨g6, h⟩ := h
    refine WQ_invVv (v := (2, μ4 35 (μ4 34 0))) (as := [(2, x1)]) dX5_keep_68 l_X5_22 mw_X6_copyFrom mi_X6_copyFrom ms_X6_copyFrom mo_X6_copyFrom (rcv (ci := 6) (n := 7) (r := (RX6, TX6, 7)) g6 rfl rfl) (Nat.le_of_ble_eq_true rfl) h rfl (fun μ8 h => ?_)
    refine WP_aload_n dX5_keep_71 rfl rfl ⟨Nat.le_of_ble_eq_true rfl, Nat.le_of_ble_eq_true rfl⟩ ?_
    refine WP_dup dX5_keep_72 (by simp) ?_
    refine WP_getfield (ci := 5) (j := 0) (n := 2) (t := 0) (x := μ8 34 0) dX5_keep_73 f_X5_18 k_34 rfl rfl ?_
    refine WP_iconst dX5_keep_76 (by decide) ?_
    obtain ⟨g9, h⟩ := h
    refine WP_iadd dX5_keep_77 g9 ?_
    refine WQ_put (ci := 5) (j := 0) (n := 2) dX5_keep_78 f_X5_18 k_34 rfl (fun μ10 eμ10 => ?_)
    replace h := h μ10 eμ10
    exact WQ_return dX5_keep_81 rfl h
  · replace h := h.2 c1
    refine WP_aload_n dX5_keep_24 rfl rfl ⟨Nat.le_of_ble_eq_true rfl, Nat.le_of_ble_eq_true rfl⟩ ?_
    refine WP_getfield (ci := 5) (j := 1) (n := 2) (t := 2) (x := 35) dX5_keep_25 f_X5_11 k_34 rfl rfl ?_
    refine WP_iload_n dX5_keep_28 rfl rfl ?_
    refine WP_iconst dX5_keep_29 (by decide) ?_
    obtain ⟨g11, h⟩ := h
    refine WP_isub dX5_keep_30 g11 ?_
    refine WP_aload_n dX5_keep_31 rfl rfl ⟨Nat.le_of_ble_eq_true rfl, Nat.le_of_ble_eq_true rfl⟩ ?_
    refine WP_getfield (ci := 5) (j := 1) (n := 2) (t := 2) (x := 35) dX5_keep_32 f_X5_11 k_34 rfl rfl ?_
    refine WP_iload_n dX5_keep_35 rfl rfl ?_
    obtain ⟨g12, h⟩ := h
    refine WP_aaload (n := 10) (ci := 6) dX5_keep_36 k_35 (by decide) g12 ?_
    obtain ⟨g15, h⟩ := h
    obtain ⟨g13, h⟩ := h
    refine WQ_aast (n := 10) (ci := 6) (nb := 7) dX5_keep_37 k_35 (by decide) g15 g13 (fun μ14 eμ14 => ?_)
    replace h := h μ14 eμ14
    obtain ⟨g16, h⟩ := h
    refine WQ_iinc dX5_keep_38 rfl (by decide) g16 (fun v17 e17 => ?_)
    refine WP_same (L' := [(2, 34), (2, x1), (2, x2), (0, v17)]) rfl ?_
    replace h := h v17 e17
    refine WP_goto (tgt := 18) dX5_keep_41 (by decide) ?_
    exact h

theorem s_X5_takeBack_0 {d : Nat} {sc : SC} {Q : Mem → Prop} {μ : Mem} {a1 a2 : Int} (ha2 : isK 6 a2)
    (h : (a1 < 1 → Q μ) ∧ (1 ≤ a1 → (a1 ≤ μ 34 0 → (-2147483648 ≤ (μ 34 0) - a1 ∧ (μ 34 0) - a1 < 2147483648) ∧ (∀ μ4, μ4 = mup μ 34 0 ((μ 34 0) - a1) → (0 ≤ μ4 34 0 ∧ μ4 34 0 < 10) ∧ CAv mX6_copyFrom d sc [(2, a2), (2, μ4 35 (μ4 34 0))] μ4 (fun μ7 => Q μ7))) ∧ (μ 34 0 < a1 → Q μ))) :
    WQ mX5_takeBack d sc (ZV sc Q) 0 [(2, 34), (0, a1), (2, a2)] [] μ := by
  refine WP_iload_n dX5_takeBack_0 rfl rfl ?_
  refine WP_iconst dX5_takeBack_1 (by decide) ?_
  refine WQ_icmp_lt (tgt := 13) dX5_takeBack_2 (by decide) (fun c1 => ?_) (fun c1 => ?_)
  · replace h := h.1 c1
    exact WQ_return dX5_takeBack_13 rfl h
  · replace h := h.2 c1
    refine WP_iload_n dX5_takeBack_5 rfl rfl ?_
    refine WP_aload_n dX5_takeBack_6 rfl rfl ⟨Nat.le_of_ble_eq_true rfl, Nat.le_of_ble_eq_true rfl⟩ ?_
    refine WP_getfield (ci := 5) (j := 0) (n := 2) (t := 0) (x := μ 34 0) dX5_takeBack_7 f_X5_18 k_34 rfl rfl ?_
    refine WQ_icmp_le (tgt := 14) dX5_takeBack_10 (by decide) (fun c2 => ?_) (fun c2 => ?_)
    · replace h := h.1 c2
      refine WP_aload_n dX5_takeBack_14 rfl rfl ⟨Nat.le_of_ble_eq_true rfl, Nat.le_of_ble_eq_true rfl⟩ ?_
      refine WP_dup dX5_takeBack_15 (by simp) ?_
      refine WP_getfield (ci := 5) (j := 0) (n := 2) (t := 0) (x := μ 34 0) dX5_takeBack_16 f_X5_18 k_34 rfl rfl ?_
      refine WP_iload_n dX5_takeBack_19 rfl rfl ?_
      obtain ⟨g3, h⟩ := h
      refine WP_isub dX5_takeBack_20 g3 ?_
      refine WQ_put (ci := 5) (j := 0) (n := 2) dX5_takeBack_21 f_X5_18 k_34 rfl (fun μ4 eμ4 => ?_)
      replace h := h μ4 eμ4
      refine WP_aload_n dX5_takeBack_24 rfl rfl ⟨Nat.le_of_ble_eq_true rfl, Nat.le_of_ble_eq_true rfl⟩ ?_
      refine WP_aload_n dX5_takeBack_25 rfl rfl ⟨Nat.le_of_ble_eq_true rfl, Nat.le_of_ble_eq_true rfl⟩ ?_
      refine WP_getfield (ci := 5) (j := 1) (n := 2) (t := 2) (x := 35) dX5_takeBack_26 f_X5_11 k_34 rfl rfl ?_
      refine WP_aload_n dX5_takeBack_29 rfl rfl ⟨Nat.le_of_ble_eq_true rfl, Nat.le_of_ble_eq_true rfl⟩ ?_
      refine WP_getfield (ci := 5) (j := 0) (n := 2) (t := 0) (x := μ4 34 0) dX5_takeBack_30 f_X5_18 k_34 rfl rfl ?_
      obtain ⟨g5, h⟩ := h
      refine WP_aaload (n := 10) (ci := 6) dX5_takeBack_33 k_35 (by decide) g5 ?_
      refine WQ_invVv (v := (2, a2)) (as := [(2, μ4 35 (μ4 34 0))]) dX5_takeBack_34 l_X5_22 mw_X6_copyFrom mi_X6_copyFrom ms_X6_copyFrom mo_X6_copyFrom (rcv (ci := 6) (n := 7) (r := (RX6, TX6, 7)) ha2 rfl rfl) (Nat.le_of_ble_eq_true rfl) h rfl (fun μ7 h => ?_)
      exact WQ_return dX5_takeBack_37 rfl h
    · replace h := h.2 c2
      exact WQ_return dX5_takeBack_13 rfl h

theorem s_X6_add_0 {d : Nat} {sc : SC} {Q : Mem → Prop} {μ : Mem} {a0 a1 a2 a3 a4 : Int} (ha0 : isK 6 a0)
    (h : (μ a0 0 < 0 → Q μ) ∧ (0 ≤ μ a0 0 → (μ a0 0 < 10 → (0 ≤ μ a0 0 ∧ μ a0 0 < 10) ∧ (∀ μ4, μ4 = mup μ (a0 + 1) (μ a0 0) a1 → (0 ≤ μ4 a0 0 ∧ μ4 a0 0 < 10) ∧ (∀ μ6, μ6 = mup μ4 (a0 + 2) (μ4 a0 0) a2 → (0 ≤ μ6 a0 0 ∧ μ6 a0 0 < 10) ∧ (∀ μ8, μ8 = mup μ6 (a0 + 3) (μ6 a0 0) a3 → (0 ≤ μ8 a0 0 ∧ μ8 a0 0 < 10) ∧ (∀ μ10, μ10 = mup μ8 (a0 + 4) (μ8 a0 0) a4 → (-2147483648 ≤ (μ10 a0 0) + 1 ∧ (μ10 a0 0) + 1 < 2147483648) ∧ (∀ μ12, μ12 = mup μ10 a0 0 ((μ10 a0 0) + 1) → Q μ12)))))) ∧ (10 ≤ μ a0 0 → Q μ))) :
    WQ mX6_add d sc (ZV sc Q) 0 [(2, a0), (0, a1), (0, a2), (0, a3), (0, a4)] [] μ := by
  refine WP_aload_n dX6_add_0 rfl rfl ⟨Nat.le_of_ble_eq_true rfl, Nat.le_of_ble_eq_true rfl⟩ ?_
  refine WP_getfield (ci := 6) (j := 0) (n := 7) (t := 0) (x := μ a0 0) dX6_add_1 f_X6_27 ha0 rfl rfl ?_
  refine WQ_iflt (tgt := 16) dX6_add_4 (by decide) (fun c1 => ?_) (fun c1 => ?_)
  · replace h := h.1 c1
    exact WQ_return dX6_add_16 rfl h
  · replace h := h.2 c1
    refine WP_aload_n dX6_add_7 rfl rfl ⟨Nat.le_of_ble_eq_true rfl, Nat.le_of_ble_eq_true rfl⟩ ?_
    refine WP_getfield (ci := 6) (j := 0) (n := 7) (t := 0) (x := μ a0 0) dX6_add_8 f_X6_27 ha0 rfl rfl ?_
    refine WP_bipush dX6_add_11 (by decide +kernel) (by decide) ?_
    refine WQ_icmp_lt (tgt := 17) dX6_add_13 (by decide) (fun c2 => ?_) (fun c2 => ?_)
    · replace h := h.1 c2
      refine WP_aload_n dX6_add_17 rfl rfl ⟨Nat.le_of_ble_eq_true rfl, Nat.le_of_ble_eq_true rfl⟩ ?_
      refine WP_getfield (ci := 6) (j := 1) (n := 7) (t := 2) (x := a0 + 1) dX6_add_18 f_X6_9 ha0 rfl rfl ?_
      refine WP_aload_n dX6_add_21 rfl rfl ⟨Nat.le_of_ble_eq_true rfl, Nat.le_of_ble_eq_true rfl⟩ ?_
      refine WP_getfield (ci := 6) (j := 0) (n := 7) (t := 0) (x := μ a0 0) dX6_add_22 f_X6_27 ha0 rfl rfl ?_
      refine WP_iload_n dX6_add_25 rfl rfl ?_
      obtain ⟨g3, h⟩ := h
      refine WQ_iast (n := 10) dX6_add_26 (kf_6_1 ha0) g3 (fun μ4 eμ4 => ?_)
      replace h := h μ4 eμ4
      refine WP_aload_n dX6_add_27 rfl rfl ⟨Nat.le_of_ble_eq_true rfl, Nat.le_of_ble_eq_true rfl⟩ ?_
      refine WP_getfield (ci := 6) (j := 2) (n := 7) (t := 2) (x := a0 + 2) dX6_add_28 f_X6_15 ha0 rfl rfl ?_
      refine WP_aload_n dX6_add_31 rfl rfl ⟨Nat.le_of_ble_eq_true rfl, Nat.le_of_ble_eq_true rfl⟩ ?_
      refine WP_getfield (ci := 6) (j := 0) (n := 7) (t := 0) (x := μ4 a0 0) dX6_add_32 f_X6_27 ha0 rfl rfl ?_
      refine WP_iload_n dX6_add_35 rfl rfl ?_
      obtain ⟨g5, h⟩ := h
      refine WQ_iast (n := 10) dX6_add_36 (kf_6_2 ha0) g5 (fun μ6 eμ6 => ?_)
      replace h := h μ6 eμ6
      refine WP_aload_n dX6_add_37 rfl rfl ⟨Nat.le_of_ble_eq_true rfl, Nat.le_of_ble_eq_true rfl⟩ ?_
      refine WP_getfield (ci := 6) (j := 3) (n := 7) (t := 2) (x := a0 + 3) dX6_add_38 f_X6_18 ha0 rfl rfl ?_
      refine WP_aload_n dX6_add_41 rfl rfl ⟨Nat.le_of_ble_eq_true rfl, Nat.le_of_ble_eq_true rfl⟩ ?_
      refine WP_getfield (ci := 6) (j := 0) (n := 7) (t := 0) (x := μ6 a0 0) dX6_add_42 f_X6_27 ha0 rfl rfl ?_
      refine WP_iload_n dX6_add_45 rfl rfl ?_
      obtain ⟨g7, h⟩ := h
      refine WQ_iast (n := 10) dX6_add_46 (kf_6_3 ha0) g7 (fun μ8 eμ8 => ?_)
      replace h := h μ8 eμ8
      refine WP_aload_n dX6_add_47 rfl rfl ⟨Nat.le_of_ble_eq_true rfl, Nat.le_of_ble_eq_true rfl⟩ ?_
      refine WP_getfield (ci := 6) (j := 4) (n := 7) (t := 2) (x := a0 + 4) dX6_add_48 f_X6_21 ha0 rfl rfl ?_
      refine WP_aload_n dX6_add_51 rfl rfl ⟨Nat.le_of_ble_eq_true rfl, Nat.le_of_ble_eq_true rfl⟩ ?_
      refine WP_getfield (ci := 6) (j := 0) (n := 7) (t := 0) (x := μ8 a0 0) dX6_add_52 f_X6_27 ha0 rfl rfl ?_
      refine WP_iload dX6_add_55 rfl ?_
      obtain ⟨g9, h⟩ := h
      refine WQ_iast (n := 10) dX6_add_57 (kf_6_4 ha0) g9 (fun μ10 eμ10 => ?_)
      replace h := h μ10 eμ10
      refine WP_aload_n dX6_add_58 rfl rfl ⟨Nat.le_of_ble_eq_true rfl, Nat.le_of_ble_eq_true rfl⟩ ?_
      refine WP_dup dX6_add_59 (by simp) ?_
      refine WP_getfield (ci := 6) (j := 0) (n := 7) (t := 0) (x := μ10 a0 0) dX6_add_60 f_X6_27 ha0 rfl rfl ?_
      refine WP_iconst dX6_add_63 (by decide) ?_
      obtain ⟨g11, h⟩ := h
      refine WP_iadd dX6_add_64 g11 ?_
      refine WQ_put (ci := 6) (j := 0) (n := 7) dX6_add_65 f_X6_27 ha0 rfl (fun μ12 eμ12 => ?_)
      replace h := h μ12 eμ12
      exact WQ_return dX6_add_68 rfl h
    · replace h := h.2 c2
      exact WQ_return dX6_add_16 rfl h

theorem s_X6_copyFrom_0 {d : Nat} {sc : SC} {Q : Mem → Prop} {μ : Mem} {a0 a1 : Int} (hd2 : 2 ≤ d) (ha0 : isK 6 a0) (ha1 : isK 6 a1)
    (h : ∀ μ1, μ1 = mup μ a0 0 (μ a1 0) → ∀ μ3, μ3 = mcp μ1 (a1 + 1) (a0 + 1) 10 → ∀ μ5, μ5 = mcp μ3 (a1 + 2) (a0 + 2) 10 → ∀ μ7, μ7 = mcp μ5 (a1 + 3) (a0 + 3) 10 → ∀ μ9, μ9 = mcp μ7 (a1 + 4) (a0 + 4) 10 → ∀ μ11, μ11 = mcp μ9 (a1 + 5) (a0 + 5) 6 → ∀ μ12, μ12 = mup μ11 a0 6 (μ11 a1 6) → Q μ12) :
    WQ mX6_copyFrom d sc (ZV sc Q) 0 [(2, a0), (2, a1)] [] μ := by
  refine WP_aload_n dX6_copyFrom_0 rfl rfl ⟨Nat.le_of_ble_eq_true rfl, Nat.le_of_ble_eq_true rfl⟩ ?_
  refine WP_aload_n dX6_copyFrom_1 rfl rfl ⟨Nat.le_of_ble_eq_true rfl, Nat.le_of_ble_eq_true rfl⟩ ?_
  refine WP_getfield (ci := 6) (j := 0) (n := 7) (t := 0) (x := μ a1 0) dX6_copyFrom_2 f_X6_27 ha1 rfl rfl ?_
  refine WQ_put (ci := 6) (j := 0) (n := 7) dX6_copyFrom_5 f_X6_27 ha0 rfl (fun μ1 eμ1 => ?_)
  replace h := h μ1 eμ1
  refine WP_aload_n dX6_copyFrom_8 rfl rfl ⟨Nat.le_of_ble_eq_true rfl, Nat.le_of_ble_eq_true rfl⟩ ?_
  refine WP_getfield (ci := 6) (j := 1) (n := 7) (t := 2) (x := a1 + 1) dX6_copyFrom_9 f_X6_9 ha1 rfl rfl ?_
  refine WP_iconst dX6_copyFrom_12 (by decide) ?_
  refine WP_aload_n dX6_copyFrom_13 rfl rfl ⟨Nat.le_of_ble_eq_true rfl, Nat.le_of_ble_eq_true rfl⟩ ?_
  refine WP_getfield (ci := 6) (j := 1) (n := 7) (t := 2) (x := a0 + 1) dX6_copyFrom_14 f_X6_9 ha0 rfl rfl ?_
  refine WP_iconst dX6_copyFrom_17 (by decide) ?_
  refine WP_bipush dX6_copyFrom_18 (by decide +kernel) (by decide) ?_
  refine WQ_cpy (n0 := 10) (n1 := 10) hd2 dX6_copyFrom_20 l_X6_31 (kf_6_1 ha1) (kf_6_1 ha0) ⟨by decide, by decide, by decide⟩ (fun μ3 eμ3 => ?_)
  replace h := h μ3 eμ3
  refine WP_aload_n dX6_copyFrom_23 rfl rfl ⟨Nat.le_of_ble_eq_true rfl, Nat.le_of_ble_eq_true rfl⟩ ?_
  refine WP_getfield (ci := 6) (j := 2) (n := 7) (t := 2) (x := a1 + 2) dX6_copyFrom_24 f_X6_15 ha1 rfl rfl ?_
  refine WP_iconst dX6_copyFrom_27 (by decide) ?_
  refine WP_aload_n dX6_copyFrom_28 rfl rfl ⟨Nat.le_of_ble_eq_true rfl, Nat.le_of_ble_eq_true rfl⟩ ?_
  refine WP_getfield (ci := 6) (j := 2) (n := 7) (t := 2) (x := a0 + 2) dX6_copyFrom_29 f_X6_15 ha0 rfl rfl ?_
  refine WP_iconst dX6_copyFrom_32 (by decide) ?_
  refine WP_bipush dX6_copyFrom_33 (by decide +kernel) (by decide) ?_
  refine WQ_cpy (n0 := 10) (n1 := 10) hd2 dX6_copyFrom_35 l_X6_31 (kf_6_2 ha1) (kf_6_2 ha0) ⟨by decide, by decide, by decide⟩ (fun μ5 eμ5 => ?_)
  replace h := h μ5 eμ5
  refine WP_aload_n dX6_copyFrom_38 rfl rfl ⟨Nat.le_of_ble_eq_true rfl, Nat.le_of_ble_eq_true rfl⟩ ?_
  refine WP_getfield (ci := 6) (j := 3) (n := 7) (t := 2) (x := a1 + 3) dX6_copyFrom_39 f_X6_18 ha1 rfl rfl ?_
  refine WP_iconst dX6_copyFrom_42 (by decide) ?_
  refine WP_aload_n dX6_copyFrom_43 rfl rfl ⟨Nat.le_of_ble_eq_true rfl, Nat.le_of_ble_eq_true rfl⟩ ?_
  refine WP_getfield (ci := 6) (j := 3) (n := 7) (t := 2) (x := a0 + 3) dX6_copyFrom_44 f_X6_18 ha0 rfl rfl ?_
  refine WP_iconst dX6_copyFrom_47 (by decide) ?_
  refine WP_bipush dX6_copyFrom_48 (by decide +kernel) (by decide) ?_
  refine WQ_cpy (n0 := 10) (n1 := 10) hd2 dX6_copyFrom_50 l_X6_31 (kf_6_3 ha1) (kf_6_3 ha0) ⟨by decide, by decide, by decide⟩ (fun μ7 eμ7 => ?_)
  replace h := h μ7 eμ7
  refine WP_aload_n dX6_copyFrom_53 rfl rfl ⟨Nat.le_of_ble_eq_true rfl, Nat.le_of_ble_eq_true rfl⟩ ?_
  refine WP_getfield (ci := 6) (j := 4) (n := 7) (t := 2) (x := a1 + 4) dX6_copyFrom_54 f_X6_21 ha1 rfl rfl ?_
  refine WP_iconst dX6_copyFrom_57 (by decide) ?_
  refine WP_aload_n dX6_copyFrom_58 rfl rfl ⟨Nat.le_of_ble_eq_true rfl, Nat.le_of_ble_eq_true rfl⟩ ?_
  refine WP_getfield (ci := 6) (j := 4) (n := 7) (t := 2) (x := a0 + 4) dX6_copyFrom_59 f_X6_21 ha0 rfl rfl ?_
  refine WP_iconst dX6_copyFrom_62 (by decide) ?_
  refine WP_bipush dX6_copyFrom_63 (by decide +kernel) (by decide) ?_
  refine WQ_cpy (n0 := 10) (n1 := 10) hd2 dX6_copyFrom_65 l_X6_31 (kf_6_4 ha1) (kf_6_4 ha0) ⟨by decide, by decide, by decide⟩ (fun μ9 eμ9 => ?_)
  replace h := h μ9 eμ9
  refine WP_aload_n dX6_copyFrom_68 rfl rfl ⟨Nat.le_of_ble_eq_true rfl, Nat.le_of_ble_eq_true rfl⟩ ?_
  refine WP_getfield (ci := 6) (j := 5) (n := 7) (t := 2) (x := a1 + 5) dX6_copyFrom_69 f_X6_24 ha1 rfl rfl ?_
  refine WP_iconst dX6_copyFrom_72 (by decide) ?_
  refine WP_aload_n dX6_copyFrom_73 rfl rfl ⟨Nat.le_of_ble_eq_true rfl, Nat.le_of_ble_eq_true rfl⟩ ?_
  refine WP_getfield (ci := 6) (j := 5) (n := 7) (t := 2) (x := a0 + 5) dX6_copyFrom_74 f_X6_24 ha0 rfl rfl ?_
  refine WP_iconst dX6_copyFrom_77 (by decide) ?_
  refine WP_bipush dX6_copyFrom_78 (by decide +kernel) (by decide) ?_
  refine WQ_cpy (n0 := 6) (n1 := 6) hd2 dX6_copyFrom_80 l_X6_31 (kf_6_5 ha1) (kf_6_5 ha0) ⟨by decide, by decide, by decide⟩ (fun μ11 eμ11 => ?_)
  replace h := h μ11 eμ11
  refine WP_aload_n dX6_copyFrom_83 rfl rfl ⟨Nat.le_of_ble_eq_true rfl, Nat.le_of_ble_eq_true rfl⟩ ?_
  refine WP_aload_n dX6_copyFrom_84 rfl rfl ⟨Nat.le_of_ble_eq_true rfl, Nat.le_of_ble_eq_true rfl⟩ ?_
  refine WP_getfield (ci := 6) (j := 6) (n := 7) (t := 0) (x := μ11 a1 6) dX6_copyFrom_85 f_X6_37 ha1 rfl rfl ?_
  refine WQ_put (ci := 6) (j := 6) (n := 7) dX6_copyFrom_88 f_X6_37 ha0 rfl (fun μ12 eμ12 => ?_)
  replace h := h μ12 eμ12
  exact WQ_return dX6_copyFrom_91 rfl h

theorem s_X6_remove_0 {d : Nat} {sc : SC} {Q : Mem → Prop} {μ : Mem} {a0 a1 : Int} (ha0 : isK 6 a0)
    (h : WQ mX6_remove d sc (ZV sc Q) 2 [(2, a0), (9, 0), (0, a1)] [] μ) :
    WQ mX6_remove d sc (ZV sc Q) 0 [(2, a0), (0, a1), (9, 0)] [] μ := by
  refine WP_iload_n dX6_remove_0 rfl rfl ?_
  refine WP_istore_n (L' := [(2, a0), (0, a1), (0, a1)]) dX6_remove_1 rfl (by decide) rfl ?_
  refine WP_lforget (L' := [(2, a0), (9, 0), (0, a1)]) rfl (fun i hi => ?_) h
  match i, hi with
  | 0, _ => exact Or.inl rfl
  | 1, _ => exact Or.inr rfl
  | 2, _ => exact Or.inl rfl
  | i + 3, hi => exact absurd hi (by simp only [List.length_cons, List.length_nil]; omega)

theorem s_X6_remove_2 {d : Nat} {sc : SC} {Q : Mem → Prop} {μ : Mem} {x0 x2 : Int} (hx0 : isK 6 x0)
    (h : (x2 < 0 → (-2147483648 ≤ (μ x0 0) - 1 ∧ (μ x0 0) - 1 < 2147483648) ∧ (∀ μ3, μ3 = mup μ x0 0 ((μ x0 0) - 1) → Q μ3)) ∧ (0 ≤ x2 → (-2147483648 ≤ x2 + 1 ∧ x2 + 1 < 2147483648) ∧ (μ x0 0 ≤ x2 + 1 → (-2147483648 ≤ (μ x0 0) - 1 ∧ (μ x0 0) - 1 < 2147483648) ∧ (∀ μ7, μ7 = mup μ x0 0 ((μ x0 0) - 1) → Q μ7)) ∧ (x2 + 1 < μ x0 0 → (-2147483648 ≤ x2 + 1 ∧ x2 + 1 < 2147483648) ∧ (0 ≤ x2 + 1 ∧ x2 + 1 < 10) ∧ (0 ≤ x2 ∧ x2 < 10) ∧ (∀ μ11, μ11 = mup μ (x0 + 1) x2 (μ (x0 + 1) (x2 + 1)) → (-2147483648 ≤ x2 + 1 ∧ x2 + 1 < 2147483648) ∧ (0 ≤ x2 + 1 ∧ x2 + 1 < 10) ∧ (0 ≤ x2 ∧ x2 < 10) ∧ (∀ μ15, μ15 = mup μ11 (x0 + 2) x2 (μ11 (x0 + 2) (x2 + 1)) → (-2147483648 ≤ x2 + 1 ∧ x2 + 1 < 2147483648) ∧ (0 ≤ x2 + 1 ∧ x2 + 1 < 10) ∧ (0 ≤ x2 ∧ x2 < 10) ∧ (∀ μ19, μ19 = mup μ15 (x0 + 3) x2 (μ15 (x0 + 3) (x2 + 1)) → (-2147483648 ≤ x2 + 1 ∧ x2 + 1 < 2147483648) ∧ (0 ≤ x2 + 1 ∧ x2 + 1 < 10) ∧ (0 ≤ x2 ∧ x2 < 10) ∧ (∀ μ23, μ23 = mup μ19 (x0 + 4) x2 (μ19 (x0 + 4) (x2 + 1)) → (-2147483648 ≤ x2 + 1 ∧ x2 + 1 < 2147483648) ∧ ∀ v25 : Int, v25 = x2 + 1 → WQ mX6_remove d sc (ZV sc Q) 2 [(2, x0), (9, 0), (0, v25)] [] μ23))))))) :
    WQ mX6_remove d sc (ZV sc Q) 2 [(2, x0), (9, 0), (0, x2)] [] μ := by
  refine WP_iload_n dX6_remove_2 rfl rfl ?_
  refine WQ_iflt (tgt := 78) dX6_remove_3 (by decide) (fun c1 => ?_) (fun c1 => ?_)
  · replace h := h.1 c1
    refine WP_aload_n dX6_remove_78 rfl rfl ⟨Nat.le_of_ble_eq_true rfl, Nat.le_of_ble_eq_true rfl⟩ ?_
    refine WP_dup dX6_remove_79 (by simp) ?_
    refine WP_getfield (ci := 6) (j := 0) (n := 7) (t := 0) (x := μ x0 0) dX6_remove_80 f_X6_27 hx0 rfl rfl ?_
    refine WP_iconst dX6_remove_83 (by decide) ?_
    obtain ⟨g2, h⟩ := h
    refine WP_isub dX6_remove_84 g2 ?_
    refine WQ_put (ci := 6) (j := 0) (n := 7) dX6_remove_85 f_X6_27 hx0 rfl (fun μ3 eμ3 => ?_)
    replace h := h μ3 eμ3
    exact WQ_return dX6_remove_88 rfl h
  · replace h := h.2 c1
    refine WP_iload_n dX6_remove_6 rfl rfl ?_
    refine WP_iconst dX6_remove_7 (by decide) ?_
    obtain ⟨g4, h⟩ := h
    refine WP_iadd dX6_remove_8 g4 ?_
    refine WP_aload_n dX6_remove_9 rfl rfl ⟨Nat.le_of_ble_eq_true rfl, Nat.le_of_ble_eq_true rfl⟩ ?_
    refine WP_getfield (ci := 6) (j := 0) (n := 7) (t := 0) (x := μ x0 0) dX6_remove_10 f_X6_27 hx0 rfl rfl ?_
    refine WQ_icmp_ge (tgt := 78) dX6_remove_13 (by decide) (fun c5 => ?_) (fun c5 => ?_)
    · replace h := h.1 c5
      refine WP_aload_n dX6_remove_78 rfl rfl ⟨Nat.le_of_ble_eq_true rfl, Nat.le_of_ble_eq_true rfl⟩ ?_
      refine WP_dup dX6_remove_79 (by simp) ?_
      refine WP_getfield (ci := 6) (j := 0) (n := 7) (t := 0) (x := μ x0 0) dX6_remove_80 f_X6_27 hx0 rfl rfl ?_
      refine WP_iconst dX6_remove_83 (by decide) ?_
      obtain ⟨g6, h⟩ := h
      refine WP_isub dX6_remove_84 g6 ?_
      refine WQ_put (ci := 6) (j := 0) (n := 7) dX6_remove_85 f_X6_27 hx0 rfl (fun μ7 eμ7 => ?_)
      replace h := h μ7 eμ7
      exact WQ_return dX6_remove_88 rfl h
    · replace h := h.2 c5
      refine WP_aload_n dX6_remove_16 rfl rfl ⟨Nat.le_of_ble_eq_true rfl, Nat.le_of_ble_eq_true rfl⟩ ?_
      refine WP_getfield (ci := 6) (j := 1) (n := 7) (t := 2) (x := x0 + 1) dX6_remove_17 f_X6_9 hx0 rfl rfl ?_
      refine WP_iload_n dX6_remove_20 rfl rfl ?_
      refine WP_aload_n dX6_remove_21 rfl rfl ⟨Nat.le_of_ble_eq_true rfl, Nat.le_of_ble_eq_true rfl⟩ ?_
      refine WP_getfield (ci := 6) (j := 1) (n := 7) (t := 2) (x := x0 + 1) dX6_remove_22 f_X6_9 hx0 rfl rfl ?_
      refine WP_iload_n dX6_remove_25 rfl rfl ?_
      refine WP_iconst dX6_remove_26 (by decide) ?_
      obtain ⟨g8, h⟩ := h
      refine WP_iadd dX6_remove_27 g8 ?_
      obtain ⟨g9, h⟩ := h
      refine WP_iaload (n := 10) dX6_remove_28 (kf_6_1 hx0) g9 ?_
      obtain ⟨g10, h⟩ := h
      refine WQ_iast (n := 10) dX6_remove_29 (kf_6_1 hx0) g10 (fun μ11 eμ11 => ?_)
      replace h := h μ11 eμ11
      refine WP_aload_n dX6_remove_30 rfl rfl ⟨Nat.le_of_ble_eq_true rfl, Nat.le_of_ble_eq_true rfl⟩ ?_
      refine WP_getfield (ci := 6) (j := 2) (n := 7) (t := 2) (x := x0 + 2) dX6_remove_31 f_X6_15 hx0 rfl rfl ?_
      refine WP_iload_n dX6_remove_34 rfl rfl ?_
      refine WP_aload_n dX6_remove_35 rfl rfl ⟨Nat.le_of_ble_eq_true rfl, Nat.le_of_ble_eq_true rfl⟩ ?_
      refine WP_getfield (ci := 6) (j := 2) (n := 7) (t := 2) (x := x0 + 2) dX6_remove_36 f_X6_15 hx0 rfl rfl ?_
      refine WP_iload_n dX6_remove_39 rfl rfl ?_
      refine WP_iconst dX6_remove_40 (by decide) ?_
      obtain ⟨g12, h⟩ := h
      refine WP_iadd dX6_remove_41 g12 ?_
      obtain ⟨g13, h⟩ := h
      refine WP_iaload (n := 10) dX6_remove_42 (kf_6_2 hx0) g13 ?_
      obtain ⟨g14, h⟩ := h
      refine WQ_iast (n := 10) dX6_remove_43 (kf_6_2 hx0) g14 (fun μ15 eμ15 => ?_)
      replace h := h μ15 eμ15
      refine WP_aload_n dX6_remove_44 rfl rfl ⟨Nat.le_of_ble_eq_true rfl, Nat.le_of_ble_eq_true rfl⟩ ?_
      refine WP_getfield (ci := 6) (j := 3) (n := 7) (t := 2) (x := x0 + 3) dX6_remove_45 f_X6_18 hx0 rfl rfl ?_
      refine WP_iload_n dX6_remove_48 rfl rfl ?_
      refine WP_aload_n dX6_remove_49 rfl rfl ⟨Nat.le_of_ble_eq_true rfl, Nat.le_of_ble_eq_true rfl⟩ ?_
      refine WP_getfield (ci := 6) (j := 3) (n := 7) (t := 2) (x := x0 + 3) dX6_remove_50 f_X6_18 hx0 rfl rfl ?_
      refine WP_iload_n dX6_remove_53 rfl rfl ?_
      refine WP_iconst dX6_remove_54 (by decide) ?_
      obtain ⟨g16, h⟩ := h
      refine WP_iadd dX6_remove_55 g16 ?_
      obtain ⟨g17, h⟩ := h
      refine WP_iaload (n := 10) dX6_remove_56 (kf_6_3 hx0) g17 ?_
      obtain ⟨g18, h⟩ := h
      refine WQ_iast (n := 10) dX6_remove_57 (kf_6_3 hx0) g18 (fun μ19 eμ19 => ?_)
      replace h := h μ19 eμ19
      refine WP_aload_n dX6_remove_58 rfl rfl ⟨Nat.le_of_ble_eq_true rfl, Nat.le_of_ble_eq_true rfl⟩ ?_
      refine WP_getfield (ci := 6) (j := 4) (n := 7) (t := 2) (x := x0 + 4) dX6_remove_59 f_X6_21 hx0 rfl rfl ?_
      refine WP_iload_n dX6_remove_62 rfl rfl ?_
      refine WP_aload_n dX6_remove_63 rfl rfl ⟨Nat.le_of_ble_eq_true rfl, Nat.le_of_ble_eq_true rfl⟩ ?_
      refine WP_getfield (ci := 6) (j := 4) (n := 7) (t := 2) (x := x0 + 4) dX6_remove_64 f_X6_21 hx0 rfl rfl ?_
      refine WP_iload_n dX6_remove_67 rfl rfl ?_
      refine WP_iconst dX6_remove_68 (by decide) ?_
      obtain ⟨g20, h⟩ := h
      refine WP_iadd dX6_remove_69 g20 ?_
      obtain ⟨g21, h⟩ := h
      refine WP_iaload (n := 10) dX6_remove_70 (kf_6_4 hx0) g21 ?_
      obtain ⟨g22, h⟩ := h
      refine WQ_iast (n := 10) dX6_remove_71 (kf_6_4 hx0) g22 (fun μ23 eμ23 => ?_)
      replace h := h μ23 eμ23
      obtain ⟨g24, h⟩ := h
      refine WQ_iinc dX6_remove_72 rfl (by decide) g24 (fun v25 e25 => ?_)
      refine WP_same (L' := [(2, x0), (9, 0), (0, v25)]) rfl ?_
      replace h := h v25 e25
      refine WP_goto (tgt := 2) dX6_remove_75 (by decide) ?_
      exact h

theorem s_X8_lay_0 {d : Nat} {sc : SC} {Q : Mem → Prop} {μ : Mem} {a0 a1 a2 : Int} (ha0 : isK 8 a0)
    (h : ∀ μ1, μ1 = mup μ a0 0 1 → ∀ μ2, μ2 = mup μ1 a0 1 a1 → ∀ μ3, μ3 = mup μ2 a0 2 a2 → CAv mJ7_fill_d0a16 d sc [(2, a0 + 1), (1, 0)] μ3 (fun μ5 => Q μ5)) :
    WQ mX8_lay d sc (ZV sc Q) 0 [(2, a0), (0, a1), (0, a2)] [] μ := by
  refine WP_aload_n dX8_lay_0 rfl rfl ⟨Nat.le_of_ble_eq_true rfl, Nat.le_of_ble_eq_true rfl⟩ ?_
  refine WP_iconst dX8_lay_1 (by decide) ?_
  refine WQ_putz (ci := 8) (j := 0) (n := 4) dX8_lay_2 f_X8_15 ha0 rfl ⟨by decide, by decide⟩ (fun μ1 eμ1 => ?_)
  replace h := h μ1 eμ1
  refine WP_aload_n dX8_lay_5 rfl rfl ⟨Nat.le_of_ble_eq_true rfl, Nat.le_of_ble_eq_true rfl⟩ ?_
  refine WP_iload_n dX8_lay_6 rfl rfl ?_
  refine WQ_put (ci := 8) (j := 1) (n := 4) dX8_lay_7 f_X8_19 ha0 rfl (fun μ2 eμ2 => ?_)
  replace h := h μ2 eμ2
  refine WP_aload_n dX8_lay_10 rfl rfl ⟨Nat.le_of_ble_eq_true rfl, Nat.le_of_ble_eq_true rfl⟩ ?_
  refine WP_iload_n dX8_lay_11 rfl rfl ?_
  refine WQ_put (ci := 8) (j := 2) (n := 4) dX8_lay_12 f_X8_23 ha0 rfl (fun μ3 eμ3 => ?_)
  replace h := h μ3 eμ3
  refine WP_aload_n dX8_lay_15 rfl rfl ⟨Nat.le_of_ble_eq_true rfl, Nat.le_of_ble_eq_true rfl⟩ ?_
  refine WP_getfield (ci := 8) (j := 3) (n := 4) (t := 2) (x := a0 + 1) dX8_lay_16 f_X8_9 ha0 rfl rfl ?_
  refine WP_lconst dX8_lay_19 rfl ?_
  refine WQ_invSv (as := [(2, a0 + 1), (1, 0)]) dX8_lay_20 l_X8_26 mw_J7_fill_d0a16 mt_J7_fill_d0a16 mo_J7_fill_d0a16 (Nat.le_of_ble_eq_true rfl) h rfl (fun μ5 h => ?_)
  exact WQ_return dX8_lay_23 rfl h

theorem s_X8_put_0 {d : Nat} {sc : SC} {Q : Int → Mem → Prop} {μ : Mem} {a0 a1 a2 : Int} (ha0 : isK 8 a0)
    (h : (a1 < 0 → Q (-7) μ) ∧ (0 ≤ a1 → (a1 < μ a0 2 → (μ a0 1 = 0 → (0 ≤ a1 ∧ a1 < 40) ∧ (∀ μ5, μ5 = mup μ (a0 + 1) a1 (toB (w32 a2)) → (0 ≤ a1 ∧ a1 < 40) ∧ Q (μ5 (a0 + 1) a1) μ5)) ∧ (μ a0 1 = 1 → (0 ≤ a1 ∧ a1 < 40) ∧ (∀ μ8, μ8 = mup μ (a0 + 1) a1 (toS (w32 a2)) → (0 ≤ a1 ∧ a1 < 40) ∧ Q (μ8 (a0 + 1) a1) μ8)) ∧ (μ a0 1 = 2 → (0 ≤ a1 ∧ a1 < 40) ∧ (∀ μ11, μ11 = mup μ (a0 + 1) a1 (w32 a2) → (0 ≤ a1 ∧ a1 < 40) ∧ Q (μ11 (a0 + 1) a1) μ11)) ∧ ((μ a0 1 ≠ 0 ∧ μ a0 1 ≠ 1 ∧ μ a0 1 ≠ 2) → (0 ≤ a1 ∧ a1 < 40) ∧ (∀ μ14, μ14 = mup μ (a0 + 1) a1 a2 → (0 ≤ a1 ∧ a1 < 40) ∧ Q (μ14 (a0 + 1) a1) μ14))) ∧ (μ a0 2 ≤ a1 → Q (-7) μ))) :
    WQ mX8_put d sc (ZL sc Q) 0 [(2, a0), (0, a1), (1, a2), (9, 0)] [] μ := by
  refine WP_iload_n dX8_put_0 rfl rfl ?_
  refine WQ_iflt (tgt := 12) dX8_put_1 (by decide) (fun c1 => ?_) (fun c1 => ?_)
  · replace h := h.1 c1
    refine WP_ldc2 dX8_put_12 c_X8_32 (by decide) ?_
    exact WQ_lreturn dX8_put_15 rfl h
  · replace h := h.2 c1
    refine WP_iload_n dX8_put_4 rfl rfl ?_
    refine WP_aload_n dX8_put_5 rfl rfl ⟨Nat.le_of_ble_eq_true rfl, Nat.le_of_ble_eq_true rfl⟩ ?_
    refine WP_getfield (ci := 8) (j := 2) (n := 4) (t := 0) (x := μ a0 2) dX8_put_6 f_X8_23 ha0 rfl rfl ?_
    refine WQ_icmp_lt (tgt := 16) dX8_put_9 (by decide) (fun c2 => ?_) (fun c2 => ?_)
    · replace h := h.1 c2
      refine WP_aload_n dX8_put_16 rfl rfl ⟨Nat.le_of_ble_eq_true rfl, Nat.le_of_ble_eq_true rfl⟩ ?_
      refine WP_getfield (ci := 8) (j := 1) (n := 4) (t := 0) (x := μ a0 1) dX8_put_17 f_X8_19 ha0 rfl rfl ?_
      have hD : (μ a0 1 ≠ 0 ∧ μ a0 1 ≠ 1 ∧ μ a0 1 ≠ 2) → WQ mX8_put d sc (ZL sc Q) 86 [(2, a0), (0, a1), (1, a2), (9, 0)] [] μ := by
        intro c3
        replace h := h.2.2.2 c3
        refine WP_aload_n dX8_put_86 rfl rfl ⟨Nat.le_of_ble_eq_true rfl, Nat.le_of_ble_eq_true rfl⟩ ?_
        refine WP_getfield (ci := 8) (j := 3) (n := 4) (t := 2) (x := a0 + 1) dX8_put_87 f_X8_9 ha0 rfl rfl ?_
        refine WP_iload_n dX8_put_90 rfl rfl ?_
        refine WP_lload_n dX8_put_91 rfl rfl ?_
        obtain ⟨g13, h⟩ := h
        refine WQ_last (n := 40) dX8_put_92 (kf_8_3 ha0) g13 (fun μ14 eμ14 => ?_)
        replace h := h μ14 eμ14
        refine WP_aload_n dX8_put_93 rfl rfl ⟨Nat.le_of_ble_eq_true rfl, Nat.le_of_ble_eq_true rfl⟩ ?_
        refine WP_getfield (ci := 8) (j := 3) (n := 4) (t := 2) (x := a0 + 1) dX8_put_94 f_X8_9 ha0 rfl rfl ?_
        refine WP_iload_n dX8_put_97 rfl rfl ?_
        obtain ⟨g15, h⟩ := h
        refine WP_laload (n := 40) dX8_put_98 (kf_8_3 ha0) g15 ?_
        exact WQ_lreturn dX8_put_99 rfl h
      rcases (show (μ a0 1 < 0 ∨ 2 < μ a0 1) ∨ μ a0 1 = 0 ∨ μ a0 1 = 1 ∨ μ a0 1 = 2 by omega) with c3 | c3 | c3 | c3
      · exact WP_tableOut (tgt := 86) dX8_put_20 c3 (by decide) (hD (by omega))
      · refine WP_tableIn (tgt := 48) dX8_put_20 (by omega) (by omega) (by rw [c3]; rfl) (by decide) ?_
        replace h := h.1 c3
        refine WP_aload_n dX8_put_48 rfl rfl ⟨Nat.le_of_ble_eq_true rfl, Nat.le_of_ble_eq_true rfl⟩ ?_
        refine WP_getfield (ci := 8) (j := 3) (n := 4) (t := 2) (x := a0 + 1) dX8_put_49 f_X8_9 ha0 rfl rfl ?_
        refine WP_iload_n dX8_put_52 rfl rfl ?_
        refine WP_lload_n dX8_put_53 rfl rfl ?_
        refine WP_l2i dX8_put_54 ?_
        refine WP_i2b dX8_put_55 ?_
        refine WP_i2l dX8_put_56 ?_
        obtain ⟨g4, h⟩ := h
        refine WQ_last (n := 40) dX8_put_57 (kf_8_3 ha0) g4 (fun μ5 eμ5 => ?_)
        replace h := h μ5 eμ5
        refine WP_goto (tgt := 93) dX8_put_58 (by decide) ?_
        refine WP_aload_n dX8_put_93 rfl rfl ⟨Nat.le_of_ble_eq_true rfl, Nat.le_of_ble_eq_true rfl⟩ ?_
        refine WP_getfield (ci := 8) (j := 3) (n := 4) (t := 2) (x := a0 + 1) dX8_put_94 f_X8_9 ha0 rfl rfl ?_
        refine WP_iload_n dX8_put_97 rfl rfl ?_
        obtain ⟨g6, h⟩ := h
        refine WP_laload (n := 40) dX8_put_98 (kf_8_3 ha0) g6 ?_
        exact WQ_lreturn dX8_put_99 rfl h
      · refine WP_tableIn (tgt := 61) dX8_put_20 (by omega) (by omega) (by rw [c3]; rfl) (by decide) ?_
        replace h := h.2.1 c3
        refine WP_aload_n dX8_put_61 rfl rfl ⟨Nat.le_of_ble_eq_true rfl, Nat.le_of_ble_eq_true rfl⟩ ?_
        refine WP_getfield (ci := 8) (j := 3) (n := 4) (t := 2) (x := a0 + 1) dX8_put_62 f_X8_9 ha0 rfl rfl ?_
        refine WP_iload_n dX8_put_65 rfl rfl ?_
        refine WP_lload_n dX8_put_66 rfl rfl ?_
        refine WP_l2i dX8_put_67 ?_
        refine WP_i2s dX8_put_68 ?_
        refine WP_i2l dX8_put_69 ?_
        obtain ⟨g7, h⟩ := h
        refine WQ_last (n := 40) dX8_put_70 (kf_8_3 ha0) g7 (fun μ8 eμ8 => ?_)
        replace h := h μ8 eμ8
        refine WP_goto (tgt := 93) dX8_put_71 (by decide) ?_
        refine WP_aload_n dX8_put_93 rfl rfl ⟨Nat.le_of_ble_eq_true rfl, Nat.le_of_ble_eq_true rfl⟩ ?_
        refine WP_getfield (ci := 8) (j := 3) (n := 4) (t := 2) (x := a0 + 1) dX8_put_94 f_X8_9 ha0 rfl rfl ?_
        refine WP_iload_n dX8_put_97 rfl rfl ?_
        obtain ⟨g9, h⟩ := h
        refine WP_laload (n := 40) dX8_put_98 (kf_8_3 ha0) g9 ?_
        exact WQ_lreturn dX8_put_99 rfl h
      · refine WP_tableIn (tgt := 74) dX8_put_20 (by omega) (by omega) (by rw [c3]; rfl) (by decide) ?_
        replace h := h.2.2.1 c3
        refine WP_aload_n dX8_put_74 rfl rfl ⟨Nat.le_of_ble_eq_true rfl, Nat.le_of_ble_eq_true rfl⟩ ?_
        refine WP_getfield (ci := 8) (j := 3) (n := 4) (t := 2) (x := a0 + 1) dX8_put_75 f_X8_9 ha0 rfl rfl ?_
        refine WP_iload_n dX8_put_78 rfl rfl ?_
        refine WP_lload_n dX8_put_79 rfl rfl ?_
        refine WP_l2i dX8_put_80 ?_
        refine WP_i2l dX8_put_81 ?_
        obtain ⟨g10, h⟩ := h
        refine WQ_last (n := 40) dX8_put_82 (kf_8_3 ha0) g10 (fun μ11 eμ11 => ?_)
        replace h := h μ11 eμ11
        refine WP_goto (tgt := 93) dX8_put_83 (by decide) ?_
        refine WP_aload_n dX8_put_93 rfl rfl ⟨Nat.le_of_ble_eq_true rfl, Nat.le_of_ble_eq_true rfl⟩ ?_
        refine WP_getfield (ci := 8) (j := 3) (n := 4) (t := 2) (x := a0 + 1) dX8_put_94 f_X8_9 ha0 rfl rfl ?_
        refine WP_iload_n dX8_put_97 rfl rfl ?_
        obtain ⟨g12, h⟩ := h
        refine WP_laload (n := 40) dX8_put_98 (kf_8_3 ha0) g12 ?_
        exact WQ_lreturn dX8_put_99 rfl h
    · replace h := h.2 c2
      refine WP_ldc2 dX8_put_12 c_X8_32 (by decide) ?_
      exact WQ_lreturn dX8_put_15 rfl h

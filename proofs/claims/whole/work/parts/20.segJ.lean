/-! segments, printed by program -/
theorem s_J0_charAt_5068e_0 {d : Nat} {sc : SC} {Q : Int → Mem → Prop} {μ : Mem} {a0 a1 : Int}
    (h : CAi mJ0_isLatin1_aae02 d sc [(3, a0)] μ (fun r1 μ2 => (r1 = 0 → False) ∧ (r1 ≠ 0 → CAi mJ1_charAt_3b067 d sc [(5, a0), (0, a1)] μ2 (fun r4 μ5 => (0 ≤ r4 ∧ r4 < 65536) ∧ Q r4 μ5)))) :
    WQ mJ0_charAt_5068e d sc (ZI sc Q) 0 [(3, a0), (0, a1)] [] μ := by
  refine WP_aload_n dJ0_charAt_5068e_0 rfl rfl ⟨Nat.le_of_ble_eq_true rfl, Nat.le_of_ble_eq_true rfl⟩ ?_
  refine WQ_invVi (v := (3, a0)) (as := []) dJ0_charAt_5068e_1 l_J0_492 mw_J0_isLatin1_aae02 mi_J0_isLatin1_aae02 ms_J0_isLatin1_aae02 mo_J0_isLatin1_aae02 (rcv_tx rfl) (Nat.le_of_ble_eq_true rfl) h rfl (fun r1 μ2 h => ?_)
  refine WQ_ifeq (tgt := 16) dJ0_charAt_5068e_4 (by decide) (fun c3 => ?_) (fun c3 => ?_)
  · replace h := h.1 c3
    refine WP_aload_n dJ0_charAt_5068e_16 rfl rfl ⟨Nat.le_of_ble_eq_true rfl, Nat.le_of_ble_eq_true rfl⟩ ?_
    refine WP_txval dJ0_charAt_5068e_17 f_J0_9 ?_
    refine WP_iload_n dJ0_charAt_5068e_20 rfl rfl ?_
    exact h.elim
  · replace h := h.2 c3
    refine WP_aload_n dJ0_charAt_5068e_7 rfl rfl ⟨Nat.le_of_ble_eq_true rfl, Nat.le_of_ble_eq_true rfl⟩ ?_
    refine WP_txval dJ0_charAt_5068e_8 f_J0_9 ?_
    refine WP_iload_n dJ0_charAt_5068e_11 rfl rfl ?_
    refine WQ_invSi (as := [(5, a0), (0, a1)]) dJ0_charAt_5068e_12 l_J0_495 mw_J1_charAt_3b067 mt_J1_charAt_3b067 mo_J1_charAt_3b067 (Nat.le_of_ble_eq_true rfl) h rfl (fun r4 μ5 h => ?_)
    exact WQ_creturn dJ0_charAt_5068e_15 rfl h.1 h.2

theorem s_J0_checkIndex_df160_0 {d : Nat} {sc : SC} {Q : Mem → Prop} {μ : Mem} {a0 a1 : Int}
    (h : CAi mJ3_checkIndex_8e157 d sc [(0, a0), (0, a1), (6, 0)] μ (fun r1 μ2 => Q μ2)) :
    WQ mJ0_checkIndex_df160 d sc (ZV sc Q) 0 [(0, a0), (0, a1)] [] μ := by
  refine WP_iload_n dJ0_checkIndex_df160_0 rfl rfl ?_
  refine WP_iload_n dJ0_checkIndex_df160_1 rfl rfl ?_
  refine WP_sioobe dJ0_checkIndex_df160_2 f_J0_1053 ?_
  refine WQ_invSi (as := [(0, a0), (0, a1), (6, 0)]) dJ0_checkIndex_df160_5 l_J0_1059 mw_J3_checkIndex_8e157 mt_J3_checkIndex_8e157 mo_J3_checkIndex_8e157 (Nat.le_of_ble_eq_true rfl) h rfl (fun r1 μ2 h => ?_)
  refine WP_pop dJ0_checkIndex_df160_8 (by simp) ?_
  exact WQ_return dJ0_checkIndex_df160_9 rfl h

theorem s_J0_coder_7d493_0 {d : Nat} {sc : SC} {Q : Int → Mem → Prop} {μ : Mem} {a0 : Int}
    (h : Q 0 μ) :
    WQ mJ0_coder_7d493 d sc (ZI sc Q) 0 [(3, a0)] [] μ := by
  refine WP_compact dJ0_coder_7d493_0 f_J0_38 ?_
  refine WQ_ifeq (tgt := 13) dJ0_coder_7d493_3 (by decide) (fun q => absurd q (by decide)) (fun _ => ?_)
  refine WP_aload_n dJ0_coder_7d493_6 rfl rfl ⟨Nat.le_of_ble_eq_true rfl, Nat.le_of_ble_eq_true rfl⟩ ?_
  refine WP_txcoder dJ0_coder_7d493_7 f_J0_15 ?_
  refine WP_goto (tgt := 14) dJ0_coder_7d493_10 (by decide) ?_
  exact WQ_breturn dJ0_coder_7d493_14 rfl ⟨by decide, by decide⟩ h

theorem s_J0_indexOf_0f7a4_0 {d : Nat} {sc : SC} {Q : Int → Mem → Prop} {μ : Mem} {a0 a1 : Int}
    (h : CAi mJ0_indexOf_7cf53 d sc [(3, a0), (0, a1), (0, 0)] μ (fun r1 μ2 => Q r1 μ2)) :
    WQ mJ0_indexOf_0f7a4 d sc (ZI sc Q) 0 [(3, a0), (0, a1)] [] μ := by
  refine WP_aload_n dJ0_indexOf_0f7a4_0 rfl rfl ⟨Nat.le_of_ble_eq_true rfl, Nat.le_of_ble_eq_true rfl⟩ ?_
  refine WP_iload_n dJ0_indexOf_0f7a4_1 rfl rfl ?_
  refine WP_iconst dJ0_indexOf_0f7a4_2 (by decide) ?_
  refine WQ_invVi (v := (3, a0)) (as := [(0, a1), (0, 0)]) dJ0_indexOf_0f7a4_3 l_J0_633 mw_J0_indexOf_7cf53 mi_J0_indexOf_7cf53 ms_J0_indexOf_7cf53 mo_J0_indexOf_7cf53 (rcv_tx rfl) (Nat.le_of_ble_eq_true rfl) h rfl (fun r1 μ2 h => ?_)
  exact WQ_ireturn dJ0_indexOf_0f7a4_6 rfl h

theorem s_J0_indexOf_7cf53_0 {d : Nat} {sc : SC} {Q : Int → Mem → Prop} {μ : Mem} {a0 a1 a2 : Int}
    (h : CAi mJ0_isLatin1_aae02 d sc [(3, a0)] μ (fun r1 μ2 => (r1 = 0 → CAi mJ0_length_8abf5 d sc [(3, a0)] μ2 (fun r4 μ5 => False)) ∧ (r1 ≠ 0 → CAi mJ0_length_8abf5 d sc [(3, a0)] μ2 (fun r6 μ7 => CAi mJ1_indexOf_4cfef d sc [(5, a0), (0, a1), (0, a2), (0, r6)] μ7 (fun r8 μ9 => Q r8 μ9))))) :
    WQ mJ0_indexOf_7cf53 d sc (ZI sc Q) 0 [(3, a0), (0, a1), (0, a2)] [] μ := by
  refine WP_aload_n dJ0_indexOf_7cf53_0 rfl rfl ⟨Nat.le_of_ble_eq_true rfl, Nat.le_of_ble_eq_true rfl⟩ ?_
  refine WQ_invVi (v := (3, a0)) (as := []) dJ0_indexOf_7cf53_1 l_J0_492 mw_J0_isLatin1_aae02 mi_J0_isLatin1_aae02 ms_J0_isLatin1_aae02 mo_J0_isLatin1_aae02 (rcv_tx rfl) (Nat.le_of_ble_eq_true rfl) h rfl (fun r1 μ2 h => ?_)
  refine WQ_ifeq (tgt := 23) dJ0_indexOf_7cf53_4 (by decide) (fun c3 => ?_) (fun c3 => ?_)
  · replace h := h.1 c3
    refine WP_aload_n dJ0_indexOf_7cf53_23 rfl rfl ⟨Nat.le_of_ble_eq_true rfl, Nat.le_of_ble_eq_true rfl⟩ ?_
    refine WP_txval dJ0_indexOf_7cf53_24 f_J0_9 ?_
    refine WP_iload_n dJ0_indexOf_7cf53_27 rfl rfl ?_
    refine WP_iload_n dJ0_indexOf_7cf53_28 rfl rfl ?_
    refine WP_aload_n dJ0_indexOf_7cf53_29 rfl rfl ⟨Nat.le_of_ble_eq_true rfl, Nat.le_of_ble_eq_true rfl⟩ ?_
    refine WQ_invVi (v := (3, a0)) (as := []) dJ0_indexOf_7cf53_30 l_J0_505 mw_J0_length_8abf5 mi_J0_length_8abf5 ms_J0_length_8abf5 mo_J0_length_8abf5 (rcv_tx rfl) (Nat.le_of_ble_eq_true rfl) h rfl (fun r4 μ5 h => ?_)
    exact h.elim
  · replace h := h.2 c3
    refine WP_aload_n dJ0_indexOf_7cf53_7 rfl rfl ⟨Nat.le_of_ble_eq_true rfl, Nat.le_of_ble_eq_true rfl⟩ ?_
    refine WP_txval dJ0_indexOf_7cf53_8 f_J0_9 ?_
    refine WP_iload_n dJ0_indexOf_7cf53_11 rfl rfl ?_
    refine WP_iload_n dJ0_indexOf_7cf53_12 rfl rfl ?_
    refine WP_aload_n dJ0_indexOf_7cf53_13 rfl rfl ⟨Nat.le_of_ble_eq_true rfl, Nat.le_of_ble_eq_true rfl⟩ ?_
    refine WQ_invVi (v := (3, a0)) (as := []) dJ0_indexOf_7cf53_14 l_J0_505 mw_J0_length_8abf5 mi_J0_length_8abf5 ms_J0_length_8abf5 mo_J0_length_8abf5 (rcv_tx rfl) (Nat.le_of_ble_eq_true rfl) h rfl (fun r6 μ7 h => ?_)
    refine WQ_invSi (as := [(5, a0), (0, a1), (0, a2), (0, r6)]) dJ0_indexOf_7cf53_17 l_J0_637 mw_J1_indexOf_4cfef mt_J1_indexOf_4cfef mo_J1_indexOf_4cfef (Nat.le_of_ble_eq_true rfl) h rfl (fun r8 μ9 h => ?_)
    refine WP_goto (tgt := 36) dJ0_indexOf_7cf53_20 (by decide) ?_
    exact WQ_ireturn dJ0_indexOf_7cf53_36 rfl h

theorem s_J0_isLatin1_aae02_0 {d : Nat} {sc : SC} {Q : Int → Mem → Prop} {μ : Mem} {a0 : Int}
    (h : Q 1 μ) :
    WQ mJ0_isLatin1_aae02 d sc (ZI sc Q) 0 [(3, a0)] [] μ := by
  refine WP_compact dJ0_isLatin1_aae02_0 f_J0_38 ?_
  refine WQ_ifeq (tgt := 17) dJ0_isLatin1_aae02_3 (by decide) (fun q => absurd q (by decide)) (fun _ => ?_)
  refine WP_aload_n dJ0_isLatin1_aae02_6 rfl rfl ⟨Nat.le_of_ble_eq_true rfl, Nat.le_of_ble_eq_true rfl⟩ ?_
  refine WP_txcoder dJ0_isLatin1_aae02_7 f_J0_15 ?_
  refine WQ_ifne (tgt := 17) dJ0_isLatin1_aae02_10 (by decide) (fun q => absurd q (by decide)) (fun _ => ?_)
  refine WP_iconst dJ0_isLatin1_aae02_13 (by decide) ?_
  refine WP_goto (tgt := 18) dJ0_isLatin1_aae02_14 (by decide) ?_
  exact WQ_zreturn dJ0_isLatin1_aae02_18 rfl ⟨by decide, by decide⟩ h

theorem s_J0_length_8abf5_0 {d : Nat} {sc : SC} {Q : Int → Mem → Prop} {μ : Mem} {a0 : Int}
    (h : CAi mJ0_coder_7d493 d sc [(3, a0)] μ (fun r1 μ2 => Q (iShr (txLen a0) r1) μ2)) :
    WQ mJ0_length_8abf5 d sc (ZI sc Q) 0 [(3, a0)] [] μ := by
  refine WP_aload_n dJ0_length_8abf5_0 rfl rfl ⟨Nat.le_of_ble_eq_true rfl, Nat.le_of_ble_eq_true rfl⟩ ?_
  refine WP_txval dJ0_length_8abf5_1 f_J0_9 ?_
  refine WP_txlen dJ0_length_8abf5_4 ?_
  refine WP_aload_n dJ0_length_8abf5_5 rfl rfl ⟨Nat.le_of_ble_eq_true rfl, Nat.le_of_ble_eq_true rfl⟩ ?_
  refine WQ_invVi (v := (3, a0)) (as := []) dJ0_length_8abf5_6 l_J0_335 mw_J0_coder_7d493 mi_J0_coder_7d493 ms_J0_coder_7d493 mo_J0_coder_7d493 (rcv_tx rfl) (Nat.le_of_ble_eq_true rfl) h rfl (fun r1 μ2 h => ?_)
  refine WP_ishr dJ0_length_8abf5_9 ?_
  exact WQ_ireturn dJ0_length_8abf5_10 rfl h

theorem s_J1_canEncode_9a6ad_0 {d : Nat} {sc : SC} {Q : Int → Mem → Prop} {μ : Mem} {a0 : Int}
    (h : (a0 < 0 → Q 0 μ) ∧ (0 ≤ a0 → (255 < a0 → Q 0 μ) ∧ (a0 ≤ 255 → Q 1 μ))) :
    WQ mJ1_canEncode_9a6ad d sc (ZI sc Q) 0 [(0, a0)] [] μ := by
  refine WP_iload_n dJ1_canEncode_9a6ad_0 rfl rfl ?_
  refine WQ_iflt (tgt := 15) dJ1_canEncode_9a6ad_1 (by decide) (fun c1 => ?_) (fun c1 => ?_)
  · replace h := h.1 c1
    refine WP_iconst dJ1_canEncode_9a6ad_15 (by decide) ?_
    exact WQ_zreturn dJ1_canEncode_9a6ad_16 rfl ⟨by decide, by decide⟩ h
  · replace h := h.2 c1
    refine WP_iload_n dJ1_canEncode_9a6ad_4 rfl rfl ?_
    refine WP_sipush dJ1_canEncode_9a6ad_5 (by decide +kernel) (by decide) ?_
    refine WQ_icmp_gt (tgt := 15) dJ1_canEncode_9a6ad_8 (by decide) (fun c2 => ?_) (fun c2 => ?_)
    · replace h := h.1 c2
      refine WP_iconst dJ1_canEncode_9a6ad_15 (by decide) ?_
      exact WQ_zreturn dJ1_canEncode_9a6ad_16 rfl ⟨by decide, by decide⟩ h
    · replace h := h.2 c2
      refine WP_iconst dJ1_canEncode_9a6ad_11 (by decide) ?_
      refine WP_goto (tgt := 16) dJ1_canEncode_9a6ad_12 (by decide) ?_
      exact WQ_zreturn dJ1_canEncode_9a6ad_16 rfl ⟨by decide, by decide⟩ h

theorem s_J1_charAt_3b067_0 {d : Nat} {sc : SC} {Q : Int → Mem → Prop} {μ : Mem} {a0 a1 : Int}
    (h : CAv mJ0_checkIndex_df160 d sc [(0, a1), (0, txLen a0)] μ (fun μ2 => (0 ≤ a1 ∧ a1 < txLen a0) ∧ (0 ≤ toC (iAnd (txAt a0 a1) 255) ∧ toC (iAnd (txAt a0 a1) 255) < 65536) ∧ Q (toC (iAnd (txAt a0 a1) 255)) μ2)) :
    WQ mJ1_charAt_3b067 d sc (ZI sc Q) 0 [(5, a0), (0, a1)] [] μ := by
  refine WP_iload_n dJ1_charAt_3b067_0 rfl rfl ?_
  refine WP_aload_n dJ1_charAt_3b067_1 rfl rfl ⟨Nat.le_of_ble_eq_true rfl, Nat.le_of_ble_eq_true rfl⟩ ?_
  refine WP_txlen dJ1_charAt_3b067_2 ?_
  refine WQ_invSv (as := [(0, a1), (0, txLen a0)]) dJ1_charAt_3b067_3 l_J1_9 mw_J0_checkIndex_df160 mt_J0_checkIndex_df160 mo_J0_checkIndex_df160 (Nat.le_of_ble_eq_true rfl) h rfl (fun μ2 h => ?_)
  refine WP_aload_n dJ1_charAt_3b067_6 rfl rfl ⟨Nat.le_of_ble_eq_true rfl, Nat.le_of_ble_eq_true rfl⟩ ?_
  refine WP_iload_n dJ1_charAt_3b067_7 rfl rfl ?_
  obtain ⟨g3, h⟩ := h
  refine WP_txat dJ1_charAt_3b067_8 g3 ?_
  refine WP_sipush dJ1_charAt_3b067_9 (by decide +kernel) (by decide) ?_
  refine WP_iand dJ1_charAt_3b067_12 ?_
  refine WP_i2c dJ1_charAt_3b067_13 ?_
  exact WQ_creturn dJ1_charAt_3b067_14 rfl h.1 h.2

theorem s_J1_indexOfChar_4cfef_0 {d : Nat} {sc : SC} {Q : Int → Mem → Prop} {μ : Mem} {a0 a1 a2 a3 : Int}
    (h : ∀ v1 : Int, v1 = toB a1 → WQ mJ1_indexOfChar_4cfef d sc (ZI sc Q) 7 [(5, a0), (9, 0), (9, 0), (0, a3), (0, v1), (0, a2)] [] μ) :
    WQ mJ1_indexOfChar_4cfef d sc (ZI sc Q) 0 [(5, a0), (0, a1), (0, a2), (0, a3), (9, 0), (9, 0)] [] μ := by
  refine WP_iload_n dJ1_indexOfChar_4cfef_0 rfl rfl ?_
  refine WP_i2b dJ1_indexOfChar_4cfef_1 ?_
  refine WQ_nm0 (fun v1 e1 => ?_)
  replace h := h v1 e1
  refine WP_istore (L' := [(5, a0), (0, a1), (0, a2), (0, a3), (0, v1), (9, 0)]) dJ1_indexOfChar_4cfef_2 (by decide) rfl ?_
  refine WP_iload_n dJ1_indexOfChar_4cfef_4 rfl rfl ?_
  refine WP_istore (L' := [(5, a0), (0, a1), (0, a2), (0, a3), (0, v1), (0, a2)]) dJ1_indexOfChar_4cfef_5 (by decide) rfl ?_
  refine WP_lforget (L' := [(5, a0), (9, 0), (9, 0), (0, a3), (0, v1), (0, a2)]) rfl (fun i hi => ?_) h
  match i, hi with
  | 0, _ => exact Or.inl rfl
  | 1, _ => exact Or.inr rfl
  | 2, _ => exact Or.inr rfl
  | 3, _ => exact Or.inl rfl
  | 4, _ => exact Or.inl rfl
  | 5, _ => exact Or.inl rfl
  | i + 6, hi => exact absurd hi (by simp only [List.length_cons, List.length_nil]; omega)

theorem s_J1_indexOfChar_4cfef_7 {d : Nat} {sc : SC} {Q : Int → Mem → Prop} {μ : Mem} {x0 x3 x4 x5 : Int}
    (h : (x3 ≤ x5 → Q (-1) μ) ∧ (x5 < x3 → (0 ≤ x5 ∧ x5 < txLen x0) ∧ (txAt x0 x5 ≠ x4 → (-2147483648 ≤ x5 + 1 ∧ x5 + 1 < 2147483648) ∧ ∀ v5 : Int, v5 = x5 + 1 → WQ mJ1_indexOfChar_4cfef d sc (ZI sc Q) 7 [(5, x0), (9, 0), (9, 0), (0, x3), (0, x4), (0, v5)] [] μ) ∧ (txAt x0 x5 = x4 → Q x5 μ))) :
    WQ mJ1_indexOfChar_4cfef d sc (ZI sc Q) 7 [(5, x0), (9, 0), (9, 0), (0, x3), (0, x4), (0, x5)] [] μ := by
  refine WP_iload dJ1_indexOfChar_4cfef_7 rfl ?_
  refine WP_iload_n dJ1_indexOfChar_4cfef_9 rfl rfl ?_
  refine WQ_icmp_ge (tgt := 31) dJ1_indexOfChar_4cfef_10 (by decide) (fun c1 => ?_) (fun c1 => ?_)
  · replace h := h.1 c1
    refine WP_iconst dJ1_indexOfChar_4cfef_31 (by decide) ?_
    exact WQ_ireturn dJ1_indexOfChar_4cfef_32 rfl h
  · replace h := h.2 c1
    refine WP_aload_n dJ1_indexOfChar_4cfef_13 rfl rfl ⟨Nat.le_of_ble_eq_true rfl, Nat.le_of_ble_eq_true rfl⟩ ?_
    refine WP_iload dJ1_indexOfChar_4cfef_14 rfl ?_
    obtain ⟨g2, h⟩ := h
    refine WP_txat dJ1_indexOfChar_4cfef_16 g2 ?_
    refine WP_iload dJ1_indexOfChar_4cfef_17 rfl ?_
    refine WQ_icmp_ne (tgt := 25) dJ1_indexOfChar_4cfef_19 (by decide) (fun c3 => ?_) (fun c3 => ?_)
    · replace h := h.1 c3
      obtain ⟨g4, h⟩ := h
      refine WQ_iinc dJ1_indexOfChar_4cfef_25 rfl (by decide) g4 (fun v5 e5 => ?_)
      refine WP_same (L' := [(5, x0), (9, 0), (9, 0), (0, x3), (0, x4), (0, v5)]) rfl ?_
      replace h := h v5 e5
      refine WP_goto (tgt := 7) dJ1_indexOfChar_4cfef_28 (by decide) ?_
      exact h
    · replace h := h.2 c3
      refine WP_iload dJ1_indexOfChar_4cfef_22 rfl ?_
      exact WQ_ireturn dJ1_indexOfChar_4cfef_24 rfl h

theorem s_J1_indexOf_4cfef_0 {d : Nat} {sc : SC} {Q : Int → Mem → Prop} {μ : Mem} {a0 a1 a2 a3 : Int} (hd2 : 2 ≤ d)
    (h : CAi mJ1_canEncode_9a6ad d sc [(0, a1)] μ (fun r1 μ2 => (r1 ≠ 0 → ∀ v4 : Int, v4 = max a2 0 → ∀ v5 : Int, v5 = min a3 (txLen a0) → (v4 < v5 → CAi mJ1_indexOfChar_4cfef d sc [(5, a0), (0, a1), (0, v4), (0, v5)] μ2 (fun r7 μ8 => Q r7 μ8)) ∧ (v5 ≤ v4 → Q (-1) μ2)) ∧ (r1 = 0 → Q (-1) μ2))) :
    WQ mJ1_indexOf_4cfef d sc (ZI sc Q) 0 [(5, a0), (0, a1), (0, a2), (0, a3)] [] μ := by
  refine WP_iload_n dJ1_indexOf_4cfef_0 rfl rfl ?_
  refine WQ_invSi (as := [(0, a1)]) dJ1_indexOf_4cfef_1 l_J1_88 mw_J1_canEncode_9a6ad mt_J1_canEncode_9a6ad mo_J1_canEncode_9a6ad (Nat.le_of_ble_eq_true rfl) h rfl (fun r1 μ2 h => ?_)
  refine WQ_ifne (tgt := 9) dJ1_indexOf_4cfef_4 (by decide) (fun c3 => ?_) (fun c3 => ?_)
  · replace h := h.1 c3
    refine WP_iload_n dJ1_indexOf_4cfef_9 rfl rfl ?_
    refine WP_iconst dJ1_indexOf_4cfef_10 (by decide) ?_
    refine WQ_mmax (by omega) dJ1_indexOf_4cfef_11 l_J1_92 (Nat.le_of_ble_eq_true rfl) ?_
    refine WQ_nm0 (fun v4 e4 => ?_)
    replace h := h v4 e4
    refine WP_istore_n (L' := [(5, a0), (0, a1), (0, v4), (0, a3)]) dJ1_indexOf_4cfef_14 rfl (by decide) rfl ?_
    refine WP_iload_n dJ1_indexOf_4cfef_15 rfl rfl ?_
    refine WP_aload_n dJ1_indexOf_4cfef_16 rfl rfl ⟨Nat.le_of_ble_eq_true rfl, Nat.le_of_ble_eq_true rfl⟩ ?_
    refine WP_txlen dJ1_indexOf_4cfef_17 ?_
    refine WQ_mmin (by omega) dJ1_indexOf_4cfef_18 l_J1_38 (Nat.le_of_ble_eq_true rfl) ?_
    refine WQ_nm0 (fun v5 e5 => ?_)
    replace h := h v5 e5
    refine WP_istore_n (L' := [(5, a0), (0, a1), (0, v4), (0, v5)]) dJ1_indexOf_4cfef_21 rfl (by decide) rfl ?_
    refine WP_iload_n dJ1_indexOf_4cfef_22 rfl rfl ?_
    refine WP_iload_n dJ1_indexOf_4cfef_23 rfl rfl ?_
    refine WQ_icmp_lt (tgt := 29) dJ1_indexOf_4cfef_24 (by decide) (fun c6 => ?_) (fun c6 => ?_)
    · replace h := h.1 c6
      refine WP_aload_n dJ1_indexOf_4cfef_29 rfl rfl ⟨Nat.le_of_ble_eq_true rfl, Nat.le_of_ble_eq_true rfl⟩ ?_
      refine WP_iload_n dJ1_indexOf_4cfef_30 rfl rfl ?_
      refine WP_iload_n dJ1_indexOf_4cfef_31 rfl rfl ?_
      refine WP_iload_n dJ1_indexOf_4cfef_32 rfl rfl ?_
      refine WQ_invSi (as := [(5, a0), (0, a1), (0, v4), (0, v5)]) dJ1_indexOf_4cfef_33 l_J1_95 mw_J1_indexOfChar_4cfef mt_J1_indexOfChar_4cfef mo_J1_indexOfChar_4cfef (Nat.le_of_ble_eq_true rfl) h rfl (fun r7 μ8 h => ?_)
      exact WQ_ireturn dJ1_indexOf_4cfef_36 rfl h
    · replace h := h.2 c6
      refine WP_iconst dJ1_indexOf_4cfef_27 (by decide) ?_
      exact WQ_ireturn dJ1_indexOf_4cfef_28 rfl h
  · replace h := h.2 c3
    refine WP_iconst dJ1_indexOf_4cfef_7 (by decide) ?_
    exact WQ_ireturn dJ1_indexOf_4cfef_8 rfl h

theorem s_J3_checkIndex_8e157_0 {d : Nat} {sc : SC} {Q : Int → Mem → Prop} {μ : Mem} {a0 a1 : Int}
    (h : (a0 < 0 → False) ∧ (0 ≤ a0 → (a0 < a1 → Q a0 μ) ∧ (a1 ≤ a0 → False))) :
    WQ mJ3_checkIndex_8e157 d sc (ZI sc Q) 0 [(0, a0), (0, a1), (6, 0)] [] μ := by
  refine WP_iload_n dJ3_checkIndex_8e157_0 rfl rfl ?_
  refine WQ_iflt (tgt := 9) dJ3_checkIndex_8e157_1 (by decide) (fun c1 => ?_) (fun c1 => ?_)
  · replace h := h.1 c1
    refine WP_aload_n dJ3_checkIndex_8e157_9 rfl rfl ⟨Nat.le_of_ble_eq_true rfl, Nat.le_of_ble_eq_true rfl⟩ ?_
    refine WP_iload_n dJ3_checkIndex_8e157_10 rfl rfl ?_
    refine WP_iload_n dJ3_checkIndex_8e157_11 rfl rfl ?_
    exact h.elim
  · replace h := h.2 c1
    refine WP_iload_n dJ3_checkIndex_8e157_4 rfl rfl ?_
    refine WP_iload_n dJ3_checkIndex_8e157_5 rfl rfl ?_
    refine WQ_icmp_lt (tgt := 16) dJ3_checkIndex_8e157_6 (by decide) (fun c2 => ?_) (fun c2 => ?_)
    · replace h := h.1 c2
      refine WP_iload_n dJ3_checkIndex_8e157_16 rfl rfl ?_
      exact WQ_ireturn dJ3_checkIndex_8e157_17 rfl h
    · replace h := h.2 c2
      refine WP_aload_n dJ3_checkIndex_8e157_9 rfl rfl ⟨Nat.le_of_ble_eq_true rfl, Nat.le_of_ble_eq_true rfl⟩ ?_
      refine WP_iload_n dJ3_checkIndex_8e157_10 rfl rfl ?_
      refine WP_iload_n dJ3_checkIndex_8e157_11 rfl rfl ?_
      exact h.elim

theorem s_J7_fill_53178_0 {d : Nat} {sc : SC} {Q : Mem → Prop} {μ : Mem} {a0 a1 : Int} {n0 : Nat} (ha0 : kd0 a0 = some (0, n0))
    (h : n0 < 2147483648 ∧ WQ mJ7_fill_53178 d sc (ZV sc Q) 5 [(2, a0), (0, a1), (0, 0), (0, (n0 : Int))] [] μ) :
    WQ mJ7_fill_53178 d sc (ZV sc Q) 0 [(2, a0), (0, a1), (9, 0), (9, 0)] [] μ := by
  refine WP_iconst dJ7_fill_53178_0 (by decide) ?_
  refine WP_istore_n (L' := [(2, a0), (0, a1), (0, 0), (9, 0)]) dJ7_fill_53178_1 rfl (by decide) rfl ?_
  refine WP_aload_n dJ7_fill_53178_2 rfl rfl ⟨Nat.le_of_ble_eq_true rfl, Nat.le_of_ble_eq_true rfl⟩ ?_
  obtain ⟨g1, h⟩ := h
  refine WP_arraylength (n := n0) dJ7_fill_53178_3 ha0 (by decide) g1 ?_
  refine WP_istore_n (L' := [(2, a0), (0, a1), (0, 0), (0, (n0 : Int))]) dJ7_fill_53178_4 rfl (by decide) rfl ?_
  exact h

theorem s_J7_fill_53178_5 {d : Nat} {sc : SC} {Q : Mem → Prop} {μ : Mem} {x0 x1 x2 x3 : Int} {n0 : Nat} (hx0 : kd0 x0 = some (0, n0))
    (h : (x3 ≤ x2 → Q μ) ∧ (x2 < x3 → (0 ≤ x2 ∧ x2 < (n0 : Int)) ∧ (∀ μ3, μ3 = mup μ x0 x2 x1 → (-2147483648 ≤ x2 + 1 ∧ x2 + 1 < 2147483648) ∧ ∀ v5 : Int, v5 = x2 + 1 → WQ mJ7_fill_53178 d sc (ZV sc Q) 5 [(2, x0), (0, x1), (0, v5), (0, x3)] [] μ3))) :
    WQ mJ7_fill_53178 d sc (ZV sc Q) 5 [(2, x0), (0, x1), (0, x2), (0, x3)] [] μ := by
  refine WP_iload_n dJ7_fill_53178_5 rfl rfl ?_
  refine WP_iload_n dJ7_fill_53178_6 rfl rfl ?_
  refine WQ_icmp_ge (tgt := 20) dJ7_fill_53178_7 (by decide) (fun c1 => ?_) (fun c1 => ?_)
  · replace h := h.1 c1
    exact WQ_return dJ7_fill_53178_20 rfl h
  · replace h := h.2 c1
    refine WP_aload_n dJ7_fill_53178_10 rfl rfl ⟨Nat.le_of_ble_eq_true rfl, Nat.le_of_ble_eq_true rfl⟩ ?_
    refine WP_iload_n dJ7_fill_53178_11 rfl rfl ?_
    refine WP_iload_n dJ7_fill_53178_12 rfl rfl ?_
    obtain ⟨g2, h⟩ := h
    refine WQ_iast (n := n0) dJ7_fill_53178_13 hx0 g2 (fun μ3 eμ3 => ?_)
    replace h := h μ3 eμ3
    obtain ⟨g4, h⟩ := h
    refine WQ_iinc dJ7_fill_53178_14 rfl (by decide) g4 (fun v5 e5 => ?_)
    refine WP_same (L' := [(2, x0), (0, x1), (0, v5), (0, x3)]) rfl ?_
    replace h := h v5 e5
    refine WP_goto (tgt := 5) dJ7_fill_53178_17 (by decide) ?_
    exact h

theorem s_J7_fill_d0a16_0 {d : Nat} {sc : SC} {Q : Mem → Prop} {μ : Mem} {a0 a1 : Int} {n0 : Nat} (ha0 : kd0 a0 = some (1, n0))
    (h : n0 < 2147483648 ∧ WQ mJ7_fill_d0a16 d sc (ZV sc Q) 6 [(2, a0), (1, a1), (9, 0), (0, 0), (0, (n0 : Int))] [] μ) :
    WQ mJ7_fill_d0a16 d sc (ZV sc Q) 0 [(2, a0), (1, a1), (9, 0), (9, 0), (9, 0)] [] μ := by
  refine WP_iconst dJ7_fill_d0a16_0 (by decide) ?_
  refine WP_istore_n (L' := [(2, a0), (1, a1), (9, 0), (0, 0), (9, 0)]) dJ7_fill_d0a16_1 rfl (by decide) rfl ?_
  refine WP_aload_n dJ7_fill_d0a16_2 rfl rfl ⟨Nat.le_of_ble_eq_true rfl, Nat.le_of_ble_eq_true rfl⟩ ?_
  obtain ⟨g1, h⟩ := h
  refine WP_arraylength (n := n0) dJ7_fill_d0a16_3 ha0 (by decide) g1 ?_
  refine WP_istore (L' := [(2, a0), (1, a1), (9, 0), (0, 0), (0, (n0 : Int))]) dJ7_fill_d0a16_4 (by decide) rfl ?_
  exact h

theorem s_J7_fill_d0a16_6 {d : Nat} {sc : SC} {Q : Mem → Prop} {μ : Mem} {x0 x1 x3 x4 : Int} {n0 : Nat} (hx0 : kd0 x0 = some (1, n0))
    (h : (x4 ≤ x3 → Q μ) ∧ (x3 < x4 → (0 ≤ x3 ∧ x3 < (n0 : Int)) ∧ (∀ μ3, μ3 = mup μ x0 x3 x1 → (-2147483648 ≤ x3 + 1 ∧ x3 + 1 < 2147483648) ∧ ∀ v5 : Int, v5 = x3 + 1 → WQ mJ7_fill_d0a16 d sc (ZV sc Q) 6 [(2, x0), (1, x1), (9, 0), (0, v5), (0, x4)] [] μ3))) :
    WQ mJ7_fill_d0a16 d sc (ZV sc Q) 6 [(2, x0), (1, x1), (9, 0), (0, x3), (0, x4)] [] μ := by
  refine WP_iload_n dJ7_fill_d0a16_6 rfl rfl ?_
  refine WP_iload dJ7_fill_d0a16_7 rfl ?_
  refine WQ_icmp_ge (tgt := 22) dJ7_fill_d0a16_9 (by decide) (fun c1 => ?_) (fun c1 => ?_)
  · replace h := h.1 c1
    exact WQ_return dJ7_fill_d0a16_22 rfl h
  · replace h := h.2 c1
    refine WP_aload_n dJ7_fill_d0a16_12 rfl rfl ⟨Nat.le_of_ble_eq_true rfl, Nat.le_of_ble_eq_true rfl⟩ ?_
    refine WP_iload_n dJ7_fill_d0a16_13 rfl rfl ?_
    refine WP_lload_n dJ7_fill_d0a16_14 rfl rfl ?_
    obtain ⟨g2, h⟩ := h
    refine WQ_last (n := n0) dJ7_fill_d0a16_15 hx0 g2 (fun μ3 eμ3 => ?_)
    replace h := h μ3 eμ3
    obtain ⟨g4, h⟩ := h
    refine WQ_iinc dJ7_fill_d0a16_16 rfl (by decide) g4 (fun v5 e5 => ?_)
    refine WP_same (L' := [(2, x0), (1, x1), (9, 0), (0, v5), (0, x4)]) rfl ?_
    replace h := h v5 e5
    refine WP_goto (tgt := 6) dJ7_fill_d0a16_19 (by decide) ?_
    exact h

def oX9_0 : List (Nat × Nat) := [(4, 900), (31, 11), (0, 6), (0, 6), (0, 6), (0, 900), (0, 3), (0, 3), (36, 7), (0, 10), (0, 10), (0, 10), (0, 10), (0, 6), (31, 11), (0, 6), (0, 6), (0, 6), (0, 900), (0, 3), (0, 3), (36, 7), (0, 10), (0, 10), (0, 10), (0, 10), (0, 6), (37, 11), (0, 901), (0, 901), (0, 901), (11, 2), (5, 2)]
def cX9_0 (μ : Mem) : Mem :=
  let μ1 : Mem := fun c j => if c = 1 then 0 else μ c j
  let μ2 : Mem := mup μ1 (0) 0 (1)
  let μ3 : Mem := fun c j => if c = 2 then (if 0 ≤ j then dfl 1 j.toNat else 0) else μ2 c j
  let μ4 : Mem := cX1 (2) (3) μ3
  let μ5 : Mem := mup μ4 (0) 2 (2)
  let μ6 : Mem := fun c j => if c = 15 then (if 0 ≤ j then dfl 1 j.toNat else 0) else μ5 c j
  let μ7 : Mem := cX1 (15) (16) μ6
  let μ8 : Mem := mup μ7 (0) 3 (15)
  let μ9 : Mem := fun c j => if c = 28 then (if 0 ≤ j then dfl 7 j.toNat else 0) else μ8 c j
  let μ10 : Mem := cX7 (28) (29) μ9
  let μ11 : Mem := mup μ10 (0) 4 (28)
  let μ12 : Mem := fun c j => if c = 32 then (-1) else μ11 c j
  let μ13 : Mem := mup μ12 (0) 5 (32)
  let μ14 : Mem := fun c j => if c = 33 then 0 else μ13 c j
  μ14
theorem cX9_0_fr {μ : Mem} {c j : Int} (h1 : c ≠ 0) (h2 : c < 1) : cX9_0 μ c j = μ c j := by
  simp only [cX9_0, mup_ap]
  repeat (first | rw [if_neg (by omega)] | rw [cX1_fr (by omega) (by omega) (by omega)] | rw [cX7_fr (by omega) (by omega) (by omega)])
theorem kq_X9_0 {d : Nat} {sc : SC} {Z : ZT} {K : List (Nat × Nat)} {μ : Mem} (hd : 3 ≤ d) (hb : (1 : Int) = (K.length : Int)) (h0 : kd (TN K sc) 0 = some (39, 20)) (k : ∀ μ' : Mem, μ' = cX9_0 μ → (34 : Int) = (((K ++ oX9_0) : List (Nat × Nat)).length : Int) → kd (TN (K ++ oX9_0) sc) 0 = some (39, 20) → kd (TN (K ++ oX9_0) sc) 33 = some (5, 2) → kd (TN (K ++ oX9_0) sc) 32 = some (11, 2) → μ' 0 5 = 32 → WP mX9_init (RM d 182 13917) Z (TN (K ++ oX9_0) sc) 33 5594 58 [(2, 0), (9, 0)] [(2, 33), (2, 0)] μ') : WP mX9_init (RM d 182 13917) Z (TN K sc) 0 0 0 [(2, 0), (9, 0)] [] μ := by
  refine WP_aload_n dX9_init_0 rfl rfl ⟨Nat.le_of_ble_eq_true rfl, Nat.le_of_ble_eq_true rfl⟩ ?_
  refine WP_objInit dX9_init_1 ⟨rfl, by decide⟩ l_X9_1 oi_inst oi_code ⟨by show 1 ≤ d; omega, by show 20 ≤ 64 * d; omega⟩ (Nat.le_of_ble_eq_true rfl) ?_
  refine WP_aload_n dX9_init_4 rfl rfl ⟨Nat.le_of_ble_eq_true rfl, Nat.le_of_ble_eq_true rfl⟩ ?_
  refine WP_sipush dX9_init_5 (by decide +kernel) (by decide) ?_
  refine WN_newarray (e := 4) (n := 900) (b := 1) hb dX9_init_8 rfl (by decide) ac_4 (by decide) (Nat.le_of_ble_eq_true rfl) (Nat.le_of_ble_eq_true rfl) (fun k1 μ1 e1 => ?_)
  refine WN_put (n := 20) dX9_init_10 f_X9_9 (kd_app h0) (fun r hr => by cases hr; first | exact Or.inl rfl | exact Or.inr ⟨rfl, rfl, rfl⟩) rfl rfl (fun h => absurd h (by decide)) (fun μ2 e2 => ?_)
  refine WP_aload_n dX9_init_13 rfl rfl ⟨Nat.le_of_ble_eq_true rfl, Nat.le_of_ble_eq_true rfl⟩ ?_
  refine WN_new (ci := 1) (n := 11) (b := 2) (by simp only [List.length_append, List.length_cons, List.length_nil]; omega) dX9_init_14 rfl rfl cl_X9_13 in_RX1 ini_RX1 (by decide) (Nat.le_of_ble_eq_true rfl) (Nat.le_of_ble_eq_true rfl) (fun k3 μ3 e3 => ?_)
  refine WP_dup dX9_init_17 (by simp) ?_
  refine WP_invIN (md := mX9_init) (d' := 2) (v := (2, 2)) (as := []) (mc := 12) (ms := 977) dX9_init_18 l_X9_15 mw_X1_init rfl rfl mi_X1_init mo_X1_init ⟨rfl, by show 0 ≤ 2; omega⟩ ⟨by show _ ≤ d; omega, by show _ ≤ 64 * d; omega⟩ (Nat.le_of_ble_eq_true rfl) ⟨Nat.le_of_ble_eq_true rfl, Nat.le_of_ble_eq_true rfl⟩ (kc_X1 (b := 3) (by decide) (by simp only [List.length_append, List.length_cons, List.length_nil]; omega) ⟨by omega, by omega⟩ k3) ?_
  rintro _ _ μ4 ⟨rfl, rfl, e4⟩
  refine WN_put (n := 20) dX9_init_21 f_X9_16 (kd_app (kd_app (kd_app h0))) (fun r hr => by cases hr; first | exact Or.inl rfl | exact Or.inr ⟨rfl, rfl, rfl⟩) rfl rfl (fun h => absurd h (by decide)) (fun μ5 e5 => ?_)
  refine WP_aload_n dX9_init_24 rfl rfl ⟨Nat.le_of_ble_eq_true rfl, Nat.le_of_ble_eq_true rfl⟩ ?_
  refine WN_new (ci := 1) (n := 11) (b := 15) (by simp only [List.length_append, List.length_cons, List.length_nil, oX1]; omega) dX9_init_25 rfl rfl cl_X9_13 in_RX1 ini_RX1 (by decide) (Nat.le_of_ble_eq_true rfl) (Nat.le_of_ble_eq_true rfl) (fun k6 μ6 e6 => ?_)
  refine WP_dup dX9_init_28 (by simp) ?_
  refine WP_invIN (md := mX9_init) (d' := 2) (v := (2, 15)) (as := []) (mc := 12) (ms := 977) dX9_init_29 l_X9_15 mw_X1_init rfl rfl mi_X1_init mo_X1_init ⟨rfl, by show 0 ≤ 15; omega⟩ ⟨by show _ ≤ d; omega, by show _ ≤ 64 * d; omega⟩ (Nat.le_of_ble_eq_true rfl) ⟨Nat.le_of_ble_eq_true rfl, Nat.le_of_ble_eq_true rfl⟩ (kc_X1 (b := 16) (by decide) (by simp only [List.length_append, List.length_cons, List.length_nil, oX1]; omega) ⟨by omega, by omega⟩ k6) ?_
  rintro _ _ μ7 ⟨rfl, rfl, e7⟩
  refine WN_put (n := 20) dX9_init_32 f_X9_20 (kd_app (kd_app (kd_app (kd_app (kd_app h0))))) (fun r hr => by cases hr; first | exact Or.inl rfl | exact Or.inr ⟨rfl, rfl, rfl⟩) rfl rfl (fun h => absurd h (by decide)) (fun μ8 e8 => ?_)
  refine WP_aload_n dX9_init_35 rfl rfl ⟨Nat.le_of_ble_eq_true rfl, Nat.le_of_ble_eq_true rfl⟩ ?_
  refine WN_new (ci := 7) (n := 11) (b := 28) (by simp only [List.length_append, List.length_cons, List.length_nil, oX1]; omega) dX9_init_36 rfl rfl cl_X9_23 in_RX7 ini_RX7 (by decide) (Nat.le_of_ble_eq_true rfl) (Nat.le_of_ble_eq_true rfl) (fun k9 μ9 e9 => ?_)
  refine WP_dup dX9_init_39 (by simp) ?_
  refine WP_invIN (md := mX9_init) (d' := 1) (v := (2, 28)) (as := []) (mc := 3) (ms := 2703) dX9_init_40 l_X9_25 mw_X7_init rfl rfl mi_X7_init mo_X7_init ⟨rfl, by show 0 ≤ 28; omega⟩ ⟨by show _ ≤ d; omega, by show _ ≤ 64 * d; omega⟩ (Nat.le_of_ble_eq_true rfl) ⟨Nat.le_of_ble_eq_true rfl, Nat.le_of_ble_eq_true rfl⟩ (kc_X7 (b := 29) (by decide) (by simp only [List.length_append, List.length_cons, List.length_nil, oX1]; omega) ⟨by omega, by omega⟩ k9) ?_
  rintro _ _ μ10 ⟨rfl, rfl, e10⟩
  refine WN_put (n := 20) dX9_init_43 f_X9_26 (kd_app (kd_app (kd_app (kd_app (kd_app (kd_app (kd_app h0))))))) (fun r hr => by cases hr; first | exact Or.inl rfl | exact Or.inr ⟨rfl, rfl, rfl⟩) rfl rfl (fun h => absurd h (by decide)) (fun μ11 e11 => ?_)
  refine WP_aload_n dX9_init_46 rfl rfl ⟨Nat.le_of_ble_eq_true rfl, Nat.le_of_ble_eq_true rfl⟩ ?_
  refine WP_iconst dX9_init_47 (by decide) ?_
  refine WN_anewarray (ci := 1) (n := 2) (b := 32) (by simp only [List.length_append, List.length_cons, List.length_nil, oX1, oX7]; omega) dX9_init_48 (by decide) rfl cl_X9_13 ov_RX1 (by decide) (Nat.le_of_ble_eq_true rfl) (Nat.le_of_ble_eq_true rfl) (fun k12 μ12 e12 => ?_)
  refine WN_put (n := 20) dX9_init_51 f_X9_30 (kd_app (kd_app (kd_app (kd_app (kd_app (kd_app (kd_app (kd_app h0)))))))) (fun r hr => by cases hr; first | exact Or.inl rfl | exact Or.inr ⟨rfl, rfl, rfl⟩) rfl rfl (fun h => absurd h (by decide)) (fun μ13 e13 => ?_)
  have hv0_5_13 : μ13 0 5 = 32 := by rw [e13]; exact mup_at _ _ _ _
  refine WP_aload_n dX9_init_54 rfl rfl ⟨Nat.le_of_ble_eq_true rfl, Nat.le_of_ble_eq_true rfl⟩ ?_
  refine WP_iconst dX9_init_55 (by decide) ?_
  refine WN_newarray (e := 5) (n := 2) (b := 33) (by simp only [List.length_append, List.length_cons, List.length_nil, oX1, oX7]; omega) dX9_init_56 rfl (by decide) ac_5 (by decide) (Nat.le_of_ble_eq_true rfl) (Nat.le_of_ble_eq_true rfl) (fun k14 μ14 e14 => ?_)
  have hv0_5_14 : μ14 0 5 = 32 := by rw [e14]; show (if (0 : Int) = 33 then _ else _) = _; rw [if_neg (by decide)]; exact hv0_5_13
  have hK : (((((((((K ++ [(4, 900)]) ++ [(31, 11)]) ++ oX1) ++ [(31, 11)]) ++ oX1) ++ [(37, 11)]) ++ oX7) ++ [(11, 2)]) ++ [(5, 2)]) = K ++ oX9_0 := by simp only [oX9_0, oX1, oX7, List.append_assoc, List.cons_append, List.nil_append, List.append_nil]
  show WP mX9_init (RM d 182 13917) Z (TN (((((((((K ++ [(4, 900)]) ++ [(31, 11)]) ++ oX1) ++ [(31, 11)]) ++ oX1) ++ [(37, 11)]) ++ oX7) ++ [(11, 2)]) ++ [(5, 2)]) sc) 33 5594 58 [(2, 0), (9, 0)] [(2, 33), (2, 0)] μ14
  rw [hK]
  exact k μ14 (by rw [e14, e13, e12, e11, e10, e9, e8, e7, e6, e5, e4, e3, e2, e1]; first | done | rfl) (by rw [← hK]; exact (by simp only [List.length_append, List.length_cons, List.length_nil, oX1, oX7]; omega)) (by rw [← hK]; exact (kd_app (kd_app (kd_app (kd_app (kd_app (kd_app (kd_app (kd_app (kd_app h0)))))))))) (by rw [← hK]; exact k14) (by rw [← hK]; exact (kd_app k12)) hv0_5_14

def oX9_1 : List (Nat × Nat) := [(35, 2), (16, 10), (36, 7), (0, 10), (0, 10), (0, 10), (0, 10), (0, 6), (36, 7), (0, 10), (0, 10), (0, 10), (0, 10), (0, 6), (36, 7), (0, 10), (0, 10), (0, 10), (0, 10), (0, 6), (36, 7), (0, 10), (0, 10), (0, 10), (0, 10), (0, 6), (36, 7), (0, 10), (0, 10), (0, 10), (0, 10), (0, 6), (36, 7), (0, 10), (0, 10), (0, 10), (0, 10), (0, 6), (36, 7), (0, 10), (0, 10), (0, 10), (0, 10), (0, 6), (36, 7), (0, 10), (0, 10), (0, 10), (0, 10), (0, 6), (36, 7), (0, 10), (0, 10), (0, 10), (0, 10), (0, 6), (36, 7), (0, 10), (0, 10), (0, 10), (0, 10), (0, 6), (18, 4), (33, 9), (0, 36), (0, 36), (0, 36), (0, 9), (0, 64), (1, 72), (1, 72), (30, 16)]
def cX9_1 (μ : Mem) : Mem :=
  let μ1 : Mem := mup μ (0) 6 (33)
  let μ2 : Mem := fun c j => if c = 34 then (if 0 ≤ j then dfl 5 j.toNat else 0) else μ1 c j
  let μ3 : Mem := cX5 μ2
  let μ4 : Mem := mup μ3 (0) 7 (34)
  let μ5 : Mem := fun c j => if c = 96 then (-1) else μ4 c j
  let μ6 : Mem := mup μ5 (0) 8 (96)
  let μ7 : Mem := fun c j => if c = 97 then (if 0 ≤ j then dfl 3 j.toNat else 0) else μ6 c j
  let μ8 : Mem := cX3 (97) (98) μ7
  let μ9 : Mem := mup μ8 (0) 10 (97)
  let μ10 : Mem := fun c j => if c = 105 then (if 0 ≤ j then dfl 0 j.toNat else 0) else μ9 c j
  μ10
theorem cX9_1_fr {μ : Mem} {c j : Int} (h1 : c ≠ 0) (h2 : c < 1) : cX9_1 μ c j = μ c j := by
  simp only [cX9_1, mup_ap]
  repeat (first | rw [if_neg (by omega)] | rw [cX5_fr (by omega) (by omega)] | rw [cX3_fr (by omega) (by omega) (by omega)])
theorem kq_X9_1 {d : Nat} {sc : SC} {Z : ZT} {K : List (Nat × Nat)} {μ : Mem} (hd : 3 ≤ d) (hb : (34 : Int) = (K.length : Int)) (h0 : kd (TN K sc) 0 = some (39, 20)) (h33 : kd (TN K sc) 33 = some (5, 2)) (h32 : kd (TN K sc) 32 = some (11, 2)) (hv0_5_0 : μ 0 5 = 32) (k : ∀ μ' : Mem, μ' = cX9_1 μ → (106 : Int) = (((K ++ oX9_1) : List (Nat × Nat)).length : Int) → kd (TN (K ++ oX9_1) sc) 0 = some (39, 20) → kd (TN (K ++ oX9_1) sc) 105 = some (30, 16) → kd (TN (K ++ oX9_1) sc) 32 = some (11, 2) → kd (TN (K ++ oX9_1) sc) 96 = some (18, 4) → μ' 0 5 = 32 → μ' 0 8 = 96 → WP mX9_init (RM d 182 13917) Z (TN (K ++ oX9_1) sc) 105 6490 95 [(2, 0), (9, 0)] [(2, 105), (2, 0)] μ') : WP mX9_init (RM d 182 13917) Z (TN K sc) 33 5594 58 [(2, 0), (9, 0)] [(2, 33), (2, 0)] μ := by
  refine WN_put (n := 20) dX9_init_58 f_X9_34 h0 (fun r hr => by cases hr; first | exact Or.inl rfl | exact Or.inr ⟨rfl, rfl, rfl⟩) rfl rfl (fun h => absurd h (by decide)) (fun μ1 e1 => ?_)
  have hv0_5_1 : μ1 0 5 = 32 := by rw [e1, mup_ap, if_neg (by decide)]; exact hv0_5_0
  refine WP_aload_n dX9_init_61 rfl rfl ⟨Nat.le_of_ble_eq_true rfl, Nat.le_of_ble_eq_true rfl⟩ ?_
  refine WN_new (ci := 5) (n := 2) (b := 34) hb dX9_init_62 rfl rfl cl_X9_38 in_RX5 ini_RX5 (by decide) (Nat.le_of_ble_eq_true rfl) (Nat.le_of_ble_eq_true rfl) (fun k2 μ2 e2 => ?_)
  have hv0_5_2 : μ2 0 5 = 32 := by rw [e2]; show (if (0 : Int) = 34 then _ else _) = _; rw [if_neg (by decide)]; exact hv0_5_1
  refine WP_dup dX9_init_65 (by simp) ?_
  refine WP_invI (md := mX9_init) (d' := 2) (v := (2, 34)) (as := []) (mc := 61) (ms := 540) dX9_init_66 l_X9_40 mw_X5_init rfl rfl mi_X5_init mo_X5_init ⟨rfl, by show 0 ≤ 34; omega⟩ ⟨by show _ ≤ d; omega, by show _ ≤ 64 * d; omega⟩ (Nat.le_of_ble_eq_true rfl) ⟨Nat.le_of_ble_eq_true rfl, Nat.le_of_ble_eq_true rfl⟩ (kc_X5 (by decide) (by simp only [List.length_append, List.length_cons, List.length_nil]; omega) k2) ?_
  rintro _ _ μ3 ⟨rfl, rfl, e3⟩
  have hv0_5_3 : μ3 0 5 = 32 := by rw [e3]; exact (cX5_fr (by decide) (by decide)).trans hv0_5_2
  refine WN_put (n := 20) dX9_init_69 f_X9_41 (kd_app (kd_app h0)) (fun r hr => by cases hr; first | exact Or.inl rfl | exact Or.inr ⟨rfl, rfl, rfl⟩) rfl rfl (fun h => absurd h (by decide)) (fun μ4 e4 => ?_)
  have hv0_5_4 : μ4 0 5 = 32 := by rw [e4, mup_ap, if_neg (by decide)]; exact hv0_5_3
  refine WP_aload_n dX9_init_72 rfl rfl ⟨Nat.le_of_ble_eq_true rfl, Nat.le_of_ble_eq_true rfl⟩ ?_
  refine WP_iconst dX9_init_73 (by decide) ?_
  refine WN_anewarray (ci := 8) (n := 4) (b := 96) (by simp only [List.length_append, List.length_cons, List.length_nil, oX5]; omega) dX9_init_74 (by decide) rfl cl_X9_45 ov_RX8 (by decide) (Nat.le_of_ble_eq_true rfl) (Nat.le_of_ble_eq_true rfl) (fun k5 μ5 e5 => ?_)
  have hv0_5_5 : μ5 0 5 = 32 := by rw [e5]; show (if (0 : Int) = 96 then _ else _) = _; rw [if_neg (by decide)]; exact hv0_5_4
  refine WN_put (n := 20) dX9_init_77 f_X9_47 (kd_app (kd_app (kd_app h0))) (fun r hr => by cases hr; first | exact Or.inl rfl | exact Or.inr ⟨rfl, rfl, rfl⟩) rfl rfl (fun h => absurd h (by decide)) (fun μ6 e6 => ?_)
  have hv0_5_6 : μ6 0 5 = 32 := by rw [e6, mup_ap, if_neg (by decide)]; exact hv0_5_5
  have hv0_8_6 : μ6 0 8 = 96 := by rw [e6]; exact mup_at _ _ _ _
  refine WP_aload_n dX9_init_80 rfl rfl ⟨Nat.le_of_ble_eq_true rfl, Nat.le_of_ble_eq_true rfl⟩ ?_
  refine WN_new (ci := 3) (n := 9) (b := 97) (by simp only [List.length_append, List.length_cons, List.length_nil, oX5]; omega) dX9_init_81 rfl rfl cl_X9_51 in_RX3 ini_RX3 (by decide) (Nat.le_of_ble_eq_true rfl) (Nat.le_of_ble_eq_true rfl) (fun k7 μ7 e7 => ?_)
  have hv0_5_7 : μ7 0 5 = 32 := by rw [e7]; show (if (0 : Int) = 97 then _ else _) = _; rw [if_neg (by decide)]; exact hv0_5_6
  have hv0_8_7 : μ7 0 8 = 96 := by rw [e7]; show (if (0 : Int) = 97 then _ else _) = _; rw [if_neg (by decide)]; exact hv0_8_6
  refine WP_dup dX9_init_84 (by simp) ?_
  refine WP_invIN (md := mX9_init) (d' := 1) (v := (2, 97)) (as := []) (mc := 7) (ms := 325) dX9_init_85 l_X9_53 mw_X3_init rfl rfl mi_X3_init mo_X3_init ⟨rfl, by show 0 ≤ 97; omega⟩ ⟨by show _ ≤ d; omega, by show _ ≤ 64 * d; omega⟩ (Nat.le_of_ble_eq_true rfl) ⟨Nat.le_of_ble_eq_true rfl, Nat.le_of_ble_eq_true rfl⟩ (kc_X3 (b := 98) (by decide) (by simp only [List.length_append, List.length_cons, List.length_nil, oX5]; omega) ⟨by omega, by omega⟩ k7) ?_
  rintro _ _ μ8 ⟨rfl, rfl, e8⟩
  have hv0_5_8 : μ8 0 5 = 32 := by rw [e8]; exact (cX3_fr (by decide) (by decide) (by decide)).trans hv0_5_7
  have hv0_8_8 : μ8 0 8 = 96 := by rw [e8]; exact (cX3_fr (by decide) (by decide) (by decide)).trans hv0_8_7
  refine WN_put (n := 20) dX9_init_88 f_X9_54 (kd_app (kd_app (kd_app (kd_app (kd_app h0))))) (fun r hr => by cases hr; first | exact Or.inl rfl | exact Or.inr ⟨rfl, rfl, rfl⟩) rfl rfl (fun h => absurd h (by decide)) (fun μ9 e9 => ?_)
  have hv0_5_9 : μ9 0 5 = 32 := by rw [e9, mup_ap, if_neg (by decide)]; exact hv0_5_8
  have hv0_8_9 : μ9 0 8 = 96 := by rw [e9, mup_ap, if_neg (by decide)]; exact hv0_8_8
  refine WP_aload_n dX9_init_91 rfl rfl ⟨Nat.le_of_ble_eq_true rfl, Nat.le_of_ble_eq_true rfl⟩ ?_
  refine WN_new (ci := 0) (n := 16) (b := 105) (by simp only [List.length_append, List.length_cons, List.length_nil, oX5, oX3]; omega) dX9_init_92 rfl rfl cl_X9_58 in_RX0 ini_RX0 (by decide) (Nat.le_of_ble_eq_true rfl) (Nat.le_of_ble_eq_true rfl) (fun k10 μ10 e10 => ?_)
  have hv0_5_10 : μ10 0 5 = 32 := by rw [e10]; show (if (0 : Int) = 105 then _ else _) = _; rw [if_neg (by decide)]; exact hv0_5_9
  have hv0_8_10 : μ10 0 8 = 96 := by rw [e10]; show (if (0 : Int) = 105 then _ else _) = _; rw [if_neg (by decide)]; exact hv0_8_9
  have hK : ((((((K ++ [(35, 2)]) ++ oX5) ++ [(18, 4)]) ++ [(33, 9)]) ++ oX3) ++ [(30, 16)]) = K ++ oX9_1 := by simp only [oX9_1, oX5, oX3, List.append_assoc, List.cons_append, List.nil_append, List.append_nil]
  show WP mX9_init (RM d 182 13917) Z (TN ((((((K ++ [(35, 2)]) ++ oX5) ++ [(18, 4)]) ++ [(33, 9)]) ++ oX3) ++ [(30, 16)]) sc) 105 6490 95 [(2, 0), (9, 0)] [(2, 105), (2, 0)] μ10
  rw [hK]
  exact k μ10 (by rw [e10, e9, e8, e7, e6, e5, e4, e3, e2, e1]; first | done | rfl) (by rw [← hK]; exact (by simp only [List.length_append, List.length_cons, List.length_nil, oX5, oX3]; omega)) (by rw [← hK]; exact (kd_app (kd_app (kd_app (kd_app (kd_app (kd_app h0))))))) (by rw [← hK]; exact k10) (by rw [← hK]; exact (kd_app (kd_app (kd_app (kd_app (kd_app (kd_app h32))))))) (by rw [← hK]; exact (kd_app (kd_app (kd_app k5)))) hv0_5_10 hv0_8_10

def oX9_2 : List (Nat × Nat) := [(0, 512), (0, 512), (0, 6), (0, 6), (0, 10), (0, 100), (0, 10), (0, 100), (0, 100), (0, 512), (0, 512), (34, 4), (1, 6), (1, 6), (32, 11)]
def cX9_2 (μ : Mem) : Mem :=
  let μ1 : Mem := cX0 (105) (106) μ
  let μ2 : Mem := mup μ1 (0) 11 (105)
  let μ3 : Mem := fun c j => if c = 117 then (if 0 ≤ j then dfl 4 j.toNat else 0) else μ2 c j
  let μ4 : Mem := cX4 (117) (118) μ3
  let μ5 : Mem := mup μ4 (0) 12 (117)
  let μ6 : Mem := fun c j => if c = 120 then (if 0 ≤ j then dfl 2 j.toNat else 0) else μ5 c j
  let μ7 : Mem := cX2 (120) (121) μ6
  let μ8 : Mem := mup μ7 (0) 13 (120)
  μ8
theorem cX9_2_fr {μ : Mem} {c j : Int} (h1 : c ≠ 0) (h2 : c < 1) : cX9_2 μ c j = μ c j := by
  simp only [cX9_2, mup_ap]
  repeat (first | rw [if_neg (by omega)] | rw [cX0_fr (by omega) (by omega) (by omega)] | rw [cX4_fr (by omega) (by omega) (by omega)] | rw [cX2_fr (by omega) (by omega) (by omega)])
theorem kq_X9_2 {d : Nat} {sc : SC} {Z : ZT} {K : List (Nat × Nat)} {μ : Mem} (hd : 3 ≤ d) (hb : (106 : Int) = (K.length : Int)) (h0 : kd (TN K sc) 0 = some (39, 20)) (h105 : kd (TN K sc) 105 = some (30, 16)) (h32 : kd (TN K sc) 32 = some (11, 2)) (h96 : kd (TN K sc) 96 = some (18, 4)) (hv0_5_0 : μ 0 5 = 32) (hv0_8_0 : μ 0 8 = 96) (k : ∀ μ' : Mem, μ' = cX9_2 μ → (121 : Int) = (((K ++ oX9_2) : List (Nat × Nat)).length : Int) → kd (TN (K ++ oX9_2) sc) 0 = some (39, 20) → kd (TN (K ++ oX9_2) sc) 32 = some (11, 2) → kd (TN (K ++ oX9_2) sc) 96 = some (18, 4) → μ' 0 5 = 32 → μ' 0 8 = 96 → WP mX9_init (RM d 182 13917) Z (TN (K ++ oX9_2) sc) 120 8897 124 [(2, 0), (9, 0)] [] μ') : WP mX9_init (RM d 182 13917) Z (TN K sc) 105 6490 95 [(2, 0), (9, 0)] [(2, 105), (2, 0)] μ := by
  refine WP_dup dX9_init_95 (by simp) ?_
  refine WP_invIN (md := mX9_init) (d' := 1) (v := (2, 105)) (as := []) (mc := 11) (ms := 2380) dX9_init_96 l_X9_60 mw_X0_init rfl rfl mi_X0_init mo_X0_init ⟨rfl, by show 0 ≤ 105; omega⟩ ⟨by show _ ≤ d; omega, by show _ ≤ 64 * d; omega⟩ (Nat.le_of_ble_eq_true rfl) ⟨Nat.le_of_ble_eq_true rfl, Nat.le_of_ble_eq_true rfl⟩ (kc_X0 (b := 106) (by decide) hb ⟨by omega, by omega⟩ h105) ?_
  rintro _ _ μ1 ⟨rfl, rfl, e1⟩
  have hv0_5_1 : μ1 0 5 = 32 := by rw [e1]; exact (cX0_fr (by decide) (by decide) (by decide)).trans hv0_5_0
  have hv0_8_1 : μ1 0 8 = 96 := by rw [e1]; exact (cX0_fr (by decide) (by decide) (by decide)).trans hv0_8_0
  refine WN_put (n := 20) dX9_init_99 f_X9_61 (kd_app h0) (fun r hr => by cases hr; first | exact Or.inl rfl | exact Or.inr ⟨rfl, rfl, rfl⟩) rfl rfl (fun h => absurd h (by decide)) (fun μ2 e2 => ?_)
  have hv0_5_2 : μ2 0 5 = 32 := by rw [e2, mup_ap, if_neg (by decide)]; exact hv0_5_1
  have hv0_8_2 : μ2 0 8 = 96 := by rw [e2, mup_ap, if_neg (by decide)]; exact hv0_8_1
  refine WP_aload_n dX9_init_102 rfl rfl ⟨Nat.le_of_ble_eq_true rfl, Nat.le_of_ble_eq_true rfl⟩ ?_
  refine WN_new (ci := 4) (n := 4) (b := 117) (by simp only [List.length_append, List.length_cons, List.length_nil, oX0]; omega) dX9_init_103 rfl rfl cl_X9_65 in_RX4 ini_RX4 (by decide) (Nat.le_of_ble_eq_true rfl) (Nat.le_of_ble_eq_true rfl) (fun k3 μ3 e3 => ?_)
  have hv0_5_3 : μ3 0 5 = 32 := by rw [e3]; show (if (0 : Int) = 117 then _ else _) = _; rw [if_neg (by decide)]; exact hv0_5_2
  have hv0_8_3 : μ3 0 8 = 96 := by rw [e3]; show (if (0 : Int) = 117 then _ else _) = _; rw [if_neg (by decide)]; exact hv0_8_2
  refine WP_dup dX9_init_106 (by simp) ?_
  refine WP_invIN (md := mX9_init) (d' := 1) (v := (2, 117)) (as := []) (mc := 2) (ms := 12) dX9_init_107 l_X9_67 mw_X4_init rfl rfl mi_X4_init mo_X4_init ⟨rfl, by show 0 ≤ 117; omega⟩ ⟨by show _ ≤ d; omega, by show _ ≤ 64 * d; omega⟩ (Nat.le_of_ble_eq_true rfl) ⟨Nat.le_of_ble_eq_true rfl, Nat.le_of_ble_eq_true rfl⟩ (kc_X4 (b := 118) (by decide) (by simp only [List.length_append, List.length_cons, List.length_nil, oX0]; omega) ⟨by omega, by omega⟩ k3) ?_
  rintro _ _ μ4 ⟨rfl, rfl, e4⟩
  have hv0_5_4 : μ4 0 5 = 32 := by rw [e4]; exact (cX4_fr (by decide) (by decide) (by decide)).trans hv0_5_3
  have hv0_8_4 : μ4 0 8 = 96 := by rw [e4]; exact (cX4_fr (by decide) (by decide) (by decide)).trans hv0_8_3
  refine WN_put (n := 20) dX9_init_110 f_X9_68 (kd_app (kd_app (kd_app h0))) (fun r hr => by cases hr; first | exact Or.inl rfl | exact Or.inr ⟨rfl, rfl, rfl⟩) rfl rfl (fun h => absurd h (by decide)) (fun μ5 e5 => ?_)
  have hv0_5_5 : μ5 0 5 = 32 := by rw [e5, mup_ap, if_neg (by decide)]; exact hv0_5_4
  have hv0_8_5 : μ5 0 8 = 96 := by rw [e5, mup_ap, if_neg (by decide)]; exact hv0_8_4
  refine WP_aload_n dX9_init_113 rfl rfl ⟨Nat.le_of_ble_eq_true rfl, Nat.le_of_ble_eq_true rfl⟩ ?_
  refine WN_new (ci := 2) (n := 11) (b := 120) (by simp only [List.length_append, List.length_cons, List.length_nil, oX0, oX4]; omega) dX9_init_114 rfl rfl cl_X9_72 in_RX2 ini_RX2 (by decide) (Nat.le_of_ble_eq_true rfl) (Nat.le_of_ble_eq_true rfl) (fun k6 μ6 e6 => ?_)
  have hv0_5_6 : μ6 0 5 = 32 := by rw [e6]; show (if (0 : Int) = 120 then _ else _) = _; rw [if_neg (by decide)]; exact hv0_5_5
  have hv0_8_6 : μ6 0 8 = 96 := by rw [e6]; show (if (0 : Int) = 120 then _ else _) = _; rw [if_neg (by decide)]; exact hv0_8_5
  refine WP_dup dX9_init_117 (by simp) ?_
  refine WP_invIN (md := mX9_init) (d' := 1) (v := (2, 120)) (as := []) (mc := 0) (ms := 0) dX9_init_118 l_X9_74 mw_X2_init rfl rfl mi_X2_init mo_X2_init ⟨rfl, by show 0 ≤ 120; omega⟩ ⟨by show _ ≤ d; omega, by show _ ≤ 64 * d; omega⟩ (Nat.le_of_ble_eq_true rfl) ⟨Nat.le_of_ble_eq_true rfl, Nat.le_of_ble_eq_true rfl⟩ (kc_X2 (b := 121) (by decide) (by simp only [List.length_append, List.length_cons, List.length_nil, oX0, oX4]; omega) ⟨by omega, by omega⟩ k6) ?_
  rintro _ _ μ7 ⟨rfl, rfl, e7⟩
  have hv0_5_7 : μ7 0 5 = 32 := by rw [e7]; exact (cX2_fr (by decide) (by decide) (by decide)).trans hv0_5_6
  have hv0_8_7 : μ7 0 8 = 96 := by rw [e7]; exact (cX2_fr (by decide) (by decide) (by decide)).trans hv0_8_6
  refine WN_put (n := 20) dX9_init_121 f_X9_75 (kd_app (kd_app (kd_app (kd_app (kd_app h0))))) (fun r hr => by cases hr; first | exact Or.inl rfl | exact Or.inr ⟨rfl, rfl, rfl⟩) rfl rfl (fun h => absurd h (by decide)) (fun μ8 e8 => ?_)
  have hv0_5_8 : μ8 0 5 = 32 := by rw [e8, mup_ap, if_neg (by decide)]; exact hv0_5_7
  have hv0_8_8 : μ8 0 8 = 96 := by rw [e8, mup_ap, if_neg (by decide)]; exact hv0_8_7
  have hK : (((((K ++ oX0) ++ [(34, 4)]) ++ oX4) ++ [(32, 11)]) ++ oX2) = K ++ oX9_2 := by simp only [oX9_2, oX0, oX4, oX2, List.append_assoc, List.cons_append, List.nil_append, List.append_nil]
  show WP mX9_init (RM d 182 13917) Z (TN (((((K ++ oX0) ++ [(34, 4)]) ++ oX4) ++ [(32, 11)]) ++ oX2) sc) 120 8897 124 [(2, 0), (9, 0)] [] μ8
  rw [hK]
  exact k μ8 (by rw [e8, e7, e6, e5, e4, e3, e2, e1]; first | done | rfl) (by rw [← hK]; exact (by simp only [List.length_append, List.length_cons, List.length_nil, oX0, oX4, oX2]; omega)) (by rw [← hK]; exact (kd_app (kd_app (kd_app (kd_app (kd_app h0)))))) (by rw [← hK]; exact (kd_app (kd_app (kd_app (kd_app (kd_app h32)))))) (by rw [← hK]; exact (kd_app (kd_app (kd_app (kd_app (kd_app h96)))))) hv0_5_8 hv0_8_8

def oX9_3 : List (Nat × Nat) := [(36, 7), (0, 10), (0, 10), (0, 10), (0, 10), (0, 6), (33, 9), (0, 36), (0, 36), (0, 36), (0, 9), (0, 64), (1, 72), (1, 72), (30, 16), (0, 512), (0, 512), (0, 6), (0, 6), (0, 10), (0, 100), (0, 10), (0, 100), (0, 100), (0, 512), (0, 512)]
def cX9_3 (μ : Mem) : Mem :=
  let μ1 : Mem := fun c j => if c = 121 then (if 0 ≤ j then dfl 6 j.toNat else 0) else μ c j
  let μ2 : Mem := cX6 (121) (122) μ1
  let μ3 : Mem := mup μ2 (0) 14 (121)
  let μ4 : Mem := fun c j => if c = 127 then (if 0 ≤ j then dfl 3 j.toNat else 0) else μ3 c j
  let μ5 : Mem := cX3 (127) (128) μ4
  let μ6 : Mem := mup μ5 (0) 15 (127)
  let μ7 : Mem := fun c j => if c = 135 then (if 0 ≤ j then dfl 0 j.toNat else 0) else μ6 c j
  let μ8 : Mem := cX0 (135) (136) μ7
  μ8
theorem cX9_3_fr {μ : Mem} {c j : Int} (h1 : c ≠ 0) (h2 : c < 1) : cX9_3 μ c j = μ c j := by
  simp only [cX9_3, mup_ap]
  repeat (first | rw [if_neg (by omega)] | rw [cX6_fr (by omega) (by omega) (by omega)] | rw [cX3_fr (by omega) (by omega) (by omega)] | rw [cX0_fr (by omega) (by omega) (by omega)])
theorem kq_X9_3 {d : Nat} {sc : SC} {Z : ZT} {K : List (Nat × Nat)} {μ : Mem} (hd : 3 ≤ d) (hb : (121 : Int) = (K.length : Int)) (h0 : kd (TN K sc) 0 = some (39, 20)) (h32 : kd (TN K sc) 32 = some (11, 2)) (h96 : kd (TN K sc) 96 = some (18, 4)) (hv0_5_0 : μ 0 5 = 32) (hv0_8_0 : μ 0 8 = 96) (k : ∀ μ' : Mem, μ' = cX9_3 μ → (147 : Int) = (((K ++ oX9_3) : List (Nat × Nat)).length : Int) → kd (TN (K ++ oX9_3) sc) 0 = some (39, 20) → kd (TN (K ++ oX9_3) sc) 135 = some (30, 16) → kd (TN (K ++ oX9_3) sc) 32 = some (11, 2) → kd (TN (K ++ oX9_3) sc) 96 = some (18, 4) → μ' 0 5 = 32 → μ' 0 8 = 96 → WP mX9_init (RM d 182 13917) Z (TN (K ++ oX9_3) sc) 146 11680 154 [(2, 0), (9, 0)] [(2, 135), (2, 0)] μ') : WP mX9_init (RM d 182 13917) Z (TN K sc) 120 8897 124 [(2, 0), (9, 0)] [] μ := by
  refine WP_aload_n dX9_init_124 rfl rfl ⟨Nat.le_of_ble_eq_true rfl, Nat.le_of_ble_eq_true rfl⟩ ?_
  refine WN_new (ci := 6) (n := 7) (b := 121) hb dX9_init_125 rfl rfl cl_X9_79 in_RX6 ini_RX6 (by decide) (Nat.le_of_ble_eq_true rfl) (Nat.le_of_ble_eq_true rfl) (fun k1 μ1 e1 => ?_)
  have hv0_5_1 : μ1 0 5 = 32 := by rw [e1]; show (if (0 : Int) = 121 then _ else _) = _; rw [if_neg (by decide)]; exact hv0_5_0
  have hv0_8_1 : μ1 0 8 = 96 := by rw [e1]; show (if (0 : Int) = 121 then _ else _) = _; rw [if_neg (by decide)]; exact hv0_8_0
  refine WP_dup dX9_init_128 (by simp) ?_
  refine WP_invIN (md := mX9_init) (d' := 1) (v := (2, 121)) (as := []) (mc := 5) (ms := 46) dX9_init_129 l_X9_81 mw_X6_init rfl rfl mi_X6_init mo_X6_init ⟨rfl, by show 0 ≤ 121; omega⟩ ⟨by show _ ≤ d; omega, by show _ ≤ 64 * d; omega⟩ (Nat.le_of_ble_eq_true rfl) ⟨Nat.le_of_ble_eq_true rfl, Nat.le_of_ble_eq_true rfl⟩ (kc_X6 (b := 122) (by decide) (by simp only [List.length_append, List.length_cons, List.length_nil]; omega) ⟨by omega, by omega⟩ k1) ?_
  rintro _ _ μ2 ⟨rfl, rfl, e2⟩
  have hv0_5_2 : μ2 0 5 = 32 := by rw [e2]; exact (cX6_fr (by decide) (by decide) (by decide)).trans hv0_5_1
  have hv0_8_2 : μ2 0 8 = 96 := by rw [e2]; exact (cX6_fr (by decide) (by decide) (by decide)).trans hv0_8_1
  refine WN_put (n := 20) dX9_init_132 f_X9_82 (kd_app (kd_app h0)) (fun r hr => by cases hr; first | exact Or.inl rfl | exact Or.inr ⟨rfl, rfl, rfl⟩) rfl rfl (fun h => absurd h (by decide)) (fun μ3 e3 => ?_)
  have hv0_5_3 : μ3 0 5 = 32 := by rw [e3, mup_ap, if_neg (by decide)]; exact hv0_5_2
  have hv0_8_3 : μ3 0 8 = 96 := by rw [e3, mup_ap, if_neg (by decide)]; exact hv0_8_2
  refine WP_aload_n dX9_init_135 rfl rfl ⟨Nat.le_of_ble_eq_true rfl, Nat.le_of_ble_eq_true rfl⟩ ?_
  refine WN_new (ci := 3) (n := 9) (b := 127) (by simp only [List.length_append, List.length_cons, List.length_nil, oX6]; omega) dX9_init_136 rfl rfl cl_X9_51 in_RX3 ini_RX3 (by decide) (Nat.le_of_ble_eq_true rfl) (Nat.le_of_ble_eq_true rfl) (fun k4 μ4 e4 => ?_)
  have hv0_5_4 : μ4 0 5 = 32 := by rw [e4]; show (if (0 : Int) = 127 then _ else _) = _; rw [if_neg (by decide)]; exact hv0_5_3
  have hv0_8_4 : μ4 0 8 = 96 := by rw [e4]; show (if (0 : Int) = 127 then _ else _) = _; rw [if_neg (by decide)]; exact hv0_8_3
  refine WP_dup dX9_init_139 (by simp) ?_
  refine WP_invIN (md := mX9_init) (d' := 1) (v := (2, 127)) (as := []) (mc := 7) (ms := 325) dX9_init_140 l_X9_53 mw_X3_init rfl rfl mi_X3_init mo_X3_init ⟨rfl, by show 0 ≤ 127; omega⟩ ⟨by show _ ≤ d; omega, by show _ ≤ 64 * d; omega⟩ (Nat.le_of_ble_eq_true rfl) ⟨Nat.le_of_ble_eq_true rfl, Nat.le_of_ble_eq_true rfl⟩ (kc_X3 (b := 128) (by decide) (by simp only [List.length_append, List.length_cons, List.length_nil, oX6]; omega) ⟨by omega, by omega⟩ k4) ?_
  rintro _ _ μ5 ⟨rfl, rfl, e5⟩
  have hv0_5_5 : μ5 0 5 = 32 := by rw [e5]; exact (cX3_fr (by decide) (by decide) (by decide)).trans hv0_5_4
  have hv0_8_5 : μ5 0 8 = 96 := by rw [e5]; exact (cX3_fr (by decide) (by decide) (by decide)).trans hv0_8_4
  refine WN_put (n := 20) dX9_init_143 f_X9_86 (kd_app (kd_app (kd_app (kd_app h0)))) (fun r hr => by cases hr; first | exact Or.inl rfl | exact Or.inr ⟨rfl, rfl, rfl⟩) rfl rfl (fun h => absurd h (by decide)) (fun μ6 e6 => ?_)
  have hv0_5_6 : μ6 0 5 = 32 := by rw [e6, mup_ap, if_neg (by decide)]; exact hv0_5_5
  have hv0_8_6 : μ6 0 8 = 96 := by rw [e6, mup_ap, if_neg (by decide)]; exact hv0_8_5
  refine WP_aload_n dX9_init_146 rfl rfl ⟨Nat.le_of_ble_eq_true rfl, Nat.le_of_ble_eq_true rfl⟩ ?_
  refine WN_new (ci := 0) (n := 16) (b := 135) (by simp only [List.length_append, List.length_cons, List.length_nil, oX6, oX3]; omega) dX9_init_147 rfl rfl cl_X9_58 in_RX0 ini_RX0 (by decide) (Nat.le_of_ble_eq_true rfl) (Nat.le_of_ble_eq_true rfl) (fun k7 μ7 e7 => ?_)
  have hv0_5_7 : μ7 0 5 = 32 := by rw [e7]; show (if (0 : Int) = 135 then _ else _) = _; rw [if_neg (by decide)]; exact hv0_5_6
  have hv0_8_7 : μ7 0 8 = 96 := by rw [e7]; show (if (0 : Int) = 135 then _ else _) = _; rw [if_neg (by decide)]; exact hv0_8_6
  refine WP_dup dX9_init_150 (by simp) ?_
  refine WP_invIN (md := mX9_init) (d' := 1) (v := (2, 135)) (as := []) (mc := 11) (ms := 2380) dX9_init_151 l_X9_60 mw_X0_init rfl rfl mi_X0_init mo_X0_init ⟨rfl, by show 0 ≤ 135; omega⟩ ⟨by show _ ≤ d; omega, by show _ ≤ 64 * d; omega⟩ (Nat.le_of_ble_eq_true rfl) ⟨Nat.le_of_ble_eq_true rfl, Nat.le_of_ble_eq_true rfl⟩ (kc_X0 (b := 136) (by decide) (by simp only [List.length_append, List.length_cons, List.length_nil, oX6, oX3]; omega) ⟨by omega, by omega⟩ k7) ?_
  rintro _ _ μ8 ⟨rfl, rfl, e8⟩
  have hv0_5_8 : μ8 0 5 = 32 := by rw [e8]; exact (cX0_fr (by decide) (by decide) (by decide)).trans hv0_5_7
  have hv0_8_8 : μ8 0 8 = 96 := by rw [e8]; exact (cX0_fr (by decide) (by decide) (by decide)).trans hv0_8_7
  have hK : ((((((K ++ [(36, 7)]) ++ oX6) ++ [(33, 9)]) ++ oX3) ++ [(30, 16)]) ++ oX0) = K ++ oX9_3 := by simp only [oX9_3, oX6, oX3, oX0, List.append_assoc, List.cons_append, List.nil_append, List.append_nil]
  show WP mX9_init (RM d 182 13917) Z (TN ((((((K ++ [(36, 7)]) ++ oX6) ++ [(33, 9)]) ++ oX3) ++ [(30, 16)]) ++ oX0) sc) 146 11680 154 [(2, 0), (9, 0)] [(2, 135), (2, 0)] μ8
  rw [hK]
  exact k μ8 (by rw [e8, e7, e6, e5, e4, e3, e2, e1]; first | done | rfl) (by rw [← hK]; exact (by simp only [List.length_append, List.length_cons, List.length_nil, oX6, oX3, oX0]; omega)) (by rw [← hK]; exact (kd_app (kd_app (kd_app (kd_app (kd_app (kd_app h0))))))) (by rw [← hK]; exact (kd_app k7)) (by rw [← hK]; exact (kd_app (kd_app (kd_app (kd_app (kd_app (kd_app h32))))))) (by rw [← hK]; exact (kd_app (kd_app (kd_app (kd_app (kd_app (kd_app h96))))))) hv0_5_8 hv0_8_8

def oX9_4 : List (Nat × Nat) := [(0, 64), (0, 21), (31, 11), (0, 6), (0, 6), (0, 6), (0, 900), (0, 3), (0, 3), (36, 7), (0, 10), (0, 10), (0, 10), (0, 10), (0, 6)]
def cX9_4 (μ : Mem) : Mem :=
  let μ1 : Mem := mup μ (0) 16 (135)
  let μ2 : Mem := fun c j => if c = 147 then 0 else μ1 c j
  let μ3 : Mem := mup μ2 (0) 17 (147)
  let μ4 : Mem := fun c j => if c = 148 then 0 else μ3 c j
  let μ5 : Mem := mup μ4 (0) 18 (148)
  let μ6 : Mem := fun c j => if c = 149 then (if 0 ≤ j then dfl 1 j.toNat else 0) else μ5 c j
  let μ7 : Mem := cX1 (149) (150) μ6
  μ7
theorem cX9_4_fr {μ : Mem} {c j : Int} (h1 : c ≠ 0) (h2 : c < 1) : cX9_4 μ c j = μ c j := by
  simp only [cX9_4, mup_ap]
  repeat (first | rw [if_neg (by omega)] | rw [cX1_fr (by omega) (by omega) (by omega)])
theorem kq_X9_4 {d : Nat} {sc : SC} {Z : ZT} {K : List (Nat × Nat)} {μ : Mem} (hd : 3 ≤ d) (hb : (147 : Int) = (K.length : Int)) (h0 : kd (TN K sc) 0 = some (39, 20)) (h135 : kd (TN K sc) 135 = some (30, 16)) (h32 : kd (TN K sc) 32 = some (11, 2)) (h96 : kd (TN K sc) 96 = some (18, 4)) (hv0_5_0 : μ 0 5 = 32) (hv0_8_0 : μ 0 8 = 96) (k : ∀ μ' : Mem, μ' = cX9_4 μ → (162 : Int) = (((K ++ oX9_4) : List (Nat × Nat)).length : Int) → kd (TN (K ++ oX9_4) sc) 0 = some (39, 20) → kd (TN (K ++ oX9_4) sc) 149 = some (31, 11) → kd (TN (K ++ oX9_4) sc) 32 = some (11, 2) → kd (TN (K ++ oX9_4) sc) 96 = some (18, 4) → μ' 0 5 = 32 → μ' 0 8 = 96 → WP mX9_init (RM d 182 13917) Z (TN (K ++ oX9_4) sc) 161 12753 192 [(2, 0), (0, 0)] [(2, 149), (0, 0), (2, 32)] μ') : WP mX9_init (RM d 182 13917) Z (TN K sc) 146 11680 154 [(2, 0), (9, 0)] [(2, 135), (2, 0)] μ := by
  refine WN_put (n := 20) dX9_init_154 f_X9_89 h0 (fun r hr => by cases hr; first | exact Or.inl rfl | exact Or.inr ⟨rfl, rfl, rfl⟩) rfl rfl (fun h => absurd h (by decide)) (fun μ1 e1 => ?_)
  have hv0_5_1 : μ1 0 5 = 32 := by rw [e1, mup_ap, if_neg (by decide)]; exact hv0_5_0
  have hv0_8_1 : μ1 0 8 = 96 := by rw [e1, mup_ap, if_neg (by decide)]; exact hv0_8_0
  refine WP_aload_n dX9_init_157 rfl rfl ⟨Nat.le_of_ble_eq_true rfl, Nat.le_of_ble_eq_true rfl⟩ ?_
  refine WP_bipush dX9_init_158 (by decide +kernel) (by decide) ?_
  refine WN_newarray (e := 0) (n := 64) (b := 147) hb dX9_init_160 rfl (by decide) ac_0 (by decide) (Nat.le_of_ble_eq_true rfl) (Nat.le_of_ble_eq_true rfl) (fun k2 μ2 e2 => ?_)
  have hv0_5_2 : μ2 0 5 = 32 := by rw [e2]; show (if (0 : Int) = 147 then _ else _) = _; rw [if_neg (by decide)]; exact hv0_5_1
  have hv0_8_2 : μ2 0 8 = 96 := by rw [e2]; show (if (0 : Int) = 147 then _ else _) = _; rw [if_neg (by decide)]; exact hv0_8_1
  refine WN_put (n := 20) dX9_init_162 f_X9_92 (kd_app h0) (fun r hr => by cases hr; first | exact Or.inl rfl | exact Or.inr ⟨rfl, rfl, rfl⟩) rfl rfl (fun h => absurd h (by decide)) (fun μ3 e3 => ?_)
  have hv0_5_3 : μ3 0 5 = 32 := by rw [e3, mup_ap, if_neg (by decide)]; exact hv0_5_2
  have hv0_8_3 : μ3 0 8 = 96 := by rw [e3, mup_ap, if_neg (by decide)]; exact hv0_8_2
  refine WP_aload_n dX9_init_165 rfl rfl ⟨Nat.le_of_ble_eq_true rfl, Nat.le_of_ble_eq_true rfl⟩ ?_
  refine WP_bipush dX9_init_166 (by decide +kernel) (by decide) ?_
  refine WN_newarray (e := 0) (n := 21) (b := 148) (by simp only [List.length_append, List.length_cons, List.length_nil]; omega) dX9_init_168 rfl (by decide) ac_0 (by decide) (Nat.le_of_ble_eq_true rfl) (Nat.le_of_ble_eq_true rfl) (fun k4 μ4 e4 => ?_)
  have hv0_5_4 : μ4 0 5 = 32 := by rw [e4]; show (if (0 : Int) = 148 then _ else _) = _; rw [if_neg (by decide)]; exact hv0_5_3
  have hv0_8_4 : μ4 0 8 = 96 := by rw [e4]; show (if (0 : Int) = 148 then _ else _) = _; rw [if_neg (by decide)]; exact hv0_8_3
  refine WN_put (n := 20) dX9_init_170 f_X9_96 (kd_app (kd_app h0)) (fun r hr => by cases hr; first | exact Or.inl rfl | exact Or.inr ⟨rfl, rfl, rfl⟩) rfl rfl (fun h => absurd h (by decide)) (fun μ5 e5 => ?_)
  have hv0_5_5 : μ5 0 5 = 32 := by rw [e5, mup_ap, if_neg (by decide)]; exact hv0_5_4
  have hv0_8_5 : μ5 0 8 = 96 := by rw [e5, mup_ap, if_neg (by decide)]; exact hv0_8_4
  refine WP_iconst dX9_init_173 (by decide) ?_
  refine WP_istore_n (L' := [(2, 0), (0, 0)]) dX9_init_174 rfl (by decide) rfl ?_
  refine WP_iload_n dX9_init_175 rfl rfl ?_
  refine WP_iconst dX9_init_176 (by decide) ?_
  refine WP_icmp_ge (tgt := 199) dX9_init_177 (by decide) (fun q => absurd q (by decide)) (fun _ => ?_)
  refine WP_aload_n dX9_init_180 rfl rfl ⟨Nat.le_of_ble_eq_true rfl, Nat.le_of_ble_eq_true rfl⟩ ?_
  refine WP_getfield (ci := 9) (j := 5) (n := 20) (t := 2) (x := 32) dX9_init_181 f_X9_30 (kd_app (kd_app h0)) rfl hv0_5_5 ?_
  refine WP_iload_n dX9_init_184 rfl rfl ?_
  refine WN_new (ci := 1) (n := 11) (b := 149) (by simp only [List.length_append, List.length_cons, List.length_nil]; omega) dX9_init_185 rfl rfl cl_X9_13 in_RX1 ini_RX1 (by decide) (Nat.le_of_ble_eq_true rfl) (Nat.le_of_ble_eq_true rfl) (fun k6 μ6 e6 => ?_)
  have hv0_5_6 : μ6 0 5 = 32 := by rw [e6]; show (if (0 : Int) = 149 then _ else _) = _; rw [if_neg (by decide)]; exact hv0_5_5
  have hv0_8_6 : μ6 0 8 = 96 := by rw [e6]; show (if (0 : Int) = 149 then _ else _) = _; rw [if_neg (by decide)]; exact hv0_8_5
  refine WP_dup dX9_init_188 (by simp) ?_
  refine WP_invIN (md := mX9_init) (d' := 2) (v := (2, 149)) (as := []) (mc := 12) (ms := 977) dX9_init_189 l_X9_15 mw_X1_init rfl rfl mi_X1_init mo_X1_init ⟨rfl, by show 0 ≤ 149; omega⟩ ⟨by show _ ≤ d; omega, by show _ ≤ 64 * d; omega⟩ (Nat.le_of_ble_eq_true rfl) ⟨Nat.le_of_ble_eq_true rfl, Nat.le_of_ble_eq_true rfl⟩ (kc_X1 (b := 150) (by decide) (by simp only [List.length_append, List.length_cons, List.length_nil]; omega) ⟨by omega, by omega⟩ k6) ?_
  rintro _ _ μ7 ⟨rfl, rfl, e7⟩
  have hv0_5_7 : μ7 0 5 = 32 := by rw [e7]; exact (cX1_fr (by decide) (by decide) (by decide)).trans hv0_5_6
  have hv0_8_7 : μ7 0 8 = 96 := by rw [e7]; exact (cX1_fr (by decide) (by decide) (by decide)).trans hv0_8_6
  have hK : ((((K ++ [(0, 64)]) ++ [(0, 21)]) ++ [(31, 11)]) ++ oX1) = K ++ oX9_4 := by simp only [oX9_4, oX1, List.append_assoc, List.cons_append, List.nil_append, List.append_nil]
  show WP mX9_init (RM d 182 13917) Z (TN ((((K ++ [(0, 64)]) ++ [(0, 21)]) ++ [(31, 11)]) ++ oX1) sc) 161 12753 192 [(2, 0), (0, 0)] [(2, 149), (0, 0), (2, 32)] μ7
  rw [hK]
  exact k μ7 (by rw [e7, e6, e5, e4, e3, e2, e1]; first | done | rfl) (by rw [← hK]; exact (by simp only [List.length_append, List.length_cons, List.length_nil, oX1]; omega)) (by rw [← hK]; exact (kd_app (kd_app (kd_app (kd_app h0))))) (by rw [← hK]; exact (kd_app k6)) (by rw [← hK]; exact (kd_app (kd_app (kd_app (kd_app h32))))) (by rw [← hK]; exact (kd_app (kd_app (kd_app (kd_app h96))))) hv0_5_7 hv0_8_7

def oX9_5 : List (Nat × Nat) := [(31, 11), (0, 6), (0, 6), (0, 6), (0, 900), (0, 3), (0, 3), (36, 7), (0, 10), (0, 10), (0, 10), (0, 10), (0, 6)]
def cX9_5 (μ : Mem) : Mem :=
  let μ1 : Mem := mup μ 32 0 149
  let μ2 : Mem := fun c j => if c = 162 then (if 0 ≤ j then dfl 1 j.toNat else 0) else μ1 c j
  let μ3 : Mem := cX1 (162) (163) μ2
  let μ4 : Mem := mup μ3 32 1 162
  μ4
theorem cX9_5_fr {μ : Mem} {c j : Int} (h1 : c ≠ 0) (h2 : c < 1) : cX9_5 μ c j = μ c j := by
  simp only [cX9_5, mup_ap]
  repeat (first | rw [if_neg (by omega)] | rw [cX1_fr (by omega) (by omega) (by omega)])
theorem kq_X9_5 {d : Nat} {sc : SC} {Z : ZT} {K : List (Nat × Nat)} {μ : Mem} (hd : 3 ≤ d) (hb : (162 : Int) = (K.length : Int)) (h0 : kd (TN K sc) 0 = some (39, 20)) (h149 : kd (TN K sc) 149 = some (31, 11)) (h32 : kd (TN K sc) 32 = some (11, 2)) (h96 : kd (TN K sc) 96 = some (18, 4)) (hv0_5_0 : μ 0 5 = 32) (hv0_8_0 : μ 0 8 = 96) (k : ∀ μ' : Mem, μ' = cX9_5 μ → (175 : Int) = (((K ++ oX9_5) : List (Nat × Nat)).length : Int) → kd (TN (K ++ oX9_5) sc) 0 = some (39, 20) → kd (TN (K ++ oX9_5) sc) 32 = some (11, 2) → kd (TN (K ++ oX9_5) sc) 96 = some (18, 4) → μ' 0 5 = 32 → μ' 0 8 = 96 → WP mX9_init (RM d 182 13917) Z (TN (K ++ oX9_5) sc) 174 13741 200 [(2, 0), (0, 2)] [(0, 0)] μ') : WP mX9_init (RM d 182 13917) Z (TN K sc) 161 12753 192 [(2, 0), (0, 0)] [(2, 149), (0, 0), (2, 32)] μ := by
  refine WP_aastore (ci := 1) dX9_init_192 h32 (by decide) h149 ⟨by decide, by decide⟩ ?_
  obtain ⟨μ1, e1⟩ : ∃ m : Mem, m = mup μ 32 0 149 := ⟨_, rfl⟩
  rw [← e1]
  have hv0_5_1 : μ1 0 5 = 32 := by rw [e1, mup_ap, if_neg (by decide)]; exact hv0_5_0
  have hv0_8_1 : μ1 0 8 = 96 := by rw [e1, mup_ap, if_neg (by decide)]; exact hv0_8_0
  refine WP_iinc (L' := [(2, 0), (0, 1)]) dX9_init_193 rfl (by decide) ⟨by decide, by decide⟩ rfl ?_
  refine WP_goto (tgt := 175) dX9_init_196 (by decide) ?_
  refine WP_iload_n dX9_init_175 rfl rfl ?_
  refine WP_iconst dX9_init_176 (by decide) ?_
  refine WP_icmp_ge (tgt := 199) dX9_init_177 (by decide) (fun q => absurd q (by decide)) (fun _ => ?_)
  refine WP_aload_n dX9_init_180 rfl rfl ⟨Nat.le_of_ble_eq_true rfl, Nat.le_of_ble_eq_true rfl⟩ ?_
  refine WP_getfield (ci := 9) (j := 5) (n := 20) (t := 2) (x := 32) dX9_init_181 f_X9_30 h0 rfl hv0_5_1 ?_
  refine WP_iload_n dX9_init_184 rfl rfl ?_
  refine WN_new (ci := 1) (n := 11) (b := 162) hb dX9_init_185 rfl rfl cl_X9_13 in_RX1 ini_RX1 (by decide) (Nat.le_of_ble_eq_true rfl) (Nat.le_of_ble_eq_true rfl) (fun k2 μ2 e2 => ?_)
  have hv0_5_2 : μ2 0 5 = 32 := by rw [e2]; show (if (0 : Int) = 162 then _ else _) = _; rw [if_neg (by decide)]; exact hv0_5_1
  have hv0_8_2 : μ2 0 8 = 96 := by rw [e2]; show (if (0 : Int) = 162 then _ else _) = _; rw [if_neg (by decide)]; exact hv0_8_1
  refine WP_dup dX9_init_188 (by simp) ?_
  refine WP_invIN (md := mX9_init) (d' := 2) (v := (2, 162)) (as := []) (mc := 12) (ms := 977) dX9_init_189 l_X9_15 mw_X1_init rfl rfl mi_X1_init mo_X1_init ⟨rfl, by show 0 ≤ 162; omega⟩ ⟨by show _ ≤ d; omega, by show _ ≤ 64 * d; omega⟩ (Nat.le_of_ble_eq_true rfl) ⟨Nat.le_of_ble_eq_true rfl, Nat.le_of_ble_eq_true rfl⟩ (kc_X1 (b := 163) (by decide) (by simp only [List.length_append, List.length_cons, List.length_nil]; omega) ⟨by omega, by omega⟩ k2) ?_
  rintro _ _ μ3 ⟨rfl, rfl, e3⟩
  have hv0_5_3 : μ3 0 5 = 32 := by rw [e3]; exact (cX1_fr (by decide) (by decide) (by decide)).trans hv0_5_2
  have hv0_8_3 : μ3 0 8 = 96 := by rw [e3]; exact (cX1_fr (by decide) (by decide) (by decide)).trans hv0_8_2
  refine WP_aastore (ci := 1) dX9_init_192 (kd_app (kd_app h32)) (by decide) (kd_app k2) ⟨by decide, by decide⟩ ?_
  obtain ⟨μ4, e4⟩ : ∃ m : Mem, m = mup μ3 32 1 162 := ⟨_, rfl⟩
  rw [← e4]
  have hv0_5_4 : μ4 0 5 = 32 := by rw [e4, mup_ap, if_neg (by decide)]; exact hv0_5_3
  have hv0_8_4 : μ4 0 8 = 96 := by rw [e4, mup_ap, if_neg (by decide)]; exact hv0_8_3
  refine WP_iinc (L' := [(2, 0), (0, 2)]) dX9_init_193 rfl (by decide) ⟨by decide, by decide⟩ rfl ?_
  refine WP_goto (tgt := 175) dX9_init_196 (by decide) ?_
  refine WP_iload_n dX9_init_175 rfl rfl ?_
  refine WP_iconst dX9_init_176 (by decide) ?_
  refine WP_icmp_ge (tgt := 199) dX9_init_177 (by decide) (fun _ => ?_) (fun q => absurd (by decide) q)
  refine WP_iconst dX9_init_199 (by decide) ?_
  have hK : ((K ++ [(31, 11)]) ++ oX1) = K ++ oX9_5 := by simp only [oX9_5, oX1, List.append_assoc, List.cons_append, List.nil_append, List.append_nil]
  show WP mX9_init (RM d 182 13917) Z (TN ((K ++ [(31, 11)]) ++ oX1) sc) 174 13741 200 [(2, 0), (0, 2)] [(0, 0)] μ4
  rw [hK]
  exact k μ4 (by rw [e4, e3, e2, e1]; first | done | rfl) (by rw [← hK]; exact (by simp only [List.length_append, List.length_cons, List.length_nil, oX1]; omega)) (by rw [← hK]; exact (kd_app (kd_app h0))) (by rw [← hK]; exact (kd_app (kd_app h32))) (by rw [← hK]; exact (kd_app (kd_app h96))) hv0_5_4 hv0_8_4

def oX9_6 : List (Nat × Nat) := [(38, 4), (1, 40), (38, 4)]
def cX9_6 (μ : Mem) : Mem :=
  let μ1 : Mem := fun c j => if c = 175 then (if 0 ≤ j then dfl 8 j.toNat else 0) else μ c j
  let μ2 : Mem := cX8 (175) (176) μ1
  let μ3 : Mem := mup μ2 96 0 175
  let μ4 : Mem := fun c j => if c = 177 then (if 0 ≤ j then dfl 8 j.toNat else 0) else μ3 c j
  μ4
theorem cX9_6_fr {μ : Mem} {c j : Int} (h1 : c ≠ 0) (h2 : c < 1) : cX9_6 μ c j = μ c j := by
  simp only [cX9_6, mup_ap]
  repeat (first | rw [if_neg (by omega)] | rw [cX8_fr (by omega) (by omega) (by omega)])
theorem kq_X9_6 {d : Nat} {sc : SC} {Z : ZT} {K : List (Nat × Nat)} {μ : Mem} (hd : 3 ≤ d) (hb : (175 : Int) = (K.length : Int)) (h0 : kd (TN K sc) 0 = some (39, 20)) (h32 : kd (TN K sc) 32 = some (11, 2)) (h96 : kd (TN K sc) 96 = some (18, 4)) (hv0_5_0 : μ 0 5 = 32) (hv0_8_0 : μ 0 8 = 96) (k : ∀ μ' : Mem, μ' = cX9_6 μ → (178 : Int) = (((K ++ oX9_6) : List (Nat × Nat)).length : Int) → kd (TN (K ++ oX9_6) sc) 0 = some (39, 20) → kd (TN (K ++ oX9_6) sc) 177 = some (38, 4) → kd (TN (K ++ oX9_6) sc) 96 = some (18, 4) → kd (TN (K ++ oX9_6) sc) 32 = some (11, 2) → μ' 0 5 = 32 → μ' 0 8 = 96 → WP mX9_init (RM d 182 13917) Z (TN (K ++ oX9_6) sc) 177 13789 215 [(2, 0), (0, 1)] [(2, 177), (2, 177), (0, 1), (2, 96)] μ') : WP mX9_init (RM d 182 13917) Z (TN K sc) 174 13741 200 [(2, 0), (0, 2)] [(0, 0)] μ := by
  refine WP_istore_n (L' := [(2, 0), (0, 0)]) dX9_init_200 rfl (by decide) rfl ?_
  refine WP_iload_n dX9_init_201 rfl rfl ?_
  refine WP_iconst dX9_init_202 (by decide) ?_
  refine WP_icmp_ge (tgt := 225) dX9_init_203 (by decide) (fun q => absurd q (by decide)) (fun _ => ?_)
  refine WP_aload_n dX9_init_206 rfl rfl ⟨Nat.le_of_ble_eq_true rfl, Nat.le_of_ble_eq_true rfl⟩ ?_
  refine WP_getfield (ci := 9) (j := 8) (n := 20) (t := 2) (x := 96) dX9_init_207 f_X9_47 h0 rfl hv0_8_0 ?_
  refine WP_iload_n dX9_init_210 rfl rfl ?_
  refine WN_new (ci := 8) (n := 4) (b := 175) hb dX9_init_211 rfl rfl cl_X9_45 in_RX8 ini_RX8 (by decide) (Nat.le_of_ble_eq_true rfl) (Nat.le_of_ble_eq_true rfl) (fun k1 μ1 e1 => ?_)
  have hv0_5_1 : μ1 0 5 = 32 := by rw [e1]; show (if (0 : Int) = 175 then _ else _) = _; rw [if_neg (by decide)]; exact hv0_5_0
  have hv0_8_1 : μ1 0 8 = 96 := by rw [e1]; show (if (0 : Int) = 175 then _ else _) = _; rw [if_neg (by decide)]; exact hv0_8_0
  refine WP_dup dX9_init_214 (by simp) ?_
  refine WP_invIN (md := mX9_init) (d' := 1) (v := (2, 175)) (as := []) (mc := 1) (ms := 40) dX9_init_215 l_X9_99 mw_X8_init rfl rfl mi_X8_init mo_X8_init ⟨rfl, by show 0 ≤ 175; omega⟩ ⟨by show _ ≤ d; omega, by show _ ≤ 64 * d; omega⟩ (Nat.le_of_ble_eq_true rfl) ⟨Nat.le_of_ble_eq_true rfl, Nat.le_of_ble_eq_true rfl⟩ (kc_X8 (b := 176) (by decide) (by simp only [List.length_append, List.length_cons, List.length_nil]; omega) ⟨by omega, by omega⟩ k1) ?_
  rintro _ _ μ2 ⟨rfl, rfl, e2⟩
  have hv0_5_2 : μ2 0 5 = 32 := by rw [e2]; exact (cX8_fr (by decide) (by decide) (by decide)).trans hv0_5_1
  have hv0_8_2 : μ2 0 8 = 96 := by rw [e2]; exact (cX8_fr (by decide) (by decide) (by decide)).trans hv0_8_1
  refine WP_aastore (ci := 8) dX9_init_218 (kd_app (kd_app h96)) (by decide) (kd_app k1) ⟨by decide, by decide⟩ ?_
  obtain ⟨μ3, e3⟩ : ∃ m : Mem, m = mup μ2 96 0 175 := ⟨_, rfl⟩
  rw [← e3]
  have hv0_5_3 : μ3 0 5 = 32 := by rw [e3, mup_ap, if_neg (by decide)]; exact hv0_5_2
  have hv0_8_3 : μ3 0 8 = 96 := by rw [e3, mup_ap, if_neg (by decide)]; exact hv0_8_2
  refine WP_iinc (L' := [(2, 0), (0, 1)]) dX9_init_219 rfl (by decide) ⟨by decide, by decide⟩ rfl ?_
  refine WP_goto (tgt := 201) dX9_init_222 (by decide) ?_
  refine WP_iload_n dX9_init_201 rfl rfl ?_
  refine WP_iconst dX9_init_202 (by decide) ?_
  refine WP_icmp_ge (tgt := 225) dX9_init_203 (by decide) (fun q => absurd q (by decide)) (fun _ => ?_)
  refine WP_aload_n dX9_init_206 rfl rfl ⟨Nat.le_of_ble_eq_true rfl, Nat.le_of_ble_eq_true rfl⟩ ?_
  refine WP_getfield (ci := 9) (j := 8) (n := 20) (t := 2) (x := 96) dX9_init_207 f_X9_47 (kd_app (kd_app h0)) rfl hv0_8_3 ?_
  refine WP_iload_n dX9_init_210 rfl rfl ?_
  refine WN_new (ci := 8) (n := 4) (b := 177) (by simp only [List.length_append, List.length_cons, List.length_nil, oX8]; omega) dX9_init_211 rfl rfl cl_X9_45 in_RX8 ini_RX8 (by decide) (Nat.le_of_ble_eq_true rfl) (Nat.le_of_ble_eq_true rfl) (fun k4 μ4 e4 => ?_)
  have hv0_5_4 : μ4 0 5 = 32 := by rw [e4]; show (if (0 : Int) = 177 then _ else _) = _; rw [if_neg (by decide)]; exact hv0_5_3
  have hv0_8_4 : μ4 0 8 = 96 := by rw [e4]; show (if (0 : Int) = 177 then _ else _) = _; rw [if_neg (by decide)]; exact hv0_8_3
  refine WP_dup dX9_init_214 (by simp) ?_
  have hK : (((K ++ [(38, 4)]) ++ oX8) ++ [(38, 4)]) = K ++ oX9_6 := by simp only [oX9_6, oX8, List.append_assoc, List.cons_append, List.nil_append, List.append_nil]
  show WP mX9_init (RM d 182 13917) Z (TN (((K ++ [(38, 4)]) ++ oX8) ++ [(38, 4)]) sc) 177 13789 215 [(2, 0), (0, 1)] [(2, 177), (2, 177), (0, 1), (2, 96)] μ4
  rw [hK]
  exact k μ4 (by rw [e4, e3, e2, e1]; first | done | rfl) (by rw [← hK]; exact (by simp only [List.length_append, List.length_cons, List.length_nil, oX8]; omega)) (by rw [← hK]; exact (kd_app (kd_app (kd_app h0)))) (by rw [← hK]; exact k4) (by rw [← hK]; exact (kd_app (kd_app (kd_app h96)))) (by rw [← hK]; exact (kd_app (kd_app (kd_app h32)))) hv0_5_4 hv0_8_4

def oX9_7 : List (Nat × Nat) := [(1, 40), (38, 4), (1, 40)]
def cX9_7 (μ : Mem) : Mem :=
  let μ1 : Mem := cX8 (177) (178) μ
  let μ2 : Mem := mup μ1 96 1 177
  let μ3 : Mem := fun c j => if c = 179 then (if 0 ≤ j then dfl 8 j.toNat else 0) else μ2 c j
  let μ4 : Mem := cX8 (179) (180) μ3
  let μ5 : Mem := mup μ4 96 2 179
  μ5
theorem cX9_7_fr {μ : Mem} {c j : Int} (h1 : c ≠ 0) (h2 : c < 1) : cX9_7 μ c j = μ c j := by
  simp only [cX9_7, mup_ap]
  repeat (first | rw [if_neg (by omega)] | rw [cX8_fr (by omega) (by omega) (by omega)])
theorem kq_X9_7 {d : Nat} {sc : SC} {Z : ZT} {K : List (Nat × Nat)} {μ : Mem} (hd : 3 ≤ d) (hb : (178 : Int) = (K.length : Int)) (h0 : kd (TN K sc) 0 = some (39, 20)) (h177 : kd (TN K sc) 177 = some (38, 4)) (h96 : kd (TN K sc) 96 = some (18, 4)) (h32 : kd (TN K sc) 32 = some (11, 2)) (hv0_5_0 : μ 0 5 = 32) (hv0_8_0 : μ 0 8 = 96) (k : ∀ μ' : Mem, μ' = cX9_7 μ → (181 : Int) = (((K ++ oX9_7) : List (Nat × Nat)).length : Int) → kd (TN (K ++ oX9_7) sc) 0 = some (39, 20) → kd (TN (K ++ oX9_7) sc) 32 = some (11, 2) → kd (TN (K ++ oX9_7) sc) 96 = some (18, 4) → μ' 0 5 = 32 → μ' 0 8 = 96 → WP mX9_init (RM d 182 13917) Z (TN (K ++ oX9_7) sc) 180 13873 201 [(2, 0), (0, 3)] [] μ') : WP mX9_init (RM d 182 13917) Z (TN K sc) 177 13789 215 [(2, 0), (0, 1)] [(2, 177), (2, 177), (0, 1), (2, 96)] μ := by
  refine WP_invIN (md := mX9_init) (d' := 1) (v := (2, 177)) (as := []) (mc := 1) (ms := 40) dX9_init_215 l_X9_99 mw_X8_init rfl rfl mi_X8_init mo_X8_init ⟨rfl, by show 0 ≤ 177; omega⟩ ⟨by show _ ≤ d; omega, by show _ ≤ 64 * d; omega⟩ (Nat.le_of_ble_eq_true rfl) ⟨Nat.le_of_ble_eq_true rfl, Nat.le_of_ble_eq_true rfl⟩ (kc_X8 (b := 178) (by decide) hb ⟨by omega, by omega⟩ h177) ?_
  rintro _ _ μ1 ⟨rfl, rfl, e1⟩
  have hv0_5_1 : μ1 0 5 = 32 := by rw [e1]; exact (cX8_fr (by decide) (by decide) (by decide)).trans hv0_5_0
  have hv0_8_1 : μ1 0 8 = 96 := by rw [e1]; exact (cX8_fr (by decide) (by decide) (by decide)).trans hv0_8_0
  refine WP_aastore (ci := 8) dX9_init_218 (kd_app h96) (by decide) (kd_app h177) ⟨by decide, by decide⟩ ?_
  obtain ⟨μ2, e2⟩ : ∃ m : Mem, m = mup μ1 96 1 177 := ⟨_, rfl⟩
  rw [← e2]
  have hv0_5_2 : μ2 0 5 = 32 := by rw [e2, mup_ap, if_neg (by decide)]; exact hv0_5_1
  have hv0_8_2 : μ2 0 8 = 96 := by rw [e2, mup_ap, if_neg (by decide)]; exact hv0_8_1
  refine WP_iinc (L' := [(2, 0), (0, 2)]) dX9_init_219 rfl (by decide) ⟨by decide, by decide⟩ rfl ?_
  refine WP_goto (tgt := 201) dX9_init_222 (by decide) ?_
  refine WP_iload_n dX9_init_201 rfl rfl ?_
  refine WP_iconst dX9_init_202 (by decide) ?_
  refine WP_icmp_ge (tgt := 225) dX9_init_203 (by decide) (fun q => absurd q (by decide)) (fun _ => ?_)
  refine WP_aload_n dX9_init_206 rfl rfl ⟨Nat.le_of_ble_eq_true rfl, Nat.le_of_ble_eq_true rfl⟩ ?_
  refine WP_getfield (ci := 9) (j := 8) (n := 20) (t := 2) (x := 96) dX9_init_207 f_X9_47 (kd_app h0) rfl hv0_8_2 ?_
  refine WP_iload_n dX9_init_210 rfl rfl ?_
  refine WN_new (ci := 8) (n := 4) (b := 179) (by simp only [List.length_append, List.length_cons, List.length_nil, oX8]; omega) dX9_init_211 rfl rfl cl_X9_45 in_RX8 ini_RX8 (by decide) (Nat.le_of_ble_eq_true rfl) (Nat.le_of_ble_eq_true rfl) (fun k3 μ3 e3 => ?_)
  have hv0_5_3 : μ3 0 5 = 32 := by rw [e3]; show (if (0 : Int) = 179 then _ else _) = _; rw [if_neg (by decide)]; exact hv0_5_2
  have hv0_8_3 : μ3 0 8 = 96 := by rw [e3]; show (if (0 : Int) = 179 then _ else _) = _; rw [if_neg (by decide)]; exact hv0_8_2
  refine WP_dup dX9_init_214 (by simp) ?_
  refine WP_invIN (md := mX9_init) (d' := 1) (v := (2, 179)) (as := []) (mc := 1) (ms := 40) dX9_init_215 l_X9_99 mw_X8_init rfl rfl mi_X8_init mo_X8_init ⟨rfl, by show 0 ≤ 179; omega⟩ ⟨by show _ ≤ d; omega, by show _ ≤ 64 * d; omega⟩ (Nat.le_of_ble_eq_true rfl) ⟨Nat.le_of_ble_eq_true rfl, Nat.le_of_ble_eq_true rfl⟩ (kc_X8 (b := 180) (by decide) (by simp only [List.length_append, List.length_cons, List.length_nil, oX8]; omega) ⟨by omega, by omega⟩ k3) ?_
  rintro _ _ μ4 ⟨rfl, rfl, e4⟩
  have hv0_5_4 : μ4 0 5 = 32 := by rw [e4]; exact (cX8_fr (by decide) (by decide) (by decide)).trans hv0_5_3
  have hv0_8_4 : μ4 0 8 = 96 := by rw [e4]; exact (cX8_fr (by decide) (by decide) (by decide)).trans hv0_8_3
  refine WP_aastore (ci := 8) dX9_init_218 (kd_app (kd_app (kd_app h96))) (by decide) (kd_app k3) ⟨by decide, by decide⟩ ?_
  obtain ⟨μ5, e5⟩ : ∃ m : Mem, m = mup μ4 96 2 179 := ⟨_, rfl⟩
  rw [← e5]
  have hv0_5_5 : μ5 0 5 = 32 := by rw [e5, mup_ap, if_neg (by decide)]; exact hv0_5_4
  have hv0_8_5 : μ5 0 8 = 96 := by rw [e5, mup_ap, if_neg (by decide)]; exact hv0_8_4
  refine WP_iinc (L' := [(2, 0), (0, 3)]) dX9_init_219 rfl (by decide) ⟨by decide, by decide⟩ rfl ?_
  refine WP_goto (tgt := 201) dX9_init_222 (by decide) ?_
  have hK : (((K ++ oX8) ++ [(38, 4)]) ++ oX8) = K ++ oX9_7 := by simp only [oX9_7, oX8, List.append_assoc, List.cons_append, List.nil_append, List.append_nil]
  show WP mX9_init (RM d 182 13917) Z (TN (((K ++ oX8) ++ [(38, 4)]) ++ oX8) sc) 180 13873 201 [(2, 0), (0, 3)] [] μ5
  rw [hK]
  exact k μ5 (by rw [e5, e4, e3, e2, e1]; first | done | rfl) (by rw [← hK]; exact (by simp only [List.length_append, List.length_cons, List.length_nil, oX8]; omega)) (by rw [← hK]; exact (kd_app (kd_app (kd_app h0)))) (by rw [← hK]; exact (kd_app (kd_app (kd_app h32)))) (by rw [← hK]; exact (kd_app (kd_app (kd_app h96)))) hv0_5_5 hv0_8_5

def oX9_8 : List (Nat × Nat) := [(38, 4), (1, 40)]
def cX9_8 (μ : Mem) : Mem :=
  let μ1 : Mem := fun c j => if c = 181 then (if 0 ≤ j then dfl 8 j.toNat else 0) else μ c j
  let μ2 : Mem := cX8 (181) (182) μ1
  let μ3 : Mem := mup μ2 96 3 181
  μ3
theorem cX9_8_fr {μ : Mem} {c j : Int} (h1 : c ≠ 0) (h2 : c < 1) : cX9_8 μ c j = μ c j := by
  simp only [cX9_8, mup_ap]
  repeat (first | rw [if_neg (by omega)] | rw [cX8_fr (by omega) (by omega) (by omega)])
theorem kq_X9_8 {d : Nat} {sc : SC} {Z : ZT} {K : List (Nat × Nat)} {μ : Mem} (hd : 3 ≤ d) (hb : (181 : Int) = (K.length : Int)) (h0 : kd (TN K sc) 0 = some (39, 20)) (h32 : kd (TN K sc) 32 = some (11, 2)) (h96 : kd (TN K sc) 96 = some (18, 4)) (hv0_5_0 : μ 0 5 = 32) (hv0_8_0 : μ 0 8 = 96) (k : ∀ μ' : Mem, μ' = cX9_8 μ → (183 : Int) = (((K ++ oX9_8) : List (Nat × Nat)).length : Int) → kd (TN (K ++ oX9_8) sc) 0 = some (39, 20) → kd (TN (K ++ oX9_8) sc) 32 = some (11, 2) → kd (TN (K ++ oX9_8) sc) 96 = some (18, 4) → μ' 0 5 = 32 → μ' 0 8 = 96 → WP mX9_init (RM d 182 13917) Z (TN (K ++ oX9_8) sc) 182 13917 225 [(2, 0), (0, 4)] [] μ') : WP mX9_init (RM d 182 13917) Z (TN K sc) 180 13873 201 [(2, 0), (0, 3)] [] μ := by
  refine WP_iload_n dX9_init_201 rfl rfl ?_
  refine WP_iconst dX9_init_202 (by decide) ?_
  refine WP_icmp_ge (tgt := 225) dX9_init_203 (by decide) (fun q => absurd q (by decide)) (fun _ => ?_)
  refine WP_aload_n dX9_init_206 rfl rfl ⟨Nat.le_of_ble_eq_true rfl, Nat.le_of_ble_eq_true rfl⟩ ?_
  refine WP_getfield (ci := 9) (j := 8) (n := 20) (t := 2) (x := 96) dX9_init_207 f_X9_47 h0 rfl hv0_8_0 ?_
  refine WP_iload_n dX9_init_210 rfl rfl ?_
  refine WN_new (ci := 8) (n := 4) (b := 181) hb dX9_init_211 rfl rfl cl_X9_45 in_RX8 ini_RX8 (by decide) (Nat.le_of_ble_eq_true rfl) (Nat.le_of_ble_eq_true rfl) (fun k1 μ1 e1 => ?_)
  have hv0_5_1 : μ1 0 5 = 32 := by rw [e1]; show (if (0 : Int) = 181 then _ else _) = _; rw [if_neg (by decide)]; exact hv0_5_0
  have hv0_8_1 : μ1 0 8 = 96 := by rw [e1]; show (if (0 : Int) = 181 then _ else _) = _; rw [if_neg (by decide)]; exact hv0_8_0
  refine WP_dup dX9_init_214 (by simp) ?_
  refine WP_invIN (md := mX9_init) (d' := 1) (v := (2, 181)) (as := []) (mc := 1) (ms := 40) dX9_init_215 l_X9_99 mw_X8_init rfl rfl mi_X8_init mo_X8_init ⟨rfl, by show 0 ≤ 181; omega⟩ ⟨by show _ ≤ d; omega, by show _ ≤ 64 * d; omega⟩ (Nat.le_of_ble_eq_true rfl) ⟨Nat.le_of_ble_eq_true rfl, Nat.le_of_ble_eq_true rfl⟩ (kc_X8 (b := 182) (by decide) (by simp only [List.length_append, List.length_cons, List.length_nil]; omega) ⟨by omega, by omega⟩ k1) ?_
  rintro _ _ μ2 ⟨rfl, rfl, e2⟩
  have hv0_5_2 : μ2 0 5 = 32 := by rw [e2]; exact (cX8_fr (by decide) (by decide) (by decide)).trans hv0_5_1
  have hv0_8_2 : μ2 0 8 = 96 := by rw [e2]; exact (cX8_fr (by decide) (by decide) (by decide)).trans hv0_8_1
  refine WP_aastore (ci := 8) dX9_init_218 (kd_app (kd_app h96)) (by decide) (kd_app k1) ⟨by decide, by decide⟩ ?_
  obtain ⟨μ3, e3⟩ : ∃ m : Mem, m = mup μ2 96 3 181 := ⟨_, rfl⟩
  rw [← e3]
  have hv0_5_3 : μ3 0 5 = 32 := by rw [e3, mup_ap, if_neg (by decide)]; exact hv0_5_2
  have hv0_8_3 : μ3 0 8 = 96 := by rw [e3, mup_ap, if_neg (by decide)]; exact hv0_8_2
  refine WP_iinc (L' := [(2, 0), (0, 4)]) dX9_init_219 rfl (by decide) ⟨by decide, by decide⟩ rfl ?_
  refine WP_goto (tgt := 201) dX9_init_222 (by decide) ?_
  refine WP_iload_n dX9_init_201 rfl rfl ?_
  refine WP_iconst dX9_init_202 (by decide) ?_
  refine WP_icmp_ge (tgt := 225) dX9_init_203 (by decide) (fun _ => ?_) (fun q => absurd (by decide) q)
  have hK : ((K ++ [(38, 4)]) ++ oX8) = K ++ oX9_8 := by simp only [oX9_8, oX8, List.append_assoc, List.cons_append, List.nil_append, List.append_nil]
  show WP mX9_init (RM d 182 13917) Z (TN ((K ++ [(38, 4)]) ++ oX8) sc) 182 13917 225 [(2, 0), (0, 4)] [] μ3
  rw [hK]
  exact k μ3 (by rw [e3, e2, e1]; first | done | rfl) (by rw [← hK]; exact (by simp only [List.length_append, List.length_cons, List.length_nil, oX8]; omega)) (by rw [← hK]; exact (kd_app (kd_app h0))) (by rw [← hK]; exact (kd_app (kd_app h32))) (by rw [← hK]; exact (kd_app (kd_app h96))) hv0_5_3 hv0_8_3

def oX9 : List (Nat × Nat) := [(4, 900), (31, 11), (0, 6), (0, 6), (0, 6), (0, 900), (0, 3), (0, 3), (36, 7), (0, 10), (0, 10), (0, 10), (0, 10), (0, 6), (31, 11), (0, 6), (0, 6), (0, 6), (0, 900), (0, 3), (0, 3), (36, 7), (0, 10), (0, 10), (0, 10), (0, 10), (0, 6), (37, 11), (0, 901), (0, 901), (0, 901), (11, 2), (5, 2), (35, 2), (16, 10), (36, 7), (0, 10), (0, 10), (0, 10), (0, 10), (0, 6), (36, 7), (0, 10), (0, 10), (0, 10), (0, 10), (0, 6), (36, 7), (0, 10), (0, 10), (0, 10), (0, 10), (0, 6), (36, 7), (0, 10), (0, 10), (0, 10), (0, 10), (0, 6), (36, 7), (0, 10), (0, 10), (0, 10), (0, 10), (0, 6), (36, 7), (0, 10), (0, 10), (0, 10), (0, 10), (0, 6), (36, 7), (0, 10), (0, 10), (0, 10), (0, 10), (0, 6), (36, 7), (0, 10), (0, 10), (0, 10), (0, 10), (0, 6), (36, 7), (0, 10), (0, 10), (0, 10), (0, 10), (0, 6), (36, 7), (0, 10), (0, 10), (0, 10), (0, 10), (0, 6), (18, 4), (33, 9), (0, 36), (0, 36), (0, 36), (0, 9), (0, 64), (1, 72), (1, 72), (30, 16), (0, 512), (0, 512), (0, 6), (0, 6), (0, 10), (0, 100), (0, 10), (0, 100), (0, 100), (0, 512), (0, 512), (34, 4), (1, 6), (1, 6), (32, 11), (36, 7), (0, 10), (0, 10), (0, 10), (0, 10), (0, 6), (33, 9), (0, 36), (0, 36), (0, 36), (0, 9), (0, 64), (1, 72), (1, 72), (30, 16), (0, 512), (0, 512), (0, 6), (0, 6), (0, 10), (0, 100), (0, 10), (0, 100), (0, 100), (0, 512), (0, 512), (0, 64), (0, 21), (31, 11), (0, 6), (0, 6), (0, 6), (0, 900), (0, 3), (0, 3), (36, 7), (0, 10), (0, 10), (0, 10), (0, 10), (0, 6), (31, 11), (0, 6), (0, 6), (0, 6), (0, 900), (0, 3), (0, 3), (36, 7), (0, 10), (0, 10), (0, 10), (0, 10), (0, 6), (38, 4), (1, 40), (38, 4), (1, 40), (38, 4), (1, 40), (38, 4), (1, 40)]
def cX9 (μ : Mem) : Mem := (cX9_8 (cX9_7 (cX9_6 (cX9_5 (cX9_4 (cX9_3 (cX9_2 (cX9_1 (cX9_0 μ)))))))))
theorem cX9_fr {μ : Mem} {c j : Int} (h1 : c ≠ 0) (h2 : c < 1) : cX9 μ c j = μ c j := by
  unfold cX9
  rw [cX9_8_fr h1 h2, cX9_7_fr h1 h2, cX9_6_fr h1 h2, cX9_5_fr h1 h2, cX9_4_fr h1 h2, cX9_3_fr h1 h2, cX9_2_fr h1 h2, cX9_1_fr h1 h2, cX9_0_fr h1 h2]
theorem kc_X9 {d : Nat} {sc : SC} {K : List (Nat × Nat)} {μ : Mem} (hd : 3 ≤ d) (hb : (1 : Int) = (K.length : Int)) (hk : kd (TN K sc) 0 = some (39, 20)) : CT mX9_init d 182 13917 (TN K sc) [(2, 0)] μ (fun r K' μ' => r = none ∧ K' = K ++ oX9 ∧ μ' = cX9 μ) := by
  refine CT_of mp_X9_init (Nat.le_of_ble_eq_true rfl) ?_
  refine kq_X9_0 hd hb hk (fun μ0 e0 b0 q0_0 q0_1 q0_2 q0_3 => ?_)
  refine kq_X9_1 hd b0 q0_0 q0_1 q0_2 q0_3 (fun μ1 e1 b1 q1_0 q1_1 q1_2 q1_3 q1_4 q1_5 => ?_)
  refine kq_X9_2 hd b1 q1_0 q1_1 q1_2 q1_3 q1_4 q1_5 (fun μ2 e2 b2 q2_0 q2_1 q2_2 q2_3 q2_4 => ?_)
  refine kq_X9_3 hd b2 q2_0 q2_1 q2_2 q2_3 q2_4 (fun μ3 e3 b3 q3_0 q3_1 q3_2 q3_3 q3_4 q3_5 => ?_)
  refine kq_X9_4 hd b3 q3_0 q3_1 q3_2 q3_3 q3_4 q3_5 (fun μ4 e4 b4 q4_0 q4_1 q4_2 q4_3 q4_4 q4_5 => ?_)
  refine kq_X9_5 hd b4 q4_0 q4_1 q4_2 q4_3 q4_4 q4_5 (fun μ5 e5 b5 q5_0 q5_1 q5_2 q5_3 q5_4 => ?_)
  refine kq_X9_6 hd b5 q5_0 q5_1 q5_2 q5_3 q5_4 (fun μ6 e6 b6 q6_0 q6_1 q6_2 q6_3 q6_4 q6_5 => ?_)
  refine kq_X9_7 hd b6 q6_0 q6_1 q6_2 q6_3 q6_4 q6_5 (fun μ7 e7 b7 q7_0 q7_1 q7_2 q7_3 q7_4 => ?_)
  refine kq_X9_8 hd b7 q7_0 q7_1 q7_2 q7_3 q7_4 (fun μ8 e8 b8 q8_0 q8_1 q8_2 q8_3 q8_4 => ?_)
  refine WP_return dX9_init_225 rfl ⟨rfl, ?_, ?_⟩
  · show (((((((((K ++ oX9_0) ++ oX9_1) ++ oX9_2) ++ oX9_3) ++ oX9_4) ++ oX9_5) ++ oX9_6) ++ oX9_7) ++ oX9_8) = K ++ oX9
    simp only [List.append_assoc]
    exact congrArg (fun l => K ++ l) (by decide +kernel)
  · show μ8 = cX9 μ
    rw [e8, e7, e6, e5, e4, e3, e2, e1, e0]; first | done | rfl

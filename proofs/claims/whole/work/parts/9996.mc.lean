def oX10_0 : List (Nat × Nat) := [(0, 4119), (5, 2), (0, 900), (0, 1373), (0, 900)]
def cX10_0 (μ : Mem) : Mem :=
  let μ1 : Mem := fun c j => if c = 184 then 0 else μ c j
  let μ2 : Mem := mup μ1 (183) 1 (184)
  let μ3 : Mem := fun c j => if c = 185 then 0 else μ2 c j
  let μ4 : Mem := mup μ3 (183) 2 (185)
  let μ5 : Mem := fun c j => if c = 186 then 0 else μ4 c j
  let μ6 : Mem := mup μ5 (183) 3 (186)
  let μ7 : Mem := fun c j => if c = 187 then 0 else μ6 c j
  let μ8 : Mem := mup μ7 (183) 4 (187)
  let μ9 : Mem := mup μ8 (183) 14 (-1)
  let μ10 : Mem := fun c j => if c = 188 then 0 else μ9 c j
  μ10
theorem cX10_0_fr {μ : Mem} {c j : Int} (h1 : c ≠ 183) (h2 : c < 184) : cX10_0 μ c j = μ c j := by
  simp only [cX10_0, mup_ap]
  repeat (first | rw [if_neg (by omega)] | rw [mup_ap])
theorem kq_X10_0 {d : Nat} {sc : SC} {Z : ZT} {K : List (Nat × Nat)} {μ : Mem} (hd : 2 ≤ d) (hb : (184 : Int) = (K.length : Int)) (h183 : kd (TN K sc) 183 = some (40, 49)) (k : ∀ μ' : Mem, μ' = cX10_0 μ → (189 : Int) = (((K ++ oX10_0) : List (Nat × Nat)).length : Int) → kd (TN (K ++ oX10_0) sc) 183 = some (40, 49) → kd (TN (K ++ oX10_0) sc) 188 = some (0, 900) → kd (TN (K ++ oX10_0) sc) 184 = some (0, 4119) → μ' 183 1 = 184 → WP mX10_init (RM d 28 65666) Z (TN (K ++ oX10_0) sc) 5 7294 49 [(2, 183)] [(2, 188), (2, 183)] μ') : WP mX10_init (RM d 28 65666) Z (TN K sc) 0 0 0 [(2, 183)] [] μ := by
  refine WP_aload_n dX10_init_0 rfl rfl ⟨Nat.le_of_ble_eq_true rfl, Nat.le_of_ble_eq_true rfl⟩ ?_
  refine WP_objInit dX10_init_1 ⟨rfl, by decide⟩ l_X10_7 oi_inst oi_code ⟨by show 1 ≤ d; omega, by show 20 ≤ 64 * d; omega⟩ (Nat.le_of_ble_eq_true rfl) ?_
  refine WP_aload_n dX10_init_4 rfl rfl ⟨Nat.le_of_ble_eq_true rfl, Nat.le_of_ble_eq_true rfl⟩ ?_
  refine WP_sipush dX10_init_5 (by decide +kernel) (by decide) ?_
  refine WN_newarray (e := 0) (n := 4119) (b := 184) hb dX10_init_8 rfl (by decide) ac_0 (by decide) (Nat.le_of_ble_eq_true rfl) (Nat.le_of_ble_eq_true rfl) (fun k1 μ1 e1 => ?_)
  refine WN_put (n := 49) dX10_init_10 f_X10_13 (kd_app h183) (fun r hr => by cases hr; first | exact Or.inl rfl | exact Or.inr ⟨rfl, rfl, rfl⟩) rfl rfl (fun h => absurd h (by decide)) (fun μ2 e2 => ?_)
  have hv183_1_2 : μ2 183 1 = 184 := by rw [e2]; exact mup_at _ _ _ _
  refine WP_aload_n dX10_init_13 rfl rfl ⟨Nat.le_of_ble_eq_true rfl, Nat.le_of_ble_eq_true rfl⟩ ?_
  refine WP_iconst dX10_init_14 (by decide) ?_
  refine WN_newarray (e := 5) (n := 2) (b := 185) (by simp only [List.length_append, List.length_cons, List.length_nil]; omega) dX10_init_15 rfl (by decide) ac_5 (by decide) (Nat.le_of_ble_eq_true rfl) (Nat.le_of_ble_eq_true rfl) (fun k3 μ3 e3 => ?_)
  have hv183_1_3 : μ3 183 1 = 184 := by rw [e3]; show (if (183 : Int) = 185 then _ else _) = _; rw [if_neg (by decide)]; exact hv183_1_2
  refine WN_put (n := 49) dX10_init_17 f_X10_17 (kd_app (kd_app h183)) (fun r hr => by cases hr; first | exact Or.inl rfl | exact Or.inr ⟨rfl, rfl, rfl⟩) rfl rfl (fun h => absurd h (by decide)) (fun μ4 e4 => ?_)
  have hv183_1_4 : μ4 183 1 = 184 := by rw [e4, mup_ap, if_neg (by decide)]; exact hv183_1_3
  refine WP_aload_n dX10_init_20 rfl rfl ⟨Nat.le_of_ble_eq_true rfl, Nat.le_of_ble_eq_true rfl⟩ ?_
  refine WP_sipush dX10_init_21 (by decide +kernel) (by decide) ?_
  refine WN_newarray (e := 0) (n := 900) (b := 186) (by simp only [List.length_append, List.length_cons, List.length_nil]; omega) dX10_init_24 rfl (by decide) ac_0 (by decide) (Nat.le_of_ble_eq_true rfl) (Nat.le_of_ble_eq_true rfl) (fun k5 μ5 e5 => ?_)
  have hv183_1_5 : μ5 183 1 = 184 := by rw [e5]; show (if (183 : Int) = 186 then _ else _) = _; rw [if_neg (by decide)]; exact hv183_1_4
  refine WN_put (n := 49) dX10_init_26 f_X10_21 (kd_app (kd_app (kd_app h183))) (fun r hr => by cases hr; first | exact Or.inl rfl | exact Or.inr ⟨rfl, rfl, rfl⟩) rfl rfl (fun h => absurd h (by decide)) (fun μ6 e6 => ?_)
  have hv183_1_6 : μ6 183 1 = 184 := by rw [e6, mup_ap, if_neg (by decide)]; exact hv183_1_5
  refine WP_aload_n dX10_init_29 rfl rfl ⟨Nat.le_of_ble_eq_true rfl, Nat.le_of_ble_eq_true rfl⟩ ?_
  refine WP_sipush dX10_init_30 (by decide +kernel) (by decide) ?_
  refine WN_newarray (e := 0) (n := 1373) (b := 187) (by simp only [List.length_append, List.length_cons, List.length_nil]; omega) dX10_init_33 rfl (by decide) ac_0 (by decide) (Nat.le_of_ble_eq_true rfl) (Nat.le_of_ble_eq_true rfl) (fun k7 μ7 e7 => ?_)
  have hv183_1_7 : μ7 183 1 = 184 := by rw [e7]; show (if (183 : Int) = 187 then _ else _) = _; rw [if_neg (by decide)]; exact hv183_1_6
  refine WN_put (n := 49) dX10_init_35 f_X10_24 (kd_app (kd_app (kd_app (kd_app h183)))) (fun r hr => by cases hr; first | exact Or.inl rfl | exact Or.inr ⟨rfl, rfl, rfl⟩) rfl rfl (fun h => absurd h (by decide)) (fun μ8 e8 => ?_)
  have hv183_1_8 : μ8 183 1 = 184 := by rw [e8, mup_ap, if_neg (by decide)]; exact hv183_1_7
  refine WP_aload_n dX10_init_38 rfl rfl ⟨Nat.le_of_ble_eq_true rfl, Nat.le_of_ble_eq_true rfl⟩ ?_
  refine WP_iconst dX10_init_39 (by decide) ?_
  refine WN_put (n := 49) dX10_init_40 f_X10_27 (kd_app (kd_app (kd_app (kd_app h183)))) (fun r hr => by cases hr; first | exact Or.inl rfl | exact Or.inr ⟨rfl, rfl, rfl⟩) rfl rfl (fun h => absurd h (by decide)) (fun μ9 e9 => ?_)
  have hv183_1_9 : μ9 183 1 = 184 := by rw [e9, mup_ap, if_neg (by decide)]; exact hv183_1_8
  refine WP_aload_n dX10_init_43 rfl rfl ⟨Nat.le_of_ble_eq_true rfl, Nat.le_of_ble_eq_true rfl⟩ ?_
  refine WP_sipush dX10_init_44 (by decide +kernel) (by decide) ?_
  refine WN_newarray (e := 0) (n := 900) (b := 188) (by simp only [List.length_append, List.length_cons, List.length_nil]; omega) dX10_init_47 rfl (by decide) ac_0 (by decide) (Nat.le_of_ble_eq_true rfl) (Nat.le_of_ble_eq_true rfl) (fun k10 μ10 e10 => ?_)
  have hv183_1_10 : μ10 183 1 = 184 := by rw [e10]; show (if (183 : Int) = 188 then _ else _) = _; rw [if_neg (by decide)]; exact hv183_1_9
  have hK : (((((K ++ [(0, 4119)]) ++ [(5, 2)]) ++ [(0, 900)]) ++ [(0, 1373)]) ++ [(0, 900)]) = K ++ oX10_0 := by simp only [oX10_0, List.append_assoc, List.cons_append, List.nil_append, List.append_nil]
  show WP mX10_init (RM d 28 65666) Z (TN (((((K ++ [(0, 4119)]) ++ [(5, 2)]) ++ [(0, 900)]) ++ [(0, 1373)]) ++ [(0, 900)]) sc) 5 7294 49 [(2, 183)] [(2, 188), (2, 183)] μ10
  rw [hK]
  exact k μ10 (by rw [e10, e9, e8, e7, e6, e5, e4, e3, e2, e1]; first | done | rfl) (by rw [← hK]; exact (by simp only [List.length_append, List.length_cons, List.length_nil]; omega)) (by rw [← hK]; exact (kd_app (kd_app (kd_app (kd_app (kd_app h183)))))) (by rw [← hK]; exact k10) (by rw [← hK]; exact (kd_app (kd_app (kd_app (kd_app k1))))) hv183_1_10

def oX10_1 : List (Nat × Nat) := [(0, 9), (0, 54000), (0, 10), (0, 10), (0, 10)]
def cX10_1 (μ : Mem) : Mem :=
  let μ1 : Mem := mup μ (183) 16 (188)
  let μ2 : Mem := fun c j => if c = 189 then 0 else μ1 c j
  let μ3 : Mem := mup μ2 (183) 17 (189)
  let μ4 : Mem := fun c j => if c = 190 then 0 else μ3 c j
  let μ5 : Mem := mup μ4 (183) 18 (190)
  let μ6 : Mem := fun c j => if c = 191 then 0 else μ5 c j
  let μ7 : Mem := mup μ6 (183) 20 (191)
  let μ8 : Mem := fun c j => if c = 192 then 0 else μ7 c j
  let μ9 : Mem := mup μ8 (183) 21 (192)
  let μ10 : Mem := fun c j => if c = 193 then 0 else μ9 c j
  let μ11 : Mem := mup μ10 (183) 22 (193)
  μ11
theorem cX10_1_fr {μ : Mem} {c j : Int} (h1 : c ≠ 183) (h2 : c < 184) : cX10_1 μ c j = μ c j := by
  simp only [cX10_1, mup_ap]
  repeat (first | rw [if_neg (by omega)] | rw [mup_ap])
theorem kq_X10_1 {d : Nat} {sc : SC} {Z : ZT} {K : List (Nat × Nat)} {μ : Mem} (hd : 2 ≤ d) (hb : (189 : Int) = (K.length : Int)) (h183 : kd (TN K sc) 183 = some (40, 49)) (h188 : kd (TN K sc) 188 = some (0, 900)) (h184 : kd (TN K sc) 184 = some (0, 4119)) (hv183_1_0 : μ 183 1 = 184) (k : ∀ μ' : Mem, μ' = cX10_1 μ → (194 : Int) = (((K ++ oX10_1) : List (Nat × Nat)).length : Int) → kd (TN (K ++ oX10_1) sc) 183 = some (40, 49) → kd (TN (K ++ oX10_1) sc) 184 = some (0, 4119) → μ' 183 1 = 184 → WP mX10_init (RM d 28 65666) Z (TN (K ++ oX10_1) sc) 10 61333 92 [(2, 183)] [] μ') : WP mX10_init (RM d 28 65666) Z (TN K sc) 5 7294 49 [(2, 183)] [(2, 188), (2, 183)] μ := by
  refine WN_put (n := 49) dX10_init_49 f_X10_30 h183 (fun r hr => by cases hr; first | exact Or.inl rfl | exact Or.inr ⟨rfl, rfl, rfl⟩) rfl rfl (fun h => absurd h (by decide)) (fun μ1 e1 => ?_)
  have hv183_1_1 : μ1 183 1 = 184 := by rw [e1, mup_ap, if_neg (by decide)]; exact hv183_1_0
  refine WP_aload_n dX10_init_52 rfl rfl ⟨Nat.le_of_ble_eq_true rfl, Nat.le_of_ble_eq_true rfl⟩ ?_
  refine WP_bipush dX10_init_53 (by decide +kernel) (by decide) ?_
  refine WN_newarray (e := 0) (n := 9) (b := 189) hb dX10_init_55 rfl (by decide) ac_0 (by decide) (Nat.le_of_ble_eq_true rfl) (Nat.le_of_ble_eq_true rfl) (fun k2 μ2 e2 => ?_)
  have hv183_1_2 : μ2 183 1 = 184 := by rw [e2]; show (if (183 : Int) = 189 then _ else _) = _; rw [if_neg (by decide)]; exact hv183_1_1
  refine WN_put (n := 49) dX10_init_57 f_X10_33 (kd_app h183) (fun r hr => by cases hr; first | exact Or.inl rfl | exact Or.inr ⟨rfl, rfl, rfl⟩) rfl rfl (fun h => absurd h (by decide)) (fun μ3 e3 => ?_)
  have hv183_1_3 : μ3 183 1 = 184 := by rw [e3, mup_ap, if_neg (by decide)]; exact hv183_1_2
  refine WP_aload_n dX10_init_60 rfl rfl ⟨Nat.le_of_ble_eq_true rfl, Nat.le_of_ble_eq_true rfl⟩ ?_
  refine WP_ldc dX10_init_61 c_X10_36 (by decide) ?_
  refine WN_newarray (e := 0) (n := 54000) (b := 190) (by simp only [List.length_append, List.length_cons, List.length_nil]; omega) dX10_init_63 rfl (by decide) ac_0 (by decide) (Nat.le_of_ble_eq_true rfl) (Nat.le_of_ble_eq_true rfl) (fun k4 μ4 e4 => ?_)
  have hv183_1_4 : μ4 183 1 = 184 := by rw [e4]; show (if (183 : Int) = 190 then _ else _) = _; rw [if_neg (by decide)]; exact hv183_1_3
  refine WN_put (n := 49) dX10_init_65 f_X10_37 (kd_app (kd_app h183)) (fun r hr => by cases hr; first | exact Or.inl rfl | exact Or.inr ⟨rfl, rfl, rfl⟩) rfl rfl (fun h => absurd h (by decide)) (fun μ5 e5 => ?_)
  have hv183_1_5 : μ5 183 1 = 184 := by rw [e5, mup_ap, if_neg (by decide)]; exact hv183_1_4
  refine WP_aload_n dX10_init_68 rfl rfl ⟨Nat.le_of_ble_eq_true rfl, Nat.le_of_ble_eq_true rfl⟩ ?_
  refine WP_bipush dX10_init_69 (by decide +kernel) (by decide) ?_
  refine WN_newarray (e := 0) (n := 10) (b := 191) (by simp only [List.length_append, List.length_cons, List.length_nil]; omega) dX10_init_71 rfl (by decide) ac_0 (by decide) (Nat.le_of_ble_eq_true rfl) (Nat.le_of_ble_eq_true rfl) (fun k6 μ6 e6 => ?_)
  have hv183_1_6 : μ6 183 1 = 184 := by rw [e6]; show (if (183 : Int) = 191 then _ else _) = _; rw [if_neg (by decide)]; exact hv183_1_5
  refine WN_put (n := 49) dX10_init_73 f_X10_40 (kd_app (kd_app (kd_app h183))) (fun r hr => by cases hr; first | exact Or.inl rfl | exact Or.inr ⟨rfl, rfl, rfl⟩) rfl rfl (fun h => absurd h (by decide)) (fun μ7 e7 => ?_)
  have hv183_1_7 : μ7 183 1 = 184 := by rw [e7, mup_ap, if_neg (by decide)]; exact hv183_1_6
  refine WP_aload_n dX10_init_76 rfl rfl ⟨Nat.le_of_ble_eq_true rfl, Nat.le_of_ble_eq_true rfl⟩ ?_
  refine WP_bipush dX10_init_77 (by decide +kernel) (by decide) ?_
  refine WN_newarray (e := 0) (n := 10) (b := 192) (by simp only [List.length_append, List.length_cons, List.length_nil]; omega) dX10_init_79 rfl (by decide) ac_0 (by decide) (Nat.le_of_ble_eq_true rfl) (Nat.le_of_ble_eq_true rfl) (fun k8 μ8 e8 => ?_)
  have hv183_1_8 : μ8 183 1 = 184 := by rw [e8]; show (if (183 : Int) = 192 then _ else _) = _; rw [if_neg (by decide)]; exact hv183_1_7
  refine WN_put (n := 49) dX10_init_81 f_X10_43 (kd_app (kd_app (kd_app (kd_app h183)))) (fun r hr => by cases hr; first | exact Or.inl rfl | exact Or.inr ⟨rfl, rfl, rfl⟩) rfl rfl (fun h => absurd h (by decide)) (fun μ9 e9 => ?_)
  have hv183_1_9 : μ9 183 1 = 184 := by rw [e9, mup_ap, if_neg (by decide)]; exact hv183_1_8
  refine WP_aload_n dX10_init_84 rfl rfl ⟨Nat.le_of_ble_eq_true rfl, Nat.le_of_ble_eq_true rfl⟩ ?_
  refine WP_bipush dX10_init_85 (by decide +kernel) (by decide) ?_
  refine WN_newarray (e := 0) (n := 10) (b := 193) (by simp only [List.length_append, List.length_cons, List.length_nil]; omega) dX10_init_87 rfl (by decide) ac_0 (by decide) (Nat.le_of_ble_eq_true rfl) (Nat.le_of_ble_eq_true rfl) (fun k10 μ10 e10 => ?_)
  have hv183_1_10 : μ10 183 1 = 184 := by rw [e10]; show (if (183 : Int) = 193 then _ else _) = _; rw [if_neg (by decide)]; exact hv183_1_9
  refine WN_put (n := 49) dX10_init_89 f_X10_46 (kd_app (kd_app (kd_app (kd_app (kd_app h183))))) (fun r hr => by cases hr; first | exact Or.inl rfl | exact Or.inr ⟨rfl, rfl, rfl⟩) rfl rfl (fun h => absurd h (by decide)) (fun μ11 e11 => ?_)
  have hv183_1_11 : μ11 183 1 = 184 := by rw [e11, mup_ap, if_neg (by decide)]; exact hv183_1_10
  have hK : (((((K ++ [(0, 9)]) ++ [(0, 54000)]) ++ [(0, 10)]) ++ [(0, 10)]) ++ [(0, 10)]) = K ++ oX10_1 := by simp only [oX10_1, List.append_assoc, List.cons_append, List.nil_append, List.append_nil]
  show WP mX10_init (RM d 28 65666) Z (TN (((((K ++ [(0, 9)]) ++ [(0, 54000)]) ++ [(0, 10)]) ++ [(0, 10)]) ++ [(0, 10)]) sc) 10 61333 92 [(2, 183)] [] μ11
  rw [hK]
  exact k μ11 (by rw [e11, e10, e9, e8, e7, e6, e5, e4, e3, e2, e1]; first | done | rfl) (by rw [← hK]; exact (by simp only [List.length_append, List.length_cons, List.length_nil]; omega)) (by rw [← hK]; exact (kd_app (kd_app (kd_app (kd_app (kd_app h183)))))) (by rw [← hK]; exact (kd_app (kd_app (kd_app (kd_app (kd_app h184)))))) hv183_1_11

def oX10_2 : List (Nat × Nat) := [(0, 36), (0, 100), (0, 100), (0, 640), (0, 640)]
def cX10_2 (μ : Mem) : Mem :=
  let μ1 : Mem := fun c j => if c = 194 then 0 else μ c j
  let μ2 : Mem := mup μ1 (183) 23 (194)
  let μ3 : Mem := fun c j => if c = 195 then 0 else μ2 c j
  let μ4 : Mem := mup μ3 (183) 24 (195)
  let μ5 : Mem := fun c j => if c = 196 then 0 else μ4 c j
  let μ6 : Mem := mup μ5 (183) 25 (196)
  let μ7 : Mem := fun c j => if c = 197 then 0 else μ6 c j
  let μ8 : Mem := mup μ7 (183) 26 (197)
  let μ9 : Mem := fun c j => if c = 198 then 0 else μ8 c j
  let μ10 : Mem := mup μ9 (183) 27 (198)
  μ10
theorem cX10_2_fr {μ : Mem} {c j : Int} (h1 : c ≠ 183) (h2 : c < 184) : cX10_2 μ c j = μ c j := by
  simp only [cX10_2, mup_ap]
  repeat (first | rw [if_neg (by omega)] | rw [mup_ap])
theorem kq_X10_2 {d : Nat} {sc : SC} {Z : ZT} {K : List (Nat × Nat)} {μ : Mem} (hd : 2 ≤ d) (hb : (194 : Int) = (K.length : Int)) (h183 : kd (TN K sc) 183 = some (40, 49)) (h184 : kd (TN K sc) 184 = some (0, 4119)) (hv183_1_0 : μ 183 1 = 184) (k : ∀ μ' : Mem, μ' = cX10_2 μ → (199 : Int) = (((K ++ oX10_2) : List (Nat × Nat)).length : Int) → kd (TN (K ++ oX10_2) sc) 183 = some (40, 49) → kd (TN (K ++ oX10_2) sc) 184 = some (0, 4119) → μ' 183 1 = 184 → WP mX10_init (RM d 28 65666) Z (TN (K ++ oX10_2) sc) 15 62849 138 [(2, 183)] [(0, 640), (2, 183)] μ') : WP mX10_init (RM d 28 65666) Z (TN K sc) 10 61333 92 [(2, 183)] [] μ := by
  refine WP_aload_n dX10_init_92 rfl rfl ⟨Nat.le_of_ble_eq_true rfl, Nat.le_of_ble_eq_true rfl⟩ ?_
  refine WP_bipush dX10_init_93 (by decide +kernel) (by decide) ?_
  refine WN_newarray (e := 0) (n := 36) (b := 194) hb dX10_init_95 rfl (by decide) ac_0 (by decide) (Nat.le_of_ble_eq_true rfl) (Nat.le_of_ble_eq_true rfl) (fun k1 μ1 e1 => ?_)
  have hv183_1_1 : μ1 183 1 = 184 := by rw [e1]; show (if (183 : Int) = 194 then _ else _) = _; rw [if_neg (by decide)]; exact hv183_1_0
  refine WN_put (n := 49) dX10_init_97 f_X10_49 (kd_app h183) (fun r hr => by cases hr; first | exact Or.inl rfl | exact Or.inr ⟨rfl, rfl, rfl⟩) rfl rfl (fun h => absurd h (by decide)) (fun μ2 e2 => ?_)
  have hv183_1_2 : μ2 183 1 = 184 := by rw [e2, mup_ap, if_neg (by decide)]; exact hv183_1_1
  refine WP_aload_n dX10_init_100 rfl rfl ⟨Nat.le_of_ble_eq_true rfl, Nat.le_of_ble_eq_true rfl⟩ ?_
  refine WP_bipush dX10_init_101 (by decide +kernel) (by decide) ?_
  refine WN_newarray (e := 0) (n := 100) (b := 195) (by simp only [List.length_append, List.length_cons, List.length_nil]; omega) dX10_init_103 rfl (by decide) ac_0 (by decide) (Nat.le_of_ble_eq_true rfl) (Nat.le_of_ble_eq_true rfl) (fun k3 μ3 e3 => ?_)
  have hv183_1_3 : μ3 183 1 = 184 := by rw [e3]; show (if (183 : Int) = 195 then _ else _) = _; rw [if_neg (by decide)]; exact hv183_1_2
  refine WN_put (n := 49) dX10_init_105 f_X10_52 (kd_app (kd_app h183)) (fun r hr => by cases hr; first | exact Or.inl rfl | exact Or.inr ⟨rfl, rfl, rfl⟩) rfl rfl (fun h => absurd h (by decide)) (fun μ4 e4 => ?_)
  have hv183_1_4 : μ4 183 1 = 184 := by rw [e4, mup_ap, if_neg (by decide)]; exact hv183_1_3
  refine WP_aload_n dX10_init_108 rfl rfl ⟨Nat.le_of_ble_eq_true rfl, Nat.le_of_ble_eq_true rfl⟩ ?_
  refine WP_bipush dX10_init_109 (by decide +kernel) (by decide) ?_
  refine WN_newarray (e := 0) (n := 100) (b := 196) (by simp only [List.length_append, List.length_cons, List.length_nil]; omega) dX10_init_111 rfl (by decide) ac_0 (by decide) (Nat.le_of_ble_eq_true rfl) (Nat.le_of_ble_eq_true rfl) (fun k5 μ5 e5 => ?_)
  have hv183_1_5 : μ5 183 1 = 184 := by rw [e5]; show (if (183 : Int) = 196 then _ else _) = _; rw [if_neg (by decide)]; exact hv183_1_4
  refine WN_put (n := 49) dX10_init_113 f_X10_55 (kd_app (kd_app (kd_app h183))) (fun r hr => by cases hr; first | exact Or.inl rfl | exact Or.inr ⟨rfl, rfl, rfl⟩) rfl rfl (fun h => absurd h (by decide)) (fun μ6 e6 => ?_)
  have hv183_1_6 : μ6 183 1 = 184 := by rw [e6, mup_ap, if_neg (by decide)]; exact hv183_1_5
  refine WP_aload_n dX10_init_116 rfl rfl ⟨Nat.le_of_ble_eq_true rfl, Nat.le_of_ble_eq_true rfl⟩ ?_
  refine WP_sipush dX10_init_117 (by decide +kernel) (by decide) ?_
  refine WN_newarray (e := 0) (n := 640) (b := 197) (by simp only [List.length_append, List.length_cons, List.length_nil]; omega) dX10_init_120 rfl (by decide) ac_0 (by decide) (Nat.le_of_ble_eq_true rfl) (Nat.le_of_ble_eq_true rfl) (fun k7 μ7 e7 => ?_)
  have hv183_1_7 : μ7 183 1 = 184 := by rw [e7]; show (if (183 : Int) = 197 then _ else _) = _; rw [if_neg (by decide)]; exact hv183_1_6
  refine WN_put (n := 49) dX10_init_122 f_X10_58 (kd_app (kd_app (kd_app (kd_app h183)))) (fun r hr => by cases hr; first | exact Or.inl rfl | exact Or.inr ⟨rfl, rfl, rfl⟩) rfl rfl (fun h => absurd h (by decide)) (fun μ8 e8 => ?_)
  have hv183_1_8 : μ8 183 1 = 184 := by rw [e8, mup_ap, if_neg (by decide)]; exact hv183_1_7
  refine WP_aload_n dX10_init_125 rfl rfl ⟨Nat.le_of_ble_eq_true rfl, Nat.le_of_ble_eq_true rfl⟩ ?_
  refine WP_sipush dX10_init_126 (by decide +kernel) (by decide) ?_
  refine WN_newarray (e := 0) (n := 640) (b := 198) (by simp only [List.length_append, List.length_cons, List.length_nil]; omega) dX10_init_129 rfl (by decide) ac_0 (by decide) (Nat.le_of_ble_eq_true rfl) (Nat.le_of_ble_eq_true rfl) (fun k9 μ9 e9 => ?_)
  have hv183_1_9 : μ9 183 1 = 184 := by rw [e9]; show (if (183 : Int) = 198 then _ else _) = _; rw [if_neg (by decide)]; exact hv183_1_8
  refine WN_put (n := 49) dX10_init_131 f_X10_61 (kd_app (kd_app (kd_app (kd_app (kd_app h183))))) (fun r hr => by cases hr; first | exact Or.inl rfl | exact Or.inr ⟨rfl, rfl, rfl⟩) rfl rfl (fun h => absurd h (by decide)) (fun μ10 e10 => ?_)
  have hv183_1_10 : μ10 183 1 = 184 := by rw [e10, mup_ap, if_neg (by decide)]; exact hv183_1_9
  refine WP_aload_n dX10_init_134 rfl rfl ⟨Nat.le_of_ble_eq_true rfl, Nat.le_of_ble_eq_true rfl⟩ ?_
  refine WP_sipush dX10_init_135 (by decide +kernel) (by decide) ?_
  have hK : (((((K ++ [(0, 36)]) ++ [(0, 100)]) ++ [(0, 100)]) ++ [(0, 640)]) ++ [(0, 640)]) = K ++ oX10_2 := by simp only [oX10_2, List.append_assoc, List.cons_append, List.nil_append, List.append_nil]
  show WP mX10_init (RM d 28 65666) Z (TN (((((K ++ [(0, 36)]) ++ [(0, 100)]) ++ [(0, 100)]) ++ [(0, 640)]) ++ [(0, 640)]) sc) 15 62849 138 [(2, 183)] [(0, 640), (2, 183)] μ10
  rw [hK]
  exact k μ10 (by rw [e10, e9, e8, e7, e6, e5, e4, e3, e2, e1]; first | done | rfl) (by rw [← hK]; exact (by simp only [List.length_append, List.length_cons, List.length_nil]; omega)) (by rw [← hK]; exact (kd_app (kd_app (kd_app (kd_app (kd_app h183)))))) (by rw [← hK]; exact (kd_app (kd_app (kd_app (kd_app (kd_app h184)))))) hv183_1_10

def oX10_3 : List (Nat × Nat) := [(0, 640), (0, 640), (0, 640), (0, 640), (0, 6), (5, 10)]
def cX10_3 (μ : Mem) : Mem :=
  let μ1 : Mem := fun c j => if c = 199 then 0 else μ c j
  let μ2 : Mem := mup μ1 (183) 28 (199)
  let μ3 : Mem := fun c j => if c = 200 then 0 else μ2 c j
  let μ4 : Mem := mup μ3 (183) 29 (200)
  let μ5 : Mem := fun c j => if c = 201 then 0 else μ4 c j
  let μ6 : Mem := mup μ5 (183) 30 (201)
  let μ7 : Mem := fun c j => if c = 202 then 0 else μ6 c j
  let μ8 : Mem := mup μ7 (183) 31 (202)
  let μ9 : Mem := fun c j => if c = 203 then 0 else μ8 c j
  let μ10 : Mem := mup μ9 (183) 32 (203)
  let μ11 : Mem := fun c j => if c = 204 then 0 else μ10 c j
  μ11
theorem cX10_3_fr {μ : Mem} {c j : Int} (h1 : c ≠ 183) (h2 : c < 184) : cX10_3 μ c j = μ c j := by
  simp only [cX10_3, mup_ap]
  repeat (first | rw [if_neg (by omega)] | rw [mup_ap])
theorem kq_X10_3 {d : Nat} {sc : SC} {Z : ZT} {K : List (Nat × Nat)} {μ : Mem} (hd : 2 ≤ d) (hb : (199 : Int) = (K.length : Int)) (h183 : kd (TN K sc) 183 = some (40, 49)) (h184 : kd (TN K sc) 184 = some (0, 4119)) (hv183_1_0 : μ 183 1 = 184) (k : ∀ μ' : Mem, μ' = cX10_3 μ → (205 : Int) = (((K ++ oX10_3) : List (Nat × Nat)).length : Int) → kd (TN (K ++ oX10_3) sc) 183 = some (40, 49) → kd (TN (K ++ oX10_3) sc) 204 = some (5, 10) → kd (TN (K ++ oX10_3) sc) 184 = some (0, 4119) → μ' 183 1 = 184 → WP mX10_init (RM d 28 65666) Z (TN (K ++ oX10_3) sc) 21 65425 183 [(2, 183)] [(2, 204), (2, 183)] μ') : WP mX10_init (RM d 28 65666) Z (TN K sc) 15 62849 138 [(2, 183)] [(0, 640), (2, 183)] μ := by
  refine WN_newarray (e := 0) (n := 640) (b := 199) hb dX10_init_138 rfl (by decide) ac_0 (by decide) (Nat.le_of_ble_eq_true rfl) (Nat.le_of_ble_eq_true rfl) (fun k1 μ1 e1 => ?_)
  have hv183_1_1 : μ1 183 1 = 184 := by rw [e1]; show (if (183 : Int) = 199 then _ else _) = _; rw [if_neg (by decide)]; exact hv183_1_0
  refine WN_put (n := 49) dX10_init_140 f_X10_64 (kd_app h183) (fun r hr => by cases hr; first | exact Or.inl rfl | exact Or.inr ⟨rfl, rfl, rfl⟩) rfl rfl (fun h => absurd h (by decide)) (fun μ2 e2 => ?_)
  have hv183_1_2 : μ2 183 1 = 184 := by rw [e2, mup_ap, if_neg (by decide)]; exact hv183_1_1
  refine WP_aload_n dX10_init_143 rfl rfl ⟨Nat.le_of_ble_eq_true rfl, Nat.le_of_ble_eq_true rfl⟩ ?_
  refine WP_sipush dX10_init_144 (by decide +kernel) (by decide) ?_
  refine WN_newarray (e := 0) (n := 640) (b := 200) (by simp only [List.length_append, List.length_cons, List.length_nil]; omega) dX10_init_147 rfl (by decide) ac_0 (by decide) (Nat.le_of_ble_eq_true rfl) (Nat.le_of_ble_eq_true rfl) (fun k3 μ3 e3 => ?_)
  have hv183_1_3 : μ3 183 1 = 184 := by rw [e3]; show (if (183 : Int) = 200 then _ else _) = _; rw [if_neg (by decide)]; exact hv183_1_2
  refine WN_put (n := 49) dX10_init_149 f_X10_67 (kd_app (kd_app h183)) (fun r hr => by cases hr; first | exact Or.inl rfl | exact Or.inr ⟨rfl, rfl, rfl⟩) rfl rfl (fun h => absurd h (by decide)) (fun μ4 e4 => ?_)
  have hv183_1_4 : μ4 183 1 = 184 := by rw [e4, mup_ap, if_neg (by decide)]; exact hv183_1_3
  refine WP_aload_n dX10_init_152 rfl rfl ⟨Nat.le_of_ble_eq_true rfl, Nat.le_of_ble_eq_true rfl⟩ ?_
  refine WP_sipush dX10_init_153 (by decide +kernel) (by decide) ?_
  refine WN_newarray (e := 0) (n := 640) (b := 201) (by simp only [List.length_append, List.length_cons, List.length_nil]; omega) dX10_init_156 rfl (by decide) ac_0 (by decide) (Nat.le_of_ble_eq_true rfl) (Nat.le_of_ble_eq_true rfl) (fun k5 μ5 e5 => ?_)
  have hv183_1_5 : μ5 183 1 = 184 := by rw [e5]; show (if (183 : Int) = 201 then _ else _) = _; rw [if_neg (by decide)]; exact hv183_1_4
  refine WN_put (n := 49) dX10_init_158 f_X10_70 (kd_app (kd_app (kd_app h183))) (fun r hr => by cases hr; first | exact Or.inl rfl | exact Or.inr ⟨rfl, rfl, rfl⟩) rfl rfl (fun h => absurd h (by decide)) (fun μ6 e6 => ?_)
  have hv183_1_6 : μ6 183 1 = 184 := by rw [e6, mup_ap, if_neg (by decide)]; exact hv183_1_5
  refine WP_aload_n dX10_init_161 rfl rfl ⟨Nat.le_of_ble_eq_true rfl, Nat.le_of_ble_eq_true rfl⟩ ?_
  refine WP_sipush dX10_init_162 (by decide +kernel) (by decide) ?_
  refine WN_newarray (e := 0) (n := 640) (b := 202) (by simp only [List.length_append, List.length_cons, List.length_nil]; omega) dX10_init_165 rfl (by decide) ac_0 (by decide) (Nat.le_of_ble_eq_true rfl) (Nat.le_of_ble_eq_true rfl) (fun k7 μ7 e7 => ?_)
  have hv183_1_7 : μ7 183 1 = 184 := by rw [e7]; show (if (183 : Int) = 202 then _ else _) = _; rw [if_neg (by decide)]; exact hv183_1_6
  refine WN_put (n := 49) dX10_init_167 f_X10_73 (kd_app (kd_app (kd_app (kd_app h183)))) (fun r hr => by cases hr; first | exact Or.inl rfl | exact Or.inr ⟨rfl, rfl, rfl⟩) rfl rfl (fun h => absurd h (by decide)) (fun μ8 e8 => ?_)
  have hv183_1_8 : μ8 183 1 = 184 := by rw [e8, mup_ap, if_neg (by decide)]; exact hv183_1_7
  refine WP_aload_n dX10_init_170 rfl rfl ⟨Nat.le_of_ble_eq_true rfl, Nat.le_of_ble_eq_true rfl⟩ ?_
  refine WP_bipush dX10_init_171 (by decide +kernel) (by decide) ?_
  refine WN_newarray (e := 0) (n := 6) (b := 203) (by simp only [List.length_append, List.length_cons, List.length_nil]; omega) dX10_init_173 rfl (by decide) ac_0 (by decide) (Nat.le_of_ble_eq_true rfl) (Nat.le_of_ble_eq_true rfl) (fun k9 μ9 e9 => ?_)
  have hv183_1_9 : μ9 183 1 = 184 := by rw [e9]; show (if (183 : Int) = 203 then _ else _) = _; rw [if_neg (by decide)]; exact hv183_1_8
  refine WN_put (n := 49) dX10_init_175 f_X10_76 (kd_app (kd_app (kd_app (kd_app (kd_app h183))))) (fun r hr => by cases hr; first | exact Or.inl rfl | exact Or.inr ⟨rfl, rfl, rfl⟩) rfl rfl (fun h => absurd h (by decide)) (fun μ10 e10 => ?_)
  have hv183_1_10 : μ10 183 1 = 184 := by rw [e10, mup_ap, if_neg (by decide)]; exact hv183_1_9
  refine WP_aload_n dX10_init_178 rfl rfl ⟨Nat.le_of_ble_eq_true rfl, Nat.le_of_ble_eq_true rfl⟩ ?_
  refine WP_bipush dX10_init_179 (by decide +kernel) (by decide) ?_
  refine WN_newarray (e := 5) (n := 10) (b := 204) (by simp only [List.length_append, List.length_cons, List.length_nil]; omega) dX10_init_181 rfl (by decide) ac_5 (by decide) (Nat.le_of_ble_eq_true rfl) (Nat.le_of_ble_eq_true rfl) (fun k11 μ11 e11 => ?_)
  have hv183_1_11 : μ11 183 1 = 184 := by rw [e11]; show (if (183 : Int) = 204 then _ else _) = _; rw [if_neg (by decide)]; exact hv183_1_10
  have hK : ((((((K ++ [(0, 640)]) ++ [(0, 640)]) ++ [(0, 640)]) ++ [(0, 640)]) ++ [(0, 6)]) ++ [(5, 10)]) = K ++ oX10_3 := by simp only [oX10_3, List.append_assoc, List.cons_append, List.nil_append, List.append_nil]
  show WP mX10_init (RM d 28 65666) Z (TN ((((((K ++ [(0, 640)]) ++ [(0, 640)]) ++ [(0, 640)]) ++ [(0, 640)]) ++ [(0, 6)]) ++ [(5, 10)]) sc) 21 65425 183 [(2, 183)] [(2, 204), (2, 183)] μ11
  rw [hK]
  exact k μ11 (by rw [e11, e10, e9, e8, e7, e6, e5, e4, e3, e2, e1]; first | done | rfl) (by rw [← hK]; exact (by simp only [List.length_append, List.length_cons, List.length_nil]; omega)) (by rw [← hK]; exact (kd_app (kd_app (kd_app (kd_app (kd_app (kd_app h183))))))) (by rw [← hK]; exact k11) (by rw [← hK]; exact (kd_app (kd_app (kd_app (kd_app (kd_app (kd_app h184))))))) hv183_1_11

def oX10_4 : List (Nat × Nat) := [(0, 40), (0, 21), (1, 6), (1, 6), (0, 4)]
def cX10_4 (μ : Mem) : Mem :=
  let μ1 : Mem := mup μ (183) 33 (204)
  let μ2 : Mem := fun c j => if c = 205 then 0 else μ1 c j
  let μ3 : Mem := mup μ2 (183) 37 (205)
  let μ4 : Mem := fun c j => if c = 206 then 0 else μ3 c j
  let μ5 : Mem := mup μ4 (183) 43 (206)
  let μ6 : Mem := fun c j => if c = 207 then 0 else μ5 c j
  let μ7 : Mem := mup μ6 (183) 44 (207)
  let μ8 : Mem := fun c j => if c = 208 then 0 else μ7 c j
  let μ9 : Mem := mup μ8 (183) 45 (208)
  let μ10 : Mem := fun c j => if c = 209 then 0 else μ9 c j
  μ10
theorem cX10_4_fr {μ : Mem} {c j : Int} (h1 : c ≠ 183) (h2 : c < 184) : cX10_4 μ c j = μ c j := by
  simp only [cX10_4, mup_ap]
  repeat (first | rw [if_neg (by omega)] | rw [mup_ap])
theorem kq_X10_4 {d : Nat} {sc : SC} {Z : ZT} {K : List (Nat × Nat)} {μ : Mem} (hd : 2 ≤ d) (hb : (205 : Int) = (K.length : Int)) (h183 : kd (TN K sc) 183 = some (40, 49)) (h204 : kd (TN K sc) 204 = some (5, 10)) (h184 : kd (TN K sc) 184 = some (0, 4119)) (hv183_1_0 : μ 183 1 = 184) (k : ∀ μ' : Mem, μ' = cX10_4 μ → (210 : Int) = (((K ++ oX10_4) : List (Nat × Nat)).length : Int) → kd (TN (K ++ oX10_4) sc) 183 = some (40, 49) → kd (TN (K ++ oX10_4) sc) 209 = some (0, 4) → kd (TN (K ++ oX10_4) sc) 184 = some (0, 4119) → μ' 183 1 = 184 → WP mX10_init (RM d 28 65666) Z (TN (K ++ oX10_4) sc) 26 65502 224 [(2, 183)] [(0, 0), (2, 209), (2, 209), (2, 183)] μ') : WP mX10_init (RM d 28 65666) Z (TN K sc) 21 65425 183 [(2, 183)] [(2, 204), (2, 183)] μ := by
  refine WN_put (n := 49) dX10_init_183 f_X10_79 h183 (fun r hr => by cases hr; first | exact Or.inl rfl | exact Or.inr ⟨rfl, rfl, rfl⟩) rfl rfl (fun h => absurd h (by decide)) (fun μ1 e1 => ?_)
  have hv183_1_1 : μ1 183 1 = 184 := by rw [e1, mup_ap, if_neg (by decide)]; exact hv183_1_0
  refine WP_aload_n dX10_init_186 rfl rfl ⟨Nat.le_of_ble_eq_true rfl, Nat.le_of_ble_eq_true rfl⟩ ?_
  refine WP_bipush dX10_init_187 (by decide +kernel) (by decide) ?_
  refine WN_newarray (e := 0) (n := 40) (b := 205) hb dX10_init_189 rfl (by decide) ac_0 (by decide) (Nat.le_of_ble_eq_true rfl) (Nat.le_of_ble_eq_true rfl) (fun k2 μ2 e2 => ?_)
  have hv183_1_2 : μ2 183 1 = 184 := by rw [e2]; show (if (183 : Int) = 205 then _ else _) = _; rw [if_neg (by decide)]; exact hv183_1_1
  refine WN_put (n := 49) dX10_init_191 f_X10_82 (kd_app h183) (fun r hr => by cases hr; first | exact Or.inl rfl | exact Or.inr ⟨rfl, rfl, rfl⟩) rfl rfl (fun h => absurd h (by decide)) (fun μ3 e3 => ?_)
  have hv183_1_3 : μ3 183 1 = 184 := by rw [e3, mup_ap, if_neg (by decide)]; exact hv183_1_2
  refine WP_aload_n dX10_init_194 rfl rfl ⟨Nat.le_of_ble_eq_true rfl, Nat.le_of_ble_eq_true rfl⟩ ?_
  refine WP_bipush dX10_init_195 (by decide +kernel) (by decide) ?_
  refine WN_newarray (e := 0) (n := 21) (b := 206) (by simp only [List.length_append, List.length_cons, List.length_nil]; omega) dX10_init_197 rfl (by decide) ac_0 (by decide) (Nat.le_of_ble_eq_true rfl) (Nat.le_of_ble_eq_true rfl) (fun k4 μ4 e4 => ?_)
  have hv183_1_4 : μ4 183 1 = 184 := by rw [e4]; show (if (183 : Int) = 206 then _ else _) = _; rw [if_neg (by decide)]; exact hv183_1_3
  refine WN_put (n := 49) dX10_init_199 f_X10_85 (kd_app (kd_app h183)) (fun r hr => by cases hr; first | exact Or.inl rfl | exact Or.inr ⟨rfl, rfl, rfl⟩) rfl rfl (fun h => absurd h (by decide)) (fun μ5 e5 => ?_)
  have hv183_1_5 : μ5 183 1 = 184 := by rw [e5, mup_ap, if_neg (by decide)]; exact hv183_1_4
  refine WP_aload_n dX10_init_202 rfl rfl ⟨Nat.le_of_ble_eq_true rfl, Nat.le_of_ble_eq_true rfl⟩ ?_
  refine WP_bipush dX10_init_203 (by decide +kernel) (by decide) ?_
  refine WN_newarray (e := 1) (n := 6) (b := 207) (by simp only [List.length_append, List.length_cons, List.length_nil]; omega) dX10_init_205 rfl (by decide) ac_1 (by decide) (Nat.le_of_ble_eq_true rfl) (Nat.le_of_ble_eq_true rfl) (fun k6 μ6 e6 => ?_)
  have hv183_1_6 : μ6 183 1 = 184 := by rw [e6]; show (if (183 : Int) = 207 then _ else _) = _; rw [if_neg (by decide)]; exact hv183_1_5
  refine WN_put (n := 49) dX10_init_207 f_X10_88 (kd_app (kd_app (kd_app h183))) (fun r hr => by cases hr; first | exact Or.inl rfl | exact Or.inr ⟨rfl, rfl, rfl⟩) rfl rfl (fun h => absurd h (by decide)) (fun μ7 e7 => ?_)
  have hv183_1_7 : μ7 183 1 = 184 := by rw [e7, mup_ap, if_neg (by decide)]; exact hv183_1_6
  refine WP_aload_n dX10_init_210 rfl rfl ⟨Nat.le_of_ble_eq_true rfl, Nat.le_of_ble_eq_true rfl⟩ ?_
  refine WP_bipush dX10_init_211 (by decide +kernel) (by decide) ?_
  refine WN_newarray (e := 1) (n := 6) (b := 208) (by simp only [List.length_append, List.length_cons, List.length_nil]; omega) dX10_init_213 rfl (by decide) ac_1 (by decide) (Nat.le_of_ble_eq_true rfl) (Nat.le_of_ble_eq_true rfl) (fun k8 μ8 e8 => ?_)
  have hv183_1_8 : μ8 183 1 = 184 := by rw [e8]; show (if (183 : Int) = 208 then _ else _) = _; rw [if_neg (by decide)]; exact hv183_1_7
  refine WN_put (n := 49) dX10_init_215 f_X10_92 (kd_app (kd_app (kd_app (kd_app h183)))) (fun r hr => by cases hr; first | exact Or.inl rfl | exact Or.inr ⟨rfl, rfl, rfl⟩) rfl rfl (fun h => absurd h (by decide)) (fun μ9 e9 => ?_)
  have hv183_1_9 : μ9 183 1 = 184 := by rw [e9, mup_ap, if_neg (by decide)]; exact hv183_1_8
  refine WP_aload_n dX10_init_218 rfl rfl ⟨Nat.le_of_ble_eq_true rfl, Nat.le_of_ble_eq_true rfl⟩ ?_
  refine WP_iconst dX10_init_219 (by decide) ?_
  refine WN_newarray (e := 0) (n := 4) (b := 209) (by simp only [List.length_append, List.length_cons, List.length_nil]; omega) dX10_init_220 rfl (by decide) ac_0 (by decide) (Nat.le_of_ble_eq_true rfl) (Nat.le_of_ble_eq_true rfl) (fun k10 μ10 e10 => ?_)
  have hv183_1_10 : μ10 183 1 = 184 := by rw [e10]; show (if (183 : Int) = 209 then _ else _) = _; rw [if_neg (by decide)]; exact hv183_1_9
  refine WP_dup dX10_init_222 (by simp) ?_
  refine WP_iconst dX10_init_223 (by decide) ?_
  have hK : (((((K ++ [(0, 40)]) ++ [(0, 21)]) ++ [(1, 6)]) ++ [(1, 6)]) ++ [(0, 4)]) = K ++ oX10_4 := by simp only [oX10_4, List.append_assoc, List.cons_append, List.nil_append, List.append_nil]
  show WP mX10_init (RM d 28 65666) Z (TN (((((K ++ [(0, 40)]) ++ [(0, 21)]) ++ [(1, 6)]) ++ [(1, 6)]) ++ [(0, 4)]) sc) 26 65502 224 [(2, 183)] [(0, 0), (2, 209), (2, 209), (2, 183)] μ10
  rw [hK]
  exact k μ10 (by rw [e10, e9, e8, e7, e6, e5, e4, e3, e2, e1]; first | done | rfl) (by rw [← hK]; exact (by simp only [List.length_append, List.length_cons, List.length_nil]; omega)) (by rw [← hK]; exact (kd_app (kd_app (kd_app (kd_app (kd_app h183)))))) (by rw [← hK]; exact k10) (by rw [← hK]; exact (kd_app (kd_app (kd_app (kd_app (kd_app h184)))))) hv183_1_10

def oX10_5 : List (Nat × Nat) := [(0, 4)]
def cX10_5 (μ : Mem) : Mem :=
  let μ1 : Mem := mup μ 209 0 (-1)
  let μ2 : Mem := mup μ1 209 1 (-1)
  let μ3 : Mem := mup μ2 209 2 (-1)
  let μ4 : Mem := mup μ3 209 3 (-1)
  let μ5 : Mem := mup μ4 (183) 46 (209)
  let μ6 : Mem := fun c j => if c = 210 then 0 else μ5 c j
  μ6
theorem cX10_5_fr {μ : Mem} {c j : Int} (h1 : c ≠ 183) (h2 : c < 184) : cX10_5 μ c j = μ c j := by
  simp only [cX10_5, mup_ap]
  repeat (first | rw [if_neg (by omega)] | rw [mup_ap])
theorem kq_X10_5 {d : Nat} {sc : SC} {Z : ZT} {K : List (Nat × Nat)} {μ : Mem} (hd : 2 ≤ d) (hb : (210 : Int) = (K.length : Int)) (h183 : kd (TN K sc) 183 = some (40, 49)) (h209 : kd (TN K sc) 209 = some (0, 4)) (h184 : kd (TN K sc) 184 = some (0, 4119)) (hv183_1_0 : μ 183 1 = 184) (k : ∀ μ' : Mem, μ' = cX10_5 μ → (211 : Int) = (((K ++ oX10_5) : List (Nat × Nat)).length : Int) → kd (TN (K ++ oX10_5) sc) 183 = some (40, 49) → kd (TN (K ++ oX10_5) sc) 210 = some (0, 4) → kd (TN (K ++ oX10_5) sc) 184 = some (0, 4119) → μ' 183 1 = 184 → WP mX10_init (RM d 28 65666) Z (TN (K ++ oX10_5) sc) 27 65506 245 [(2, 183)] [(2, 210), (2, 183)] μ') : WP mX10_init (RM d 28 65666) Z (TN K sc) 26 65502 224 [(2, 183)] [(0, 0), (2, 209), (2, 209), (2, 183)] μ := by
  refine WP_iconst dX10_init_224 (by decide) ?_
  refine WP_iastore dX10_init_225 h209 ⟨by decide, by decide⟩ ?_
  obtain ⟨μ1, e1⟩ : ∃ m : Mem, m = mup μ 209 0 (-1) := ⟨_, rfl⟩
  rw [← e1]
  have hv183_1_1 : μ1 183 1 = 184 := by rw [e1, mup_ap, if_neg (by decide)]; exact hv183_1_0
  refine WP_dup dX10_init_226 (by simp) ?_
  refine WP_iconst dX10_init_227 (by decide) ?_
  refine WP_iconst dX10_init_228 (by decide) ?_
  refine WP_iastore dX10_init_229 h209 ⟨by decide, by decide⟩ ?_
  obtain ⟨μ2, e2⟩ : ∃ m : Mem, m = mup μ1 209 1 (-1) := ⟨_, rfl⟩
  rw [← e2]
  have hv183_1_2 : μ2 183 1 = 184 := by rw [e2, mup_ap, if_neg (by decide)]; exact hv183_1_1
  refine WP_dup dX10_init_230 (by simp) ?_
  refine WP_iconst dX10_init_231 (by decide) ?_
  refine WP_iconst dX10_init_232 (by decide) ?_
  refine WP_iastore dX10_init_233 h209 ⟨by decide, by decide⟩ ?_
  obtain ⟨μ3, e3⟩ : ∃ m : Mem, m = mup μ2 209 2 (-1) := ⟨_, rfl⟩
  rw [← e3]
  have hv183_1_3 : μ3 183 1 = 184 := by rw [e3, mup_ap, if_neg (by decide)]; exact hv183_1_2
  refine WP_dup dX10_init_234 (by simp) ?_
  refine WP_iconst dX10_init_235 (by decide) ?_
  refine WP_iconst dX10_init_236 (by decide) ?_
  refine WP_iastore dX10_init_237 h209 ⟨by decide, by decide⟩ ?_
  obtain ⟨μ4, e4⟩ : ∃ m : Mem, m = mup μ3 209 3 (-1) := ⟨_, rfl⟩
  rw [← e4]
  have hv183_1_4 : μ4 183 1 = 184 := by rw [e4, mup_ap, if_neg (by decide)]; exact hv183_1_3
  refine WN_put (n := 49) dX10_init_238 f_X10_95 h183 (fun r hr => by cases hr; first | exact Or.inl rfl | exact Or.inr ⟨rfl, rfl, rfl⟩) rfl rfl (fun h => absurd h (by decide)) (fun μ5 e5 => ?_)
  have hv183_1_5 : μ5 183 1 = 184 := by rw [e5, mup_ap, if_neg (by decide)]; exact hv183_1_4
  refine WP_aload_n dX10_init_241 rfl rfl ⟨Nat.le_of_ble_eq_true rfl, Nat.le_of_ble_eq_true rfl⟩ ?_
  refine WP_iconst dX10_init_242 (by decide) ?_
  refine WN_newarray (e := 0) (n := 4) (b := 210) hb dX10_init_243 rfl (by decide) ac_0 (by decide) (Nat.le_of_ble_eq_true rfl) (Nat.le_of_ble_eq_true rfl) (fun k6 μ6 e6 => ?_)
  have hv183_1_6 : μ6 183 1 = 184 := by rw [e6]; show (if (183 : Int) = 210 then _ else _) = _; rw [if_neg (by decide)]; exact hv183_1_5
  have hK : (K ++ [(0, 4)]) = K ++ oX10_5 := by simp only [oX10_5, List.append_assoc, List.cons_append, List.nil_append, List.append_nil]
  show WP mX10_init (RM d 28 65666) Z (TN (K ++ [(0, 4)]) sc) 27 65506 245 [(2, 183)] [(2, 210), (2, 183)] μ6
  rw [hK]
  exact k μ6 (by rw [e6, e5, e4, e3, e2, e1]; first | done | rfl) (by rw [← hK]; exact (by simp only [List.length_append, List.length_cons, List.length_nil]; omega)) (by rw [← hK]; exact (kd_app h183)) (by rw [← hK]; exact k6) (by rw [← hK]; exact (kd_app h184)) hv183_1_6

def oX10_6 : List (Nat × Nat) := [(1, 160)]
def cX10_6 (μ : Mem) : Mem :=
  let μ1 : Mem := mup μ (183) 47 (210)
  let μ2 : Mem := fun c j => if c = 211 then 0 else μ1 c j
  let μ3 : Mem := mup μ2 (183) 48 (211)
  let μ4 : Mem := cplain 184 μ3
  μ4
theorem cX10_6_fr {μ : Mem} {c j : Int} (h1 : c ≠ 183) (h2 : c < 184) : cX10_6 μ c j = μ c j := by
  simp only [cX10_6, mup_ap]
  repeat (first | rw [if_neg (by omega)] | rw [mup_ap] | rw [cplain_fr (by omega)])
theorem kq_X10_6 {d : Nat} {sc : SC} {Z : ZT} {K : List (Nat × Nat)} {μ : Mem} (hd : 2 ≤ d) (hb : (211 : Int) = (K.length : Int)) (h183 : kd (TN K sc) 183 = some (40, 49)) (h210 : kd (TN K sc) 210 = some (0, 4)) (h184 : kd (TN K sc) 184 = some (0, 4119)) (hv183_1_0 : μ 183 1 = 184) (k : ∀ μ' : Mem, μ' = cX10_6 μ → (212 : Int) = (((K ++ oX10_6) : List (Nat × Nat)).length : Int) → kd (TN (K ++ oX10_6) sc) 183 = some (40, 49) → kd (TN (K ++ oX10_6) sc) 184 = some (0, 4119) → μ' 183 1 = 184 → WP mX10_init (RM d 28 65666) Z (TN (K ++ oX10_6) sc) 28 65666 264 [(2, 183)] [] μ') : WP mX10_init (RM d 28 65666) Z (TN K sc) 27 65506 245 [(2, 183)] [(2, 210), (2, 183)] μ := by
  refine WN_put (n := 49) dX10_init_245 f_X10_98 h183 (fun r hr => by cases hr; first | exact Or.inl rfl | exact Or.inr ⟨rfl, rfl, rfl⟩) rfl rfl (fun h => absurd h (by decide)) (fun μ1 e1 => ?_)
  have hv183_1_1 : μ1 183 1 = 184 := by rw [e1, mup_ap, if_neg (by decide)]; exact hv183_1_0
  refine WP_aload_n dX10_init_248 rfl rfl ⟨Nat.le_of_ble_eq_true rfl, Nat.le_of_ble_eq_true rfl⟩ ?_
  refine WP_sipush dX10_init_249 (by decide +kernel) (by decide) ?_
  refine WN_newarray (e := 1) (n := 160) (b := 211) hb dX10_init_252 rfl (by decide) ac_1 (by decide) (Nat.le_of_ble_eq_true rfl) (Nat.le_of_ble_eq_true rfl) (fun k2 μ2 e2 => ?_)
  have hv183_1_2 : μ2 183 1 = 184 := by rw [e2]; show (if (183 : Int) = 211 then _ else _) = _; rw [if_neg (by decide)]; exact hv183_1_1
  refine WN_put (n := 49) dX10_init_254 f_X10_101 (kd_app h183) (fun r hr => by cases hr; first | exact Or.inl rfl | exact Or.inr ⟨rfl, rfl, rfl⟩) rfl rfl (fun h => absurd h (by decide)) (fun μ3 e3 => ?_)
  have hv183_1_3 : μ3 183 1 = 184 := by rw [e3, mup_ap, if_neg (by decide)]; exact hv183_1_2
  refine WP_aload_n dX10_init_257 rfl rfl ⟨Nat.le_of_ble_eq_true rfl, Nat.le_of_ble_eq_true rfl⟩ ?_
  refine WP_getfield (ci := 10) (j := 1) (n := 49) (t := 2) (x := 184) dX10_init_258 f_X10_13 (kd_app h183) rfl hv183_1_3 ?_
  refine WP_invS (md := mX10_init) (d' := 1) (as := [(2, 184)]) (mc := 0) (ms := 0) dX10_init_261 l_X10_104 mw_X10_plain mt_X10_plain mo_X10_plain ⟨by show _ ≤ d; omega, by show _ ≤ 64 * d; omega⟩ (Nat.le_of_ble_eq_true rfl) ⟨Nat.le_of_ble_eq_true rfl, Nat.le_of_ble_eq_true rfl⟩ (kc_plain (kd_app h184) (by decide)) ?_
  rintro _ _ μ4 ⟨rfl, rfl, e4⟩
  have hv183_1_4 : μ4 183 1 = 184 := by rw [e4]; exact (cplain_fr (by decide)).trans hv183_1_3
  have hK : (K ++ [(1, 160)]) = K ++ oX10_6 := by simp only [oX10_6, List.append_assoc, List.cons_append, List.nil_append, List.append_nil]
  show WP mX10_init (RM d 28 65666) Z (TN (K ++ [(1, 160)]) sc) 28 65666 264 [(2, 183)] [] μ4
  rw [hK]
  exact k μ4 (by rw [e4, e3, e2, e1]; first | done | rfl) (by rw [← hK]; exact (by simp only [List.length_append, List.length_cons, List.length_nil]; omega)) (by rw [← hK]; exact (kd_app h183)) (by rw [← hK]; exact (kd_app h184)) hv183_1_4

def oX10 : List (Nat × Nat) := [(0, 4119), (5, 2), (0, 900), (0, 1373), (0, 900), (0, 9), (0, 54000), (0, 10), (0, 10), (0, 10), (0, 36), (0, 100), (0, 100), (0, 640), (0, 640), (0, 640), (0, 640), (0, 640), (0, 640), (0, 6), (5, 10), (0, 40), (0, 21), (1, 6), (1, 6), (0, 4), (0, 4), (1, 160)]
def cX10 (μ : Mem) : Mem := (cX10_6 (cX10_5 (cX10_4 (cX10_3 (cX10_2 (cX10_1 (cX10_0 μ)))))))
theorem cX10_fr {μ : Mem} {c j : Int} (h1 : c ≠ 183) (h2 : c < 184) : cX10 μ c j = μ c j := by
  unfold cX10
  rw [cX10_6_fr h1 h2, cX10_5_fr h1 h2, cX10_4_fr h1 h2, cX10_3_fr h1 h2, cX10_2_fr h1 h2, cX10_1_fr h1 h2, cX10_0_fr h1 h2]
theorem kc_X10 {d : Nat} {sc : SC} {K : List (Nat × Nat)} {μ : Mem} (hd : 2 ≤ d) (hb : (184 : Int) = (K.length : Int)) (hk : kd (TN K sc) 183 = some (40, 49)) : CT mX10_init d 28 65666 (TN K sc) [(2, 183)] μ (fun r K' μ' => r = none ∧ K' = K ++ oX10 ∧ μ' = cX10 μ) := by
  refine CT_of mp_X10_init (Nat.le_of_ble_eq_true rfl) ?_
  refine kq_X10_0 hd hb hk (fun μ0 e0 b0 q0_0 q0_1 q0_2 q0_3 => ?_)
  refine kq_X10_1 hd b0 q0_0 q0_1 q0_2 q0_3 (fun μ1 e1 b1 q1_0 q1_1 q1_2 => ?_)
  refine kq_X10_2 hd b1 q1_0 q1_1 q1_2 (fun μ2 e2 b2 q2_0 q2_1 q2_2 => ?_)
  refine kq_X10_3 hd b2 q2_0 q2_1 q2_2 (fun μ3 e3 b3 q3_0 q3_1 q3_2 q3_3 => ?_)
  refine kq_X10_4 hd b3 q3_0 q3_1 q3_2 q3_3 (fun μ4 e4 b4 q4_0 q4_1 q4_2 q4_3 => ?_)
  refine kq_X10_5 hd b4 q4_0 q4_1 q4_2 q4_3 (fun μ5 e5 b5 q5_0 q5_1 q5_2 q5_3 => ?_)
  refine kq_X10_6 hd b5 q5_0 q5_1 q5_2 q5_3 (fun μ6 e6 b6 q6_0 q6_1 q6_2 => ?_)
  refine WP_return dX10_init_264 rfl ⟨rfl, ?_, ?_⟩
  · show (((((((K ++ oX10_0) ++ oX10_1) ++ oX10_2) ++ oX10_3) ++ oX10_4) ++ oX10_5) ++ oX10_6) = K ++ oX10
    simp only [List.append_assoc]
    exact congrArg (fun l => K ++ l) (by decide +kernel)
  · show μ6 = cX10 μ
    rw [e6, e5, e4, e3, e2, e1, e0]; first | done | rfl

def oX6 : List (Nat × Nat) := [(0, 10), (0, 10), (0, 10), (0, 10), (0, 6)]
def cX6 (a b : Int) (μ : Mem) : Mem :=
  let μ1 : Mem := fun c j => if c = b then 0 else μ c j
  let μ2 : Mem := mup μ1 (a) 1 (b)
  let μ3 : Mem := fun c j => if c = b + 1 then 0 else μ2 c j
  let μ4 : Mem := mup μ3 (a) 2 (b + 1)
  let μ5 : Mem := fun c j => if c = b + 2 then 0 else μ4 c j
  let μ6 : Mem := mup μ5 (a) 3 (b + 2)
  let μ7 : Mem := fun c j => if c = b + 3 then 0 else μ6 c j
  let μ8 : Mem := mup μ7 (a) 4 (b + 3)
  let μ9 : Mem := fun c j => if c = b + 4 then 0 else μ8 c j
  let μ10 : Mem := mup μ9 (a) 5 (b + 4)
  μ10
theorem cX6_fr {a b : Int} {μ : Mem} {c j : Int} (h1 : c ≠ a) (h2 : c < b) (h0 : a < b) : cX6 a b μ c j = μ c j := by
  simp only [cX6, mup_ap]
  repeat (first | rw [if_neg (by omega)])
theorem kc_X6 {d : Nat} {sc : SC} {K : List (Nat × Nat)} {a b : Int} {μ : Mem} (hd : 1 ≤ d) (hb : b = (K.length : Int)) (ha : 0 ≤ a ∧ a < b) (hk : kd (TN K sc) a = some (36, 7)) : CT mX6_init d 5 46 (TN K sc) [(2, a)] μ (fun r K' μ' => r = none ∧ K' = K ++ oX6 ∧ μ' = cX6 a b μ) := by
  refine CT_of mp_X6_init (Nat.le_of_ble_eq_true rfl) ?_
  refine WP_aload_n dX6_init_0 rfl rfl ⟨Nat.le_of_ble_eq_true rfl, Nat.le_of_ble_eq_true rfl⟩ ?_
  refine WP_objInit dX6_init_1 ⟨rfl, ha.1⟩ l_X6_3 oi_inst oi_code ⟨by show 1 ≤ d; omega, by show 20 ≤ 64 * d; omega⟩ (Nat.le_of_ble_eq_true rfl) ?_
  refine WP_aload_n dX6_init_4 rfl rfl ⟨Nat.le_of_ble_eq_true rfl, Nat.le_of_ble_eq_true rfl⟩ ?_
  refine WP_bipush dX6_init_5 (by decide +kernel) (by decide) ?_
  refine WN_newarray (e := 0) (n := 10) (b := b) hb dX6_init_7 rfl (by decide) ac_0 (by decide) (Nat.le_of_ble_eq_true rfl) (Nat.le_of_ble_eq_true rfl) (fun k1 μ1 e1 => ?_)
  refine WN_put (n := 7) dX6_init_9 f_X6_9 (kd_app hk) (fun r hr => by cases hr; first | exact Or.inl rfl | exact Or.inr ⟨rfl, rfl, rfl⟩) rfl rfl (fun h => absurd h (by decide)) (fun μ2 e2 => ?_)
  refine WP_aload_n dX6_init_12 rfl rfl ⟨Nat.le_of_ble_eq_true rfl, Nat.le_of_ble_eq_true rfl⟩ ?_
  refine WP_bipush dX6_init_13 (by decide +kernel) (by decide) ?_
  refine WN_newarray (e := 0) (n := 10) (b := b + 1) (by simp only [List.length_append, List.length_cons, List.length_nil]; omega) dX6_init_15 rfl (by decide) ac_0 (by decide) (Nat.le_of_ble_eq_true rfl) (Nat.le_of_ble_eq_true rfl) (fun k3 μ3 e3 => ?_)
  refine WN_put (n := 7) dX6_init_17 f_X6_15 (kd_app (kd_app hk)) (fun r hr => by cases hr; first | exact Or.inl rfl | exact Or.inr ⟨rfl, rfl, rfl⟩) rfl rfl (fun h => absurd h (by decide)) (fun μ4 e4 => ?_)
  refine WP_aload_n dX6_init_20 rfl rfl ⟨Nat.le_of_ble_eq_true rfl, Nat.le_of_ble_eq_true rfl⟩ ?_
  refine WP_bipush dX6_init_21 (by decide +kernel) (by decide) ?_
  refine WN_newarray (e := 0) (n := 10) (b := b + 2) (by simp only [List.length_append, List.length_cons, List.length_nil]; omega) dX6_init_23 rfl (by decide) ac_0 (by decide) (Nat.le_of_ble_eq_true rfl) (Nat.le_of_ble_eq_true rfl) (fun k5 μ5 e5 => ?_)
  refine WN_put (n := 7) dX6_init_25 f_X6_18 (kd_app (kd_app (kd_app hk))) (fun r hr => by cases hr; first | exact Or.inl rfl | exact Or.inr ⟨rfl, rfl, rfl⟩) rfl rfl (fun h => absurd h (by decide)) (fun μ6 e6 => ?_)
  refine WP_aload_n dX6_init_28 rfl rfl ⟨Nat.le_of_ble_eq_true rfl, Nat.le_of_ble_eq_true rfl⟩ ?_
  refine WP_bipush dX6_init_29 (by decide +kernel) (by decide) ?_
  refine WN_newarray (e := 0) (n := 10) (b := b + 3) (by simp only [List.length_append, List.length_cons, List.length_nil]; omega) dX6_init_31 rfl (by decide) ac_0 (by decide) (Nat.le_of_ble_eq_true rfl) (Nat.le_of_ble_eq_true rfl) (fun k7 μ7 e7 => ?_)
  refine WN_put (n := 7) dX6_init_33 f_X6_21 (kd_app (kd_app (kd_app (kd_app hk)))) (fun r hr => by cases hr; first | exact Or.inl rfl | exact Or.inr ⟨rfl, rfl, rfl⟩) rfl rfl (fun h => absurd h (by decide)) (fun μ8 e8 => ?_)
  refine WP_aload_n dX6_init_36 rfl rfl ⟨Nat.le_of_ble_eq_true rfl, Nat.le_of_ble_eq_true rfl⟩ ?_
  refine WP_bipush dX6_init_37 (by decide +kernel) (by decide) ?_
  refine WN_newarray (e := 0) (n := 6) (b := b + 4) (by simp only [List.length_append, List.length_cons, List.length_nil]; omega) dX6_init_39 rfl (by decide) ac_0 (by decide) (Nat.le_of_ble_eq_true rfl) (Nat.le_of_ble_eq_true rfl) (fun k9 μ9 e9 => ?_)
  refine WN_put (n := 7) dX6_init_41 f_X6_24 (kd_app (kd_app (kd_app (kd_app (kd_app hk))))) (fun r hr => by cases hr; first | exact Or.inl rfl | exact Or.inr ⟨rfl, rfl, rfl⟩) rfl rfl (fun h => absurd h (by decide)) (fun μ10 e10 => ?_)
  exact WP_return dX6_init_44 rfl ⟨rfl, by simp [oX6], by subst e1; subst e2; subst e3; subst e4; subst e5; subst e6; subst e7; subst e8; subst e9; subst e10; rfl⟩
def oX8 : List (Nat × Nat) := [(1, 40)]
def cX8 (a b : Int) (μ : Mem) : Mem :=
  let μ1 : Mem := fun c j => if c = b then 0 else μ c j
  let μ2 : Mem := mup μ1 (a) 3 (b)
  μ2
theorem cX8_fr {a b : Int} {μ : Mem} {c j : Int} (h1 : c ≠ a) (h2 : c < b) (h0 : a < b) : cX8 a b μ c j = μ c j := by
  simp only [cX8, mup_ap]
  repeat (first | rw [if_neg (by omega)])
theorem kc_X8 {d : Nat} {sc : SC} {K : List (Nat × Nat)} {a b : Int} {μ : Mem} (hd : 1 ≤ d) (hb : b = (K.length : Int)) (ha : 0 ≤ a ∧ a < b) (hk : kd (TN K sc) a = some (38, 4)) : CT mX8_init d 1 40 (TN K sc) [(2, a)] μ (fun r K' μ' => r = none ∧ K' = K ++ oX8 ∧ μ' = cX8 a b μ) := by
  refine CT_of mp_X8_init (Nat.le_of_ble_eq_true rfl) ?_
  refine WP_aload_n dX8_init_0 rfl rfl ⟨Nat.le_of_ble_eq_true rfl, Nat.le_of_ble_eq_true rfl⟩ ?_
  refine WP_objInit dX8_init_1 ⟨rfl, ha.1⟩ l_X8_3 oi_inst oi_code ⟨by show 1 ≤ d; omega, by show 20 ≤ 64 * d; omega⟩ (Nat.le_of_ble_eq_true rfl) ?_
  refine WP_aload_n dX8_init_4 rfl rfl ⟨Nat.le_of_ble_eq_true rfl, Nat.le_of_ble_eq_true rfl⟩ ?_
  refine WP_bipush dX8_init_5 (by decide +kernel) (by decide) ?_
  refine WN_newarray (e := 1) (n := 40) (b := b) hb dX8_init_7 rfl (by decide) ac_1 (by decide) (Nat.le_of_ble_eq_true rfl) (Nat.le_of_ble_eq_true rfl) (fun k1 μ1 e1 => ?_)
  refine WN_put (n := 4) dX8_init_9 f_X8_9 (kd_app hk) (fun r hr => by cases hr; first | exact Or.inl rfl | exact Or.inr ⟨rfl, rfl, rfl⟩) rfl rfl (fun h => absurd h (by decide)) (fun μ2 e2 => ?_)
  exact WP_return dX8_init_12 rfl ⟨rfl, by simp [oX8], by subst e1; subst e2; rfl⟩
def oX2 : List (Nat × Nat) := []
def cX2 (a b : Int) (μ : Mem) : Mem :=
  let μ1 : Mem := mup μ (a) 0 (-1)
  μ1
theorem cX2_fr {a b : Int} {μ : Mem} {c j : Int} (h1 : c ≠ a) (h2 : c < b) (h0 : a < b) : cX2 a b μ c j = μ c j := by
  simp only [cX2, mup_ap]
  repeat (first | rw [if_neg (by omega)])
theorem kc_X2 {d : Nat} {sc : SC} {K : List (Nat × Nat)} {a b : Int} {μ : Mem} (hd : 1 ≤ d) (hb : b = (K.length : Int)) (ha : 0 ≤ a ∧ a < b) (hk : kd (TN K sc) a = some (32, 11)) : CT mX2_init d 0 0 (TN K sc) [(2, a)] μ (fun r K' μ' => r = none ∧ K' = K ++ oX2 ∧ μ' = cX2 a b μ) := by
  refine CT_of mp_X2_init (Nat.le_of_ble_eq_true rfl) ?_
  refine WP_aload_n dX2_init_0 rfl rfl ⟨Nat.le_of_ble_eq_true rfl, Nat.le_of_ble_eq_true rfl⟩ ?_
  refine WP_objInit dX2_init_1 ⟨rfl, ha.1⟩ l_X2_3 oi_inst oi_code ⟨by show 1 ≤ d; omega, by show 20 ≤ 64 * d; omega⟩ (Nat.le_of_ble_eq_true rfl) ?_
  refine WP_aload_n dX2_init_4 rfl rfl ⟨Nat.le_of_ble_eq_true rfl, Nat.le_of_ble_eq_true rfl⟩ ?_
  refine WP_iconst dX2_init_5 (by decide) ?_
  refine WN_put (n := 11) dX2_init_6 f_X2_9 hk (fun r hr => by cases hr; first | exact Or.inl rfl | exact Or.inr ⟨rfl, rfl, rfl⟩) rfl rfl (fun h => absurd h (by decide)) (fun μ1 e1 => ?_)
  exact WP_return dX2_init_9 rfl ⟨rfl, by simp [oX2], by subst e1; rfl⟩
def oX4 : List (Nat × Nat) := [(1, 6), (1, 6)]
def cX4 (a b : Int) (μ : Mem) : Mem :=
  let μ1 : Mem := fun c j => if c = b then 0 else μ c j
  let μ2 : Mem := mup μ1 (a) 2 (b)
  let μ3 : Mem := fun c j => if c = b + 1 then 0 else μ2 c j
  let μ4 : Mem := mup μ3 (a) 3 (b + 1)
  μ4
theorem cX4_fr {a b : Int} {μ : Mem} {c j : Int} (h1 : c ≠ a) (h2 : c < b) (h0 : a < b) : cX4 a b μ c j = μ c j := by
  simp only [cX4, mup_ap]
  repeat (first | rw [if_neg (by omega)])
theorem kc_X4 {d : Nat} {sc : SC} {K : List (Nat × Nat)} {a b : Int} {μ : Mem} (hd : 1 ≤ d) (hb : b = (K.length : Int)) (ha : 0 ≤ a ∧ a < b) (hk : kd (TN K sc) a = some (34, 4)) : CT mX4_init d 2 12 (TN K sc) [(2, a)] μ (fun r K' μ' => r = none ∧ K' = K ++ oX4 ∧ μ' = cX4 a b μ) := by
  refine CT_of mp_X4_init (Nat.le_of_ble_eq_true rfl) ?_
  refine WP_aload_n dX4_init_0 rfl rfl ⟨Nat.le_of_ble_eq_true rfl, Nat.le_of_ble_eq_true rfl⟩ ?_
  refine WP_objInit dX4_init_1 ⟨rfl, ha.1⟩ l_X4_3 oi_inst oi_code ⟨by show 1 ≤ d; omega, by show 20 ≤ 64 * d; omega⟩ (Nat.le_of_ble_eq_true rfl) ?_
  refine WP_aload_n dX4_init_4 rfl rfl ⟨Nat.le_of_ble_eq_true rfl, Nat.le_of_ble_eq_true rfl⟩ ?_
  refine WP_bipush dX4_init_5 (by decide +kernel) (by decide) ?_
  refine WN_newarray (e := 1) (n := 6) (b := b) hb dX4_init_7 rfl (by decide) ac_1 (by decide) (Nat.le_of_ble_eq_true rfl) (Nat.le_of_ble_eq_true rfl) (fun k1 μ1 e1 => ?_)
  refine WN_put (n := 4) dX4_init_9 f_X4_9 (kd_app hk) (fun r hr => by cases hr; first | exact Or.inl rfl | exact Or.inr ⟨rfl, rfl, rfl⟩) rfl rfl (fun h => absurd h (by decide)) (fun μ2 e2 => ?_)
  refine WP_aload_n dX4_init_12 rfl rfl ⟨Nat.le_of_ble_eq_true rfl, Nat.le_of_ble_eq_true rfl⟩ ?_
  refine WP_bipush dX4_init_13 (by decide +kernel) (by decide) ?_
  refine WN_newarray (e := 1) (n := 6) (b := b + 1) (by simp only [List.length_append, List.length_cons, List.length_nil]; omega) dX4_init_15 rfl (by decide) ac_1 (by decide) (Nat.le_of_ble_eq_true rfl) (Nat.le_of_ble_eq_true rfl) (fun k3 μ3 e3 => ?_)
  refine WN_put (n := 4) dX4_init_17 f_X4_15 (kd_app (kd_app hk)) (fun r hr => by cases hr; first | exact Or.inl rfl | exact Or.inr ⟨rfl, rfl, rfl⟩) rfl rfl (fun h => absurd h (by decide)) (fun μ4 e4 => ?_)
  exact WP_return dX4_init_20 rfl ⟨rfl, by simp [oX4], by subst e1; subst e2; subst e3; subst e4; rfl⟩
def oX7 : List (Nat × Nat) := [(0, 901), (0, 901), (0, 901)]
def cX7 (a b : Int) (μ : Mem) : Mem :=
  let μ1 : Mem := mup μ (a) 1 (-1)
  let μ2 : Mem := fun c j => if c = b then 0 else μ1 c j
  let μ3 : Mem := mup μ2 (a) 5 (b)
  let μ4 : Mem := fun c j => if c = b + 1 then 0 else μ3 c j
  let μ5 : Mem := mup μ4 (a) 6 (b + 1)
  let μ6 : Mem := fun c j => if c = b + 2 then 0 else μ5 c j
  let μ7 : Mem := mup μ6 (a) 7 (b + 2)
  μ7
theorem cX7_fr {a b : Int} {μ : Mem} {c j : Int} (h1 : c ≠ a) (h2 : c < b) (h0 : a < b) : cX7 a b μ c j = μ c j := by
  simp only [cX7, mup_ap]
  repeat (first | rw [if_neg (by omega)])
theorem kc_X7 {d : Nat} {sc : SC} {K : List (Nat × Nat)} {a b : Int} {μ : Mem} (hd : 1 ≤ d) (hb : b = (K.length : Int)) (ha : 0 ≤ a ∧ a < b) (hk : kd (TN K sc) a = some (37, 11)) : CT mX7_init d 3 2703 (TN K sc) [(2, a)] μ (fun r K' μ' => r = none ∧ K' = K ++ oX7 ∧ μ' = cX7 a b μ) := by
  refine CT_of mp_X7_init (Nat.le_of_ble_eq_true rfl) ?_
  refine WP_aload_n dX7_init_0 rfl rfl ⟨Nat.le_of_ble_eq_true rfl, Nat.le_of_ble_eq_true rfl⟩ ?_
  refine WP_objInit dX7_init_1 ⟨rfl, ha.1⟩ l_X7_3 oi_inst oi_code ⟨by show 1 ≤ d; omega, by show 20 ≤ 64 * d; omega⟩ (Nat.le_of_ble_eq_true rfl) ?_
  refine WP_aload_n dX7_init_4 rfl rfl ⟨Nat.le_of_ble_eq_true rfl, Nat.le_of_ble_eq_true rfl⟩ ?_
  refine WP_iconst dX7_init_5 (by decide) ?_
  refine WN_put (n := 11) dX7_init_6 f_X7_9 hk (fun r hr => by cases hr; first | exact Or.inl rfl | exact Or.inr ⟨rfl, rfl, rfl⟩) rfl rfl (fun h => absurd h (by decide)) (fun μ1 e1 => ?_)
  refine WP_aload_n dX7_init_9 rfl rfl ⟨Nat.le_of_ble_eq_true rfl, Nat.le_of_ble_eq_true rfl⟩ ?_
  refine WP_sipush dX7_init_10 (by decide +kernel) (by decide) ?_
  refine WN_newarray (e := 0) (n := 901) (b := b) hb dX7_init_13 rfl (by decide) ac_0 (by decide) (Nat.le_of_ble_eq_true rfl) (Nat.le_of_ble_eq_true rfl) (fun k2 μ2 e2 => ?_)
  refine WN_put (n := 11) dX7_init_15 f_X7_15 (kd_app hk) (fun r hr => by cases hr; first | exact Or.inl rfl | exact Or.inr ⟨rfl, rfl, rfl⟩) rfl rfl (fun h => absurd h (by decide)) (fun μ3 e3 => ?_)
  refine WP_aload_n dX7_init_18 rfl rfl ⟨Nat.le_of_ble_eq_true rfl, Nat.le_of_ble_eq_true rfl⟩ ?_
  refine WP_sipush dX7_init_19 (by decide +kernel) (by decide) ?_
  refine WN_newarray (e := 0) (n := 901) (b := b + 1) (by simp only [List.length_append, List.length_cons, List.length_nil]; omega) dX7_init_22 rfl (by decide) ac_0 (by decide) (Nat.le_of_ble_eq_true rfl) (Nat.le_of_ble_eq_true rfl) (fun k4 μ4 e4 => ?_)
  refine WN_put (n := 11) dX7_init_24 f_X7_19 (kd_app (kd_app hk)) (fun r hr => by cases hr; first | exact Or.inl rfl | exact Or.inr ⟨rfl, rfl, rfl⟩) rfl rfl (fun h => absurd h (by decide)) (fun μ5 e5 => ?_)
  refine WP_aload_n dX7_init_27 rfl rfl ⟨Nat.le_of_ble_eq_true rfl, Nat.le_of_ble_eq_true rfl⟩ ?_
  refine WP_sipush dX7_init_28 (by decide +kernel) (by decide) ?_
  refine WN_newarray (e := 0) (n := 901) (b := b + 2) (by simp only [List.length_append, List.length_cons, List.length_nil]; omega) dX7_init_31 rfl (by decide) ac_0 (by decide) (Nat.le_of_ble_eq_true rfl) (Nat.le_of_ble_eq_true rfl) (fun k6 μ6 e6 => ?_)
  refine WN_put (n := 11) dX7_init_33 f_X7_22 (kd_app (kd_app (kd_app hk))) (fun r hr => by cases hr; first | exact Or.inl rfl | exact Or.inr ⟨rfl, rfl, rfl⟩) rfl rfl (fun h => absurd h (by decide)) (fun μ7 e7 => ?_)
  exact WP_return dX7_init_36 rfl ⟨rfl, by simp [oX7], by subst e1; subst e2; subst e3; subst e4; subst e5; subst e6; subst e7; rfl⟩
def oX0 : List (Nat × Nat) := [(0, 512), (0, 512), (0, 6), (0, 6), (0, 10), (0, 100), (0, 10), (0, 100), (0, 100), (0, 512), (0, 512)]
def cX0 (a b : Int) (μ : Mem) : Mem :=
  let μ1 : Mem := fun c j => if c = b then 0 else μ c j
  let μ2 : Mem := mup μ1 (a) 1 (b)
  let μ3 : Mem := fun c j => if c = b + 1 then 0 else μ2 c j
  let μ4 : Mem := mup μ3 (a) 2 (b + 1)
  let μ5 : Mem := fun c j => if c = b + 2 then 0 else μ4 c j
  let μ6 : Mem := mup μ5 (a) 3 (b + 2)
  let μ7 : Mem := fun c j => if c = b + 3 then 0 else μ6 c j
  let μ8 : Mem := mup μ7 (a) 4 (b + 3)
  let μ9 : Mem := fun c j => if c = b + 4 then 0 else μ8 c j
  let μ10 : Mem := mup μ9 (a) 5 (b + 4)
  let μ11 : Mem := fun c j => if c = b + 5 then 0 else μ10 c j
  let μ12 : Mem := mup μ11 (a) 9 (b + 5)
  let μ13 : Mem := fun c j => if c = b + 6 then 0 else μ12 c j
  let μ14 : Mem := mup μ13 (a) 10 (b + 6)
  let μ15 : Mem := fun c j => if c = b + 7 then 0 else μ14 c j
  let μ16 : Mem := mup μ15 (a) 11 (b + 7)
  let μ17 : Mem := fun c j => if c = b + 8 then 0 else μ16 c j
  let μ18 : Mem := mup μ17 (a) 12 (b + 8)
  let μ19 : Mem := fun c j => if c = b + 9 then 0 else μ18 c j
  let μ20 : Mem := mup μ19 (a) 14 (b + 9)
  let μ21 : Mem := fun c j => if c = b + 10 then 0 else μ20 c j
  let μ22 : Mem := mup μ21 (a) 15 (b + 10)
  μ22
theorem cX0_fr {a b : Int} {μ : Mem} {c j : Int} (h1 : c ≠ a) (h2 : c < b) (h0 : a < b) : cX0 a b μ c j = μ c j := by
  simp only [cX0, mup_ap]
  repeat (first | rw [if_neg (by omega)])
theorem kc_X0 {d : Nat} {sc : SC} {K : List (Nat × Nat)} {a b : Int} {μ : Mem} (hd : 1 ≤ d) (hb : b = (K.length : Int)) (ha : 0 ≤ a ∧ a < b) (hk : kd (TN K sc) a = some (30, 16)) : CT mX0_init d 11 2380 (TN K sc) [(2, a)] μ (fun r K' μ' => r = none ∧ K' = K ++ oX0 ∧ μ' = cX0 a b μ) := by
  refine CT_of mp_X0_init (Nat.le_of_ble_eq_true rfl) ?_
  refine WP_aload_n dX0_init_0 rfl rfl ⟨Nat.le_of_ble_eq_true rfl, Nat.le_of_ble_eq_true rfl⟩ ?_
  refine WP_objInit dX0_init_1 ⟨rfl, ha.1⟩ l_X0_3 oi_inst oi_code ⟨by show 1 ≤ d; omega, by show 20 ≤ 64 * d; omega⟩ (Nat.le_of_ble_eq_true rfl) ?_
  refine WP_aload_n dX0_init_4 rfl rfl ⟨Nat.le_of_ble_eq_true rfl, Nat.le_of_ble_eq_true rfl⟩ ?_
  refine WP_sipush dX0_init_5 (by decide +kernel) (by decide) ?_
  refine WN_newarray (e := 0) (n := 512) (b := b) hb dX0_init_8 rfl (by decide) ac_0 (by decide) (Nat.le_of_ble_eq_true rfl) (Nat.le_of_ble_eq_true rfl) (fun k1 μ1 e1 => ?_)
  refine WN_put (n := 16) dX0_init_10 f_X0_9 (kd_app hk) (fun r hr => by cases hr; first | exact Or.inl rfl | exact Or.inr ⟨rfl, rfl, rfl⟩) rfl rfl (fun h => absurd h (by decide)) (fun μ2 e2 => ?_)
  refine WP_aload_n dX0_init_13 rfl rfl ⟨Nat.le_of_ble_eq_true rfl, Nat.le_of_ble_eq_true rfl⟩ ?_
  refine WP_sipush dX0_init_14 (by decide +kernel) (by decide) ?_
  refine WN_newarray (e := 0) (n := 512) (b := b + 1) (by simp only [List.length_append, List.length_cons, List.length_nil]; omega) dX0_init_17 rfl (by decide) ac_0 (by decide) (Nat.le_of_ble_eq_true rfl) (Nat.le_of_ble_eq_true rfl) (fun k3 μ3 e3 => ?_)
  refine WN_put (n := 16) dX0_init_19 f_X0_15 (kd_app (kd_app hk)) (fun r hr => by cases hr; first | exact Or.inl rfl | exact Or.inr ⟨rfl, rfl, rfl⟩) rfl rfl (fun h => absurd h (by decide)) (fun μ4 e4 => ?_)
  refine WP_aload_n dX0_init_22 rfl rfl ⟨Nat.le_of_ble_eq_true rfl, Nat.le_of_ble_eq_true rfl⟩ ?_
  refine WP_bipush dX0_init_23 (by decide +kernel) (by decide) ?_
  refine WN_newarray (e := 0) (n := 6) (b := b + 2) (by simp only [List.length_append, List.length_cons, List.length_nil]; omega) dX0_init_25 rfl (by decide) ac_0 (by decide) (Nat.le_of_ble_eq_true rfl) (Nat.le_of_ble_eq_true rfl) (fun k5 μ5 e5 => ?_)
  refine WN_put (n := 16) dX0_init_27 f_X0_18 (kd_app (kd_app (kd_app hk))) (fun r hr => by cases hr; first | exact Or.inl rfl | exact Or.inr ⟨rfl, rfl, rfl⟩) rfl rfl (fun h => absurd h (by decide)) (fun μ6 e6 => ?_)
  refine WP_aload_n dX0_init_30 rfl rfl ⟨Nat.le_of_ble_eq_true rfl, Nat.le_of_ble_eq_true rfl⟩ ?_
  refine WP_bipush dX0_init_31 (by decide +kernel) (by decide) ?_
  refine WN_newarray (e := 0) (n := 6) (b := b + 3) (by simp only [List.length_append, List.length_cons, List.length_nil]; omega) dX0_init_33 rfl (by decide) ac_0 (by decide) (Nat.le_of_ble_eq_true rfl) (Nat.le_of_ble_eq_true rfl) (fun k7 μ7 e7 => ?_)
  refine WN_put (n := 16) dX0_init_35 f_X0_21 (kd_app (kd_app (kd_app (kd_app hk)))) (fun r hr => by cases hr; first | exact Or.inl rfl | exact Or.inr ⟨rfl, rfl, rfl⟩) rfl rfl (fun h => absurd h (by decide)) (fun μ8 e8 => ?_)
  refine WP_aload_n dX0_init_38 rfl rfl ⟨Nat.le_of_ble_eq_true rfl, Nat.le_of_ble_eq_true rfl⟩ ?_
  refine WP_bipush dX0_init_39 (by decide +kernel) (by decide) ?_
  refine WN_newarray (e := 0) (n := 10) (b := b + 4) (by simp only [List.length_append, List.length_cons, List.length_nil]; omega) dX0_init_41 rfl (by decide) ac_0 (by decide) (Nat.le_of_ble_eq_true rfl) (Nat.le_of_ble_eq_true rfl) (fun k9 μ9 e9 => ?_)
  refine WN_put (n := 16) dX0_init_43 f_X0_24 (kd_app (kd_app (kd_app (kd_app (kd_app hk))))) (fun r hr => by cases hr; first | exact Or.inl rfl | exact Or.inr ⟨rfl, rfl, rfl⟩) rfl rfl (fun h => absurd h (by decide)) (fun μ10 e10 => ?_)
  refine WP_aload_n dX0_init_46 rfl rfl ⟨Nat.le_of_ble_eq_true rfl, Nat.le_of_ble_eq_true rfl⟩ ?_
  refine WP_bipush dX0_init_47 (by decide +kernel) (by decide) ?_
  refine WN_newarray (e := 0) (n := 100) (b := b + 5) (by simp only [List.length_append, List.length_cons, List.length_nil]; omega) dX0_init_49 rfl (by decide) ac_0 (by decide) (Nat.le_of_ble_eq_true rfl) (Nat.le_of_ble_eq_true rfl) (fun k11 μ11 e11 => ?_)
  refine WN_put (n := 16) dX0_init_51 f_X0_27 (kd_app (kd_app (kd_app (kd_app (kd_app (kd_app hk)))))) (fun r hr => by cases hr; first | exact Or.inl rfl | exact Or.inr ⟨rfl, rfl, rfl⟩) rfl rfl (fun h => absurd h (by decide)) (fun μ12 e12 => ?_)
  refine WP_aload_n dX0_init_54 rfl rfl ⟨Nat.le_of_ble_eq_true rfl, Nat.le_of_ble_eq_true rfl⟩ ?_
  refine WP_bipush dX0_init_55 (by decide +kernel) (by decide) ?_
  refine WN_newarray (e := 0) (n := 10) (b := b + 6) (by simp only [List.length_append, List.length_cons, List.length_nil]; omega) dX0_init_57 rfl (by decide) ac_0 (by decide) (Nat.le_of_ble_eq_true rfl) (Nat.le_of_ble_eq_true rfl) (fun k13 μ13 e13 => ?_)
  refine WN_put (n := 16) dX0_init_59 f_X0_30 (kd_app (kd_app (kd_app (kd_app (kd_app (kd_app (kd_app hk))))))) (fun r hr => by cases hr; first | exact Or.inl rfl | exact Or.inr ⟨rfl, rfl, rfl⟩) rfl rfl (fun h => absurd h (by decide)) (fun μ14 e14 => ?_)
  refine WP_aload_n dX0_init_62 rfl rfl ⟨Nat.le_of_ble_eq_true rfl, Nat.le_of_ble_eq_true rfl⟩ ?_
  refine WP_bipush dX0_init_63 (by decide +kernel) (by decide) ?_
  refine WN_newarray (e := 0) (n := 100) (b := b + 7) (by simp only [List.length_append, List.length_cons, List.length_nil]; omega) dX0_init_65 rfl (by decide) ac_0 (by decide) (Nat.le_of_ble_eq_true rfl) (Nat.le_of_ble_eq_true rfl) (fun k15 μ15 e15 => ?_)
  refine WN_put (n := 16) dX0_init_67 f_X0_33 (kd_app (kd_app (kd_app (kd_app (kd_app (kd_app (kd_app (kd_app hk)))))))) (fun r hr => by cases hr; first | exact Or.inl rfl | exact Or.inr ⟨rfl, rfl, rfl⟩) rfl rfl (fun h => absurd h (by decide)) (fun μ16 e16 => ?_)
  refine WP_aload_n dX0_init_70 rfl rfl ⟨Nat.le_of_ble_eq_true rfl, Nat.le_of_ble_eq_true rfl⟩ ?_
  refine WP_bipush dX0_init_71 (by decide +kernel) (by decide) ?_
  refine WN_newarray (e := 0) (n := 100) (b := b + 8) (by simp only [List.length_append, List.length_cons, List.length_nil]; omega) dX0_init_73 rfl (by decide) ac_0 (by decide) (Nat.le_of_ble_eq_true rfl) (Nat.le_of_ble_eq_true rfl) (fun k17 μ17 e17 => ?_)
  refine WN_put (n := 16) dX0_init_75 f_X0_36 (kd_app (kd_app (kd_app (kd_app (kd_app (kd_app (kd_app (kd_app (kd_app hk))))))))) (fun r hr => by cases hr; first | exact Or.inl rfl | exact Or.inr ⟨rfl, rfl, rfl⟩) rfl rfl (fun h => absurd h (by decide)) (fun μ18 e18 => ?_)
  refine WP_aload_n dX0_init_78 rfl rfl ⟨Nat.le_of_ble_eq_true rfl, Nat.le_of_ble_eq_true rfl⟩ ?_
  refine WP_sipush dX0_init_79 (by decide +kernel) (by decide) ?_
  refine WN_newarray (e := 0) (n := 512) (b := b + 9) (by simp only [List.length_append, List.length_cons, List.length_nil]; omega) dX0_init_82 rfl (by decide) ac_0 (by decide) (Nat.le_of_ble_eq_true rfl) (Nat.le_of_ble_eq_true rfl) (fun k19 μ19 e19 => ?_)
  refine WN_put (n := 16) dX0_init_84 f_X0_39 (kd_app (kd_app (kd_app (kd_app (kd_app (kd_app (kd_app (kd_app (kd_app (kd_app hk)))))))))) (fun r hr => by cases hr; first | exact Or.inl rfl | exact Or.inr ⟨rfl, rfl, rfl⟩) rfl rfl (fun h => absurd h (by decide)) (fun μ20 e20 => ?_)
  refine WP_aload_n dX0_init_87 rfl rfl ⟨Nat.le_of_ble_eq_true rfl, Nat.le_of_ble_eq_true rfl⟩ ?_
  refine WP_sipush dX0_init_88 (by decide +kernel) (by decide) ?_
  refine WN_newarray (e := 0) (n := 512) (b := b + 10) (by simp only [List.length_append, List.length_cons, List.length_nil]; omega) dX0_init_91 rfl (by decide) ac_0 (by decide) (Nat.le_of_ble_eq_true rfl) (Nat.le_of_ble_eq_true rfl) (fun k21 μ21 e21 => ?_)
  refine WN_put (n := 16) dX0_init_93 f_X0_42 (kd_app (kd_app (kd_app (kd_app (kd_app (kd_app (kd_app (kd_app (kd_app (kd_app (kd_app hk))))))))))) (fun r hr => by cases hr; first | exact Or.inl rfl | exact Or.inr ⟨rfl, rfl, rfl⟩) rfl rfl (fun h => absurd h (by decide)) (fun μ22 e22 => ?_)
  exact WP_return dX0_init_96 rfl ⟨rfl, by simp [oX0], by subst e1; subst e2; subst e3; subst e4; subst e5; subst e6; subst e7; subst e8; subst e9; subst e10; subst e11; subst e12; subst e13; subst e14; subst e15; subst e16; subst e17; subst e18; subst e19; subst e20; subst e21; subst e22; rfl⟩
def oX3 : List (Nat × Nat) := [(0, 36), (0, 36), (0, 36), (0, 9), (0, 64), (1, 72), (1, 72)]
def cX3 (a b : Int) (μ : Mem) : Mem :=
  let μ1 : Mem := fun c j => if c = b then 0 else μ c j
  let μ2 : Mem := mup μ1 (a) 0 (b)
  let μ3 : Mem := fun c j => if c = b + 1 then 0 else μ2 c j
  let μ4 : Mem := mup μ3 (a) 1 (b + 1)
  let μ5 : Mem := fun c j => if c = b + 2 then 0 else μ4 c j
  let μ6 : Mem := mup μ5 (a) 2 (b + 2)
  let μ7 : Mem := fun c j => if c = b + 3 then 0 else μ6 c j
  let μ8 : Mem := mup μ7 (a) 5 (b + 3)
  let μ9 : Mem := fun c j => if c = b + 4 then 0 else μ8 c j
  let μ10 : Mem := mup μ9 (a) 6 (b + 4)
  let μ11 : Mem := fun c j => if c = b + 5 then 0 else μ10 c j
  let μ12 : Mem := mup μ11 (a) 7 (b + 5)
  let μ13 : Mem := fun c j => if c = b + 6 then 0 else μ12 c j
  let μ14 : Mem := mup μ13 (a) 8 (b + 6)
  μ14
theorem cX3_fr {a b : Int} {μ : Mem} {c j : Int} (h1 : c ≠ a) (h2 : c < b) (h0 : a < b) : cX3 a b μ c j = μ c j := by
  simp only [cX3, mup_ap]
  repeat (first | rw [if_neg (by omega)])
theorem kc_X3 {d : Nat} {sc : SC} {K : List (Nat × Nat)} {a b : Int} {μ : Mem} (hd : 1 ≤ d) (hb : b = (K.length : Int)) (ha : 0 ≤ a ∧ a < b) (hk : kd (TN K sc) a = some (33, 9)) : CT mX3_init d 7 325 (TN K sc) [(2, a)] μ (fun r K' μ' => r = none ∧ K' = K ++ oX3 ∧ μ' = cX3 a b μ) := by
  refine CT_of mp_X3_init (Nat.le_of_ble_eq_true rfl) ?_
  refine WP_aload_n dX3_init_0 rfl rfl ⟨Nat.le_of_ble_eq_true rfl, Nat.le_of_ble_eq_true rfl⟩ ?_
  refine WP_objInit dX3_init_1 ⟨rfl, ha.1⟩ l_X3_3 oi_inst oi_code ⟨by show 1 ≤ d; omega, by show 20 ≤ 64 * d; omega⟩ (Nat.le_of_ble_eq_true rfl) ?_
  refine WP_aload_n dX3_init_4 rfl rfl ⟨Nat.le_of_ble_eq_true rfl, Nat.le_of_ble_eq_true rfl⟩ ?_
  refine WP_bipush dX3_init_5 (by decide +kernel) (by decide) ?_
  refine WN_newarray (e := 0) (n := 36) (b := b) hb dX3_init_7 rfl (by decide) ac_0 (by decide) (Nat.le_of_ble_eq_true rfl) (Nat.le_of_ble_eq_true rfl) (fun k1 μ1 e1 => ?_)
  refine WN_put (n := 9) dX3_init_9 f_X3_9 (kd_app hk) (fun r hr => by cases hr; first | exact Or.inl rfl | exact Or.inr ⟨rfl, rfl, rfl⟩) rfl rfl (fun h => absurd h (by decide)) (fun μ2 e2 => ?_)
  refine WP_aload_n dX3_init_12 rfl rfl ⟨Nat.le_of_ble_eq_true rfl, Nat.le_of_ble_eq_true rfl⟩ ?_
  refine WP_bipush dX3_init_13 (by decide +kernel) (by decide) ?_
  refine WN_newarray (e := 0) (n := 36) (b := b + 1) (by simp only [List.length_append, List.length_cons, List.length_nil]; omega) dX3_init_15 rfl (by decide) ac_0 (by decide) (Nat.le_of_ble_eq_true rfl) (Nat.le_of_ble_eq_true rfl) (fun k3 μ3 e3 => ?_)
  refine WN_put (n := 9) dX3_init_17 f_X3_15 (kd_app (kd_app hk)) (fun r hr => by cases hr; first | exact Or.inl rfl | exact Or.inr ⟨rfl, rfl, rfl⟩) rfl rfl (fun h => absurd h (by decide)) (fun μ4 e4 => ?_)
  refine WP_aload_n dX3_init_20 rfl rfl ⟨Nat.le_of_ble_eq_true rfl, Nat.le_of_ble_eq_true rfl⟩ ?_
  refine WP_bipush dX3_init_21 (by decide +kernel) (by decide) ?_
  refine WN_newarray (e := 0) (n := 36) (b := b + 2) (by simp only [List.length_append, List.length_cons, List.length_nil]; omega) dX3_init_23 rfl (by decide) ac_0 (by decide) (Nat.le_of_ble_eq_true rfl) (Nat.le_of_ble_eq_true rfl) (fun k5 μ5 e5 => ?_)
  refine WN_put (n := 9) dX3_init_25 f_X3_18 (kd_app (kd_app (kd_app hk))) (fun r hr => by cases hr; first | exact Or.inl rfl | exact Or.inr ⟨rfl, rfl, rfl⟩) rfl rfl (fun h => absurd h (by decide)) (fun μ6 e6 => ?_)
  refine WP_aload_n dX3_init_28 rfl rfl ⟨Nat.le_of_ble_eq_true rfl, Nat.le_of_ble_eq_true rfl⟩ ?_
  refine WP_bipush dX3_init_29 (by decide +kernel) (by decide) ?_
  refine WN_newarray (e := 0) (n := 9) (b := b + 3) (by simp only [List.length_append, List.length_cons, List.length_nil]; omega) dX3_init_31 rfl (by decide) ac_0 (by decide) (Nat.le_of_ble_eq_true rfl) (Nat.le_of_ble_eq_true rfl) (fun k7 μ7 e7 => ?_)
  refine WN_put (n := 9) dX3_init_33 f_X3_21 (kd_app (kd_app (kd_app (kd_app hk)))) (fun r hr => by cases hr; first | exact Or.inl rfl | exact Or.inr ⟨rfl, rfl, rfl⟩) rfl rfl (fun h => absurd h (by decide)) (fun μ8 e8 => ?_)
  refine WP_aload_n dX3_init_36 rfl rfl ⟨Nat.le_of_ble_eq_true rfl, Nat.le_of_ble_eq_true rfl⟩ ?_
  refine WP_bipush dX3_init_37 (by decide +kernel) (by decide) ?_
  refine WN_newarray (e := 0) (n := 64) (b := b + 4) (by simp only [List.length_append, List.length_cons, List.length_nil]; omega) dX3_init_39 rfl (by decide) ac_0 (by decide) (Nat.le_of_ble_eq_true rfl) (Nat.le_of_ble_eq_true rfl) (fun k9 μ9 e9 => ?_)
  refine WN_put (n := 9) dX3_init_41 f_X3_24 (kd_app (kd_app (kd_app (kd_app (kd_app hk))))) (fun r hr => by cases hr; first | exact Or.inl rfl | exact Or.inr ⟨rfl, rfl, rfl⟩) rfl rfl (fun h => absurd h (by decide)) (fun μ10 e10 => ?_)
  refine WP_aload_n dX3_init_44 rfl rfl ⟨Nat.le_of_ble_eq_true rfl, Nat.le_of_ble_eq_true rfl⟩ ?_
  refine WP_bipush dX3_init_45 (by decide +kernel) (by decide) ?_
  refine WN_newarray (e := 1) (n := 72) (b := b + 5) (by simp only [List.length_append, List.length_cons, List.length_nil]; omega) dX3_init_47 rfl (by decide) ac_1 (by decide) (Nat.le_of_ble_eq_true rfl) (Nat.le_of_ble_eq_true rfl) (fun k11 μ11 e11 => ?_)
  refine WN_put (n := 9) dX3_init_49 f_X3_27 (kd_app (kd_app (kd_app (kd_app (kd_app (kd_app hk)))))) (fun r hr => by cases hr; first | exact Or.inl rfl | exact Or.inr ⟨rfl, rfl, rfl⟩) rfl rfl (fun h => absurd h (by decide)) (fun μ12 e12 => ?_)
  refine WP_aload_n dX3_init_52 rfl rfl ⟨Nat.le_of_ble_eq_true rfl, Nat.le_of_ble_eq_true rfl⟩ ?_
  refine WP_bipush dX3_init_53 (by decide +kernel) (by decide) ?_
  refine WN_newarray (e := 1) (n := 72) (b := b + 6) (by simp only [List.length_append, List.length_cons, List.length_nil]; omega) dX3_init_55 rfl (by decide) ac_1 (by decide) (Nat.le_of_ble_eq_true rfl) (Nat.le_of_ble_eq_true rfl) (fun k13 μ13 e13 => ?_)
  refine WN_put (n := 9) dX3_init_57 f_X3_31 (kd_app (kd_app (kd_app (kd_app (kd_app (kd_app (kd_app hk))))))) (fun r hr => by cases hr; first | exact Or.inl rfl | exact Or.inr ⟨rfl, rfl, rfl⟩) rfl rfl (fun h => absurd h (by decide)) (fun μ14 e14 => ?_)
  exact WP_return dX3_init_60 rfl ⟨rfl, by simp [oX3], by subst e1; subst e2; subst e3; subst e4; subst e5; subst e6; subst e7; subst e8; subst e9; subst e10; subst e11; subst e12; subst e13; subst e14; rfl⟩
def oX1 : List (Nat × Nat) := [(0, 6), (0, 6), (0, 6), (0, 900), (0, 3), (0, 3), (36, 7), (0, 10), (0, 10), (0, 10), (0, 10), (0, 6)]
def cX1 (a b : Int) (μ : Mem) : Mem :=
  let μ1 : Mem := mup μ (a) 0 (1)
  let μ2 : Mem := mup μ1 (a) 1 (1)
  let μ3 : Mem := fun c j => if c = b then 0 else μ2 c j
  let μ4 : Mem := mup μ3 (a) 4 (b)
  let μ5 : Mem := fun c j => if c = b + 1 then 0 else μ4 c j
  let μ6 : Mem := mup μ5 (a) 5 (b + 1)
  let μ7 : Mem := fun c j => if c = b + 2 then 0 else μ6 c j
  let μ8 : Mem := mup μ7 (a) 6 (b + 2)
  let μ9 : Mem := fun c j => if c = b + 3 then 0 else μ8 c j
  let μ10 : Mem := mup μ9 (a) 7 (b + 3)
  let μ11 : Mem := fun c j => if c = b + 4 then 0 else μ10 c j
  let μ12 : Mem := mup μ11 (a) 8 (b + 4)
  let μ13 : Mem := fun c j => if c = b + 5 then 0 else μ12 c j
  let μ14 : Mem := mup μ13 (a) 9 (b + 5)
  let μ15 : Mem := fun c j => if c = b + 6 then (if 0 ≤ j then dfl 6 j.toNat else 0) else μ14 c j
  let μ16 : Mem := cX6 (b + 6) (b + 7) μ15
  let μ17 : Mem := mup μ16 (a) 10 (b + 6)
  μ17
theorem cX1_fr {a b : Int} {μ : Mem} {c j : Int} (h1 : c ≠ a) (h2 : c < b) (h0 : a < b) : cX1 a b μ c j = μ c j := by
  simp only [cX1, mup_ap]
  repeat (first | rw [if_neg (by omega)] | rw [cX6_fr (by omega) (by omega) (by omega)])
theorem kc_X1 {d : Nat} {sc : SC} {K : List (Nat × Nat)} {a b : Int} {μ : Mem} (hd : 2 ≤ d) (hb : b = (K.length : Int)) (ha : 0 ≤ a ∧ a < b) (hk : kd (TN K sc) a = some (31, 11)) : CT mX1_init d 12 977 (TN K sc) [(2, a)] μ (fun r K' μ' => r = none ∧ K' = K ++ oX1 ∧ μ' = cX1 a b μ) := by
  refine CT_of mp_X1_init (Nat.le_of_ble_eq_true rfl) ?_
  refine WP_aload_n dX1_init_0 rfl rfl ⟨Nat.le_of_ble_eq_true rfl, Nat.le_of_ble_eq_true rfl⟩ ?_
  refine WP_objInit dX1_init_1 ⟨rfl, ha.1⟩ l_X1_3 oi_inst oi_code ⟨by show 1 ≤ d; omega, by show 20 ≤ 64 * d; omega⟩ (Nat.le_of_ble_eq_true rfl) ?_
  refine WP_aload_n dX1_init_4 rfl rfl ⟨Nat.le_of_ble_eq_true rfl, Nat.le_of_ble_eq_true rfl⟩ ?_
  refine WP_iconst dX1_init_5 (by decide) ?_
  refine WN_put (n := 11) dX1_init_6 f_X1_9 hk (fun r hr => by cases hr; first | exact Or.inl rfl | exact Or.inr ⟨rfl, rfl, rfl⟩) rfl rfl (fun h => absurd h (by decide)) (fun μ1 e1 => ?_)
  refine WP_aload_n dX1_init_9 rfl rfl ⟨Nat.le_of_ble_eq_true rfl, Nat.le_of_ble_eq_true rfl⟩ ?_
  refine WP_iconst dX1_init_10 (by decide) ?_
  refine WN_put (n := 11) dX1_init_11 f_X1_15 hk (fun r hr => by cases hr; first | exact Or.inl rfl | exact Or.inr ⟨rfl, rfl, rfl⟩) rfl rfl (fun h => absurd h (by decide)) (fun μ2 e2 => ?_)
  refine WP_aload_n dX1_init_14 rfl rfl ⟨Nat.le_of_ble_eq_true rfl, Nat.le_of_ble_eq_true rfl⟩ ?_
  refine WP_bipush dX1_init_15 (by decide +kernel) (by decide) ?_
  refine WN_newarray (e := 0) (n := 6) (b := b) hb dX1_init_17 rfl (by decide) ac_0 (by decide) (Nat.le_of_ble_eq_true rfl) (Nat.le_of_ble_eq_true rfl) (fun k3 μ3 e3 => ?_)
  refine WN_put (n := 11) dX1_init_19 f_X1_18 (kd_app hk) (fun r hr => by cases hr; first | exact Or.inl rfl | exact Or.inr ⟨rfl, rfl, rfl⟩) rfl rfl (fun h => absurd h (by decide)) (fun μ4 e4 => ?_)
  refine WP_aload_n dX1_init_22 rfl rfl ⟨Nat.le_of_ble_eq_true rfl, Nat.le_of_ble_eq_true rfl⟩ ?_
  refine WP_bipush dX1_init_23 (by decide +kernel) (by decide) ?_
  refine WN_newarray (e := 0) (n := 6) (b := b + 1) (by simp only [List.length_append, List.length_cons, List.length_nil]; omega) dX1_init_25 rfl (by decide) ac_0 (by decide) (Nat.le_of_ble_eq_true rfl) (Nat.le_of_ble_eq_true rfl) (fun k5 μ5 e5 => ?_)
  refine WN_put (n := 11) dX1_init_27 f_X1_22 (kd_app (kd_app hk)) (fun r hr => by cases hr; first | exact Or.inl rfl | exact Or.inr ⟨rfl, rfl, rfl⟩) rfl rfl (fun h => absurd h (by decide)) (fun μ6 e6 => ?_)
  refine WP_aload_n dX1_init_30 rfl rfl ⟨Nat.le_of_ble_eq_true rfl, Nat.le_of_ble_eq_true rfl⟩ ?_
  refine WP_bipush dX1_init_31 (by decide +kernel) (by decide) ?_
  refine WN_newarray (e := 0) (n := 6) (b := b + 2) (by simp only [List.length_append, List.length_cons, List.length_nil]; omega) dX1_init_33 rfl (by decide) ac_0 (by decide) (Nat.le_of_ble_eq_true rfl) (Nat.le_of_ble_eq_true rfl) (fun k7 μ7 e7 => ?_)
  refine WN_put (n := 11) dX1_init_35 f_X1_25 (kd_app (kd_app (kd_app hk))) (fun r hr => by cases hr; first | exact Or.inl rfl | exact Or.inr ⟨rfl, rfl, rfl⟩) rfl rfl (fun h => absurd h (by decide)) (fun μ8 e8 => ?_)
  refine WP_aload_n dX1_init_38 rfl rfl ⟨Nat.le_of_ble_eq_true rfl, Nat.le_of_ble_eq_true rfl⟩ ?_
  refine WP_sipush dX1_init_39 (by decide +kernel) (by decide) ?_
  refine WN_newarray (e := 0) (n := 900) (b := b + 3) (by simp only [List.length_append, List.length_cons, List.length_nil]; omega) dX1_init_42 rfl (by decide) ac_0 (by decide) (Nat.le_of_ble_eq_true rfl) (Nat.le_of_ble_eq_true rfl) (fun k9 μ9 e9 => ?_)
  refine WN_put (n := 11) dX1_init_44 f_X1_28 (kd_app (kd_app (kd_app (kd_app hk)))) (fun r hr => by cases hr; first | exact Or.inl rfl | exact Or.inr ⟨rfl, rfl, rfl⟩) rfl rfl (fun h => absurd h (by decide)) (fun μ10 e10 => ?_)
  refine WP_aload_n dX1_init_47 rfl rfl ⟨Nat.le_of_ble_eq_true rfl, Nat.le_of_ble_eq_true rfl⟩ ?_
  refine WP_iconst dX1_init_48 (by decide) ?_
  refine WN_newarray (e := 0) (n := 3) (b := b + 4) (by simp only [List.length_append, List.length_cons, List.length_nil]; omega) dX1_init_49 rfl (by decide) ac_0 (by decide) (Nat.le_of_ble_eq_true rfl) (Nat.le_of_ble_eq_true rfl) (fun k11 μ11 e11 => ?_)
  refine WN_put (n := 11) dX1_init_51 f_X1_31 (kd_app (kd_app (kd_app (kd_app (kd_app hk))))) (fun r hr => by cases hr; first | exact Or.inl rfl | exact Or.inr ⟨rfl, rfl, rfl⟩) rfl rfl (fun h => absurd h (by decide)) (fun μ12 e12 => ?_)
  refine WP_aload_n dX1_init_54 rfl rfl ⟨Nat.le_of_ble_eq_true rfl, Nat.le_of_ble_eq_true rfl⟩ ?_
  refine WP_iconst dX1_init_55 (by decide) ?_
  refine WN_newarray (e := 0) (n := 3) (b := b + 5) (by simp only [List.length_append, List.length_cons, List.length_nil]; omega) dX1_init_56 rfl (by decide) ac_0 (by decide) (Nat.le_of_ble_eq_true rfl) (Nat.le_of_ble_eq_true rfl) (fun k13 μ13 e13 => ?_)
  refine WN_put (n := 11) dX1_init_58 f_X1_34 (kd_app (kd_app (kd_app (kd_app (kd_app (kd_app hk)))))) (fun r hr => by cases hr; first | exact Or.inl rfl | exact Or.inr ⟨rfl, rfl, rfl⟩) rfl rfl (fun h => absurd h (by decide)) (fun μ14 e14 => ?_)
  refine WP_aload_n dX1_init_61 rfl rfl ⟨Nat.le_of_ble_eq_true rfl, Nat.le_of_ble_eq_true rfl⟩ ?_
  refine WN_new (ci := 6) (n := 7) (b := b + 6) (by simp only [List.length_append, List.length_cons, List.length_nil]; omega) dX1_init_62 rfl rfl cl_X1_37 in_RX6 ini_RX6 (by decide) (Nat.le_of_ble_eq_true rfl) (Nat.le_of_ble_eq_true rfl) (fun k15 μ15 e15 => ?_)
  refine WP_dup dX1_init_65 (by simp) ?_
  refine WP_invIN (md := mX1_init) (d' := 1) (v := (2, b + 6)) (as := []) (mc := 5) (ms := 46) dX1_init_66 l_X1_39 mw_X6_init rfl rfl mi_X6_init mo_X6_init ⟨rfl, by show 0 ≤ b + 6; omega⟩ ⟨by show _ ≤ d; omega, by show _ ≤ 64 * d; omega⟩ (Nat.le_of_ble_eq_true rfl) ⟨Nat.le_of_ble_eq_true rfl, Nat.le_of_ble_eq_true rfl⟩ (kc_X6 (b := b + 7) (by decide) (by simp only [List.length_append, List.length_cons, List.length_nil]; omega) ⟨by omega, by omega⟩ k15) ?_
  rintro _ _ μ16 ⟨rfl, rfl, e16⟩
  refine WN_put (n := 11) dX1_init_69 f_X1_40 (kd_app (kd_app (kd_app (kd_app (kd_app (kd_app (kd_app (kd_app hk)))))))) (fun r hr => by cases hr; first | exact Or.inl rfl | exact Or.inr ⟨rfl, rfl, rfl⟩) rfl rfl (fun h => absurd h (by decide)) (fun μ17 e17 => ?_)
  exact WP_return dX1_init_72 rfl ⟨rfl, by simp [oX1, oX6], by subst e1; subst e2; subst e3; subst e4; subst e5; subst e6; subst e7; subst e8; subst e9; subst e10; subst e11; subst e12; subst e13; subst e14; subst e15; subst e16; subst e17; rfl⟩

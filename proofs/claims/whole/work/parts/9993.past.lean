def oX5_0 : List (Nat × Nat) := [(16, 10), (36, 7), (0, 10), (0, 10), (0, 10), (0, 10), (0, 6)]
def cX5_0 (μ : Mem) : Mem :=
  let μ1 : Mem := fun c j => if c = 35 then (-1) else μ c j
  let μ2 : Mem := mup μ1 (34) 1 (35)
  let μ3 : Mem := fun c j => if c = 36 then (if 0 ≤ j then dfl 6 j.toNat else 0) else μ2 c j
  let μ4 : Mem := cX6 (36) (37) μ3
  let μ5 : Mem := mup μ4 35 0 36
  μ5
theorem cX5_0_fr {μ : Mem} {c j : Int} (h1 : c ≠ 34) (h2 : c < 35) : cX5_0 μ c j = μ c j := by
  simp only [cX5_0, mup_ap]
  repeat (first | rw [if_neg (by omega)] | rw [cX6_fr (by omega) (by omega) (by omega)])
theorem kq_X5_0 {d : Nat} {sc : SC} {Z : ZT} {K : List (Nat × Nat)} {μ : Mem} (hd : 2 ≤ d) (hb : (35 : Int) = (K.length : Int)) (h34 : kd (TN K sc) 34 = some (35, 2)) (k : ∀ μ' : Mem, μ' = cX5_0 μ → (42 : Int) = (((K ++ oX5_0) : List (Nat × Nat)).length : Int) → kd (TN (K ++ oX5_0) sc) 34 = some (35, 2) → kd (TN (K ++ oX5_0) sc) 35 = some (16, 10) → μ' 34 1 = 35 → WP mX5_init (RM d 61 540) Z (TN (K ++ oX5_0) sc) 7 63 25 [(2, 34), (0, 1)] [(2, 35)] μ') : WP mX5_init (RM d 61 540) Z (TN K sc) 0 0 0 [(2, 34), (9, 0)] [] μ := by
  refine WP_aload_n dX5_init_0 rfl rfl ⟨Nat.le_of_ble_eq_true rfl, Nat.le_of_ble_eq_true rfl⟩ ?_
  refine WP_objInit dX5_init_1 ⟨rfl, by decide⟩ l_X5_3 oi_inst oi_code ⟨by show 1 ≤ d; omega, by show 20 ≤ 64 * d; omega⟩ (Nat.le_of_ble_eq_true rfl) ?_
  refine WP_aload_n dX5_init_4 rfl rfl ⟨Nat.le_of_ble_eq_true rfl, Nat.le_of_ble_eq_true rfl⟩ ?_
  refine WP_bipush dX5_init_5 (by decide +kernel) (by decide) ?_
  refine WN_anewarray (ci := 6) (n := 10) (b := 35) hb dX5_init_7 (by decide) rfl cl_X5_9 ov_RX6 (by decide) (Nat.le_of_ble_eq_true rfl) (Nat.le_of_ble_eq_true rfl) (fun k1 μ1 e1 => ?_)
  refine WN_put (n := 2) dX5_init_10 f_X5_11 (kd_app h34) (fun r hr => by cases hr; first | exact Or.inl rfl | exact Or.inr ⟨rfl, rfl, rfl⟩) rfl rfl (fun h => absurd h (by decide)) (fun μ2 e2 => ?_)
  have hv34_1_2 : μ2 34 1 = 35 := by rw [e2]; exact mup_at _ _ _ _
  refine WP_iconst dX5_init_13 (by decide) ?_
  refine WP_istore_n (L' := [(2, 34), (0, 0)]) dX5_init_14 rfl (by decide) rfl ?_
  refine WP_iload_n dX5_init_15 rfl rfl ?_
  refine WP_bipush dX5_init_16 (by decide +kernel) (by decide) ?_
  refine WP_icmp_ge (tgt := 40) dX5_init_18 (by decide) (fun q => absurd q (by decide)) (fun _ => ?_)
  refine WP_aload_n dX5_init_21 rfl rfl ⟨Nat.le_of_ble_eq_true rfl, Nat.le_of_ble_eq_true rfl⟩ ?_
  refine WP_getfield (ci := 5) (j := 1) (n := 2) (t := 2) (x := 35) dX5_init_22 f_X5_11 (kd_app h34) rfl hv34_1_2 ?_
  refine WP_iload_n dX5_init_25 rfl rfl ?_
  refine WN_new (ci := 6) (n := 7) (b := 36) (by simp only [List.length_append, List.length_cons, List.length_nil]; omega) dX5_init_26 rfl rfl cl_X5_9 in_RX6 ini_RX6 (by decide) (Nat.le_of_ble_eq_true rfl) (Nat.le_of_ble_eq_true rfl) (fun k3 μ3 e3 => ?_)
  have hv34_1_3 : μ3 34 1 = 35 := by rw [e3]; show (if (34 : Int) = 36 then _ else _) = _; rw [if_neg (by decide)]; exact hv34_1_2
  refine WP_dup dX5_init_29 (by simp) ?_
  refine WP_invIN (md := mX5_init) (d' := 1) (v := (2, 36)) (as := []) (mc := 5) (ms := 46) dX5_init_30 l_X5_17 mw_X6_init rfl rfl mi_X6_init mo_X6_init ⟨rfl, by show 0 ≤ 36; omega⟩ ⟨by show _ ≤ d; omega, by show _ ≤ 64 * d; omega⟩ (Nat.le_of_ble_eq_true rfl) ⟨Nat.le_of_ble_eq_true rfl, Nat.le_of_ble_eq_true rfl⟩ (kc_X6 (b := 37) (by decide) (by simp only [List.length_append, List.length_cons, List.length_nil]; omega) ⟨by omega, by omega⟩ k3) ?_
  rintro _ _ μ4 ⟨rfl, rfl, e4⟩
  have hv34_1_4 : μ4 34 1 = 35 := by rw [e4]; exact (cX6_fr (by decide) (by decide) (by decide)).trans hv34_1_3
  refine WP_aastore (ci := 6) dX5_init_33 (kd_app (kd_app k1)) (by decide) (kd_app k3) ⟨by decide, by decide⟩ ?_
  obtain ⟨μ5, e5⟩ : ∃ m : Mem, m = mup μ4 35 0 36 := ⟨_, rfl⟩
  rw [← e5]
  have hv34_1_5 : μ5 34 1 = 35 := by rw [e5, mup_ap, if_neg (by decide)]; exact hv34_1_4
  refine WP_iinc (L' := [(2, 34), (0, 1)]) dX5_init_34 rfl (by decide) ⟨by decide, by decide⟩ rfl ?_
  refine WP_goto (tgt := 15) dX5_init_37 (by decide) ?_
  refine WP_iload_n dX5_init_15 rfl rfl ?_
  refine WP_bipush dX5_init_16 (by decide +kernel) (by decide) ?_
  refine WP_icmp_ge (tgt := 40) dX5_init_18 (by decide) (fun q => absurd q (by decide)) (fun _ => ?_)
  refine WP_aload_n dX5_init_21 rfl rfl ⟨Nat.le_of_ble_eq_true rfl, Nat.le_of_ble_eq_true rfl⟩ ?_
  refine WP_getfield (ci := 5) (j := 1) (n := 2) (t := 2) (x := 35) dX5_init_22 f_X5_11 (kd_app (kd_app (kd_app h34))) rfl hv34_1_5 ?_
  have hK : (((K ++ [(16, 10)]) ++ [(36, 7)]) ++ oX6) = K ++ oX5_0 := by simp only [oX5_0, oX6, List.append_assoc, List.cons_append, List.nil_append, List.append_nil]
  show WP mX5_init (RM d 61 540) Z (TN (((K ++ [(16, 10)]) ++ [(36, 7)]) ++ oX6) sc) 7 63 25 [(2, 34), (0, 1)] [(2, 35)] μ5
  rw [hK]
  exact k μ5 (by rw [e5, e4, e3, e2, e1]; first | done | rfl) (by rw [← hK]; exact (by simp only [List.length_append, List.length_cons, List.length_nil, oX6]; omega)) (by rw [← hK]; exact (kd_app (kd_app (kd_app h34)))) (by rw [← hK]; exact (kd_app (kd_app k1))) hv34_1_5

def oX5_1 : List (Nat × Nat) := [(36, 7), (0, 10), (0, 10), (0, 10), (0, 10), (0, 6), (36, 7), (0, 10), (0, 10), (0, 10), (0, 10), (0, 6)]
def cX5_1 (μ : Mem) : Mem :=
  let μ1 : Mem := fun c j => if c = 42 then (if 0 ≤ j then dfl 6 j.toNat else 0) else μ c j
  let μ2 : Mem := cX6 (42) (43) μ1
  let μ3 : Mem := mup μ2 35 1 42
  let μ4 : Mem := fun c j => if c = 48 then (if 0 ≤ j then dfl 6 j.toNat else 0) else μ3 c j
  let μ5 : Mem := cX6 (48) (49) μ4
  let μ6 : Mem := mup μ5 35 2 48
  μ6
theorem cX5_1_fr {μ : Mem} {c j : Int} (h1 : c ≠ 34) (h2 : c < 35) : cX5_1 μ c j = μ c j := by
  simp only [cX5_1, mup_ap]
  repeat (first | rw [if_neg (by omega)] | rw [cX6_fr (by omega) (by omega) (by omega)])
theorem kq_X5_1 {d : Nat} {sc : SC} {Z : ZT} {K : List (Nat × Nat)} {μ : Mem} (hd : 2 ≤ d) (hb : (42 : Int) = (K.length : Int)) (h34 : kd (TN K sc) 34 = some (35, 2)) (h35 : kd (TN K sc) 35 = some (16, 10)) (hv34_1_0 : μ 34 1 = 35) (k : ∀ μ' : Mem, μ' = cX5_1 μ → (54 : Int) = (((K ++ oX5_1) : List (Nat × Nat)).length : Int) → kd (TN (K ++ oX5_1) sc) 34 = some (35, 2) → kd (TN (K ++ oX5_1) sc) 35 = some (16, 10) → μ' 34 1 = 35 → WP mX5_init (RM d 61 540) Z (TN (K ++ oX5_1) sc) 19 169 16 [(2, 34), (0, 3)] [(0, 3)] μ') : WP mX5_init (RM d 61 540) Z (TN K sc) 7 63 25 [(2, 34), (0, 1)] [(2, 35)] μ := by
  refine WP_iload_n dX5_init_25 rfl rfl ?_
  refine WN_new (ci := 6) (n := 7) (b := 42) hb dX5_init_26 rfl rfl cl_X5_9 in_RX6 ini_RX6 (by decide) (Nat.le_of_ble_eq_true rfl) (Nat.le_of_ble_eq_true rfl) (fun k1 μ1 e1 => ?_)
  have hv34_1_1 : μ1 34 1 = 35 := by rw [e1]; show (if (34 : Int) = 42 then _ else _) = _; rw [if_neg (by decide)]; exact hv34_1_0
  refine WP_dup dX5_init_29 (by simp) ?_
  refine WP_invIN (md := mX5_init) (d' := 1) (v := (2, 42)) (as := []) (mc := 5) (ms := 46) dX5_init_30 l_X5_17 mw_X6_init rfl rfl mi_X6_init mo_X6_init ⟨rfl, by show 0 ≤ 42; omega⟩ ⟨by show _ ≤ d; omega, by show _ ≤ 64 * d; omega⟩ (Nat.le_of_ble_eq_true rfl) ⟨Nat.le_of_ble_eq_true rfl, Nat.le_of_ble_eq_true rfl⟩ (kc_X6 (b := 43) (by decide) (by simp only [List.length_append, List.length_cons, List.length_nil]; omega) ⟨by omega, by omega⟩ k1) ?_
  rintro _ _ μ2 ⟨rfl, rfl, e2⟩
  have hv34_1_2 : μ2 34 1 = 35 := by rw [e2]; exact (cX6_fr (by decide) (by decide) (by decide)).trans hv34_1_1
  refine WP_aastore (ci := 6) dX5_init_33 (kd_app (kd_app h35)) (by decide) (kd_app k1) ⟨by decide, by decide⟩ ?_
  obtain ⟨μ3, e3⟩ : ∃ m : Mem, m = mup μ2 35 1 42 := ⟨_, rfl⟩
  rw [← e3]
  have hv34_1_3 : μ3 34 1 = 35 := by rw [e3, mup_ap, if_neg (by decide)]; exact hv34_1_2
  refine WP_iinc (L' := [(2, 34), (0, 2)]) dX5_init_34 rfl (by decide) ⟨by decide, by decide⟩ rfl ?_
  refine WP_goto (tgt := 15) dX5_init_37 (by decide) ?_
  refine WP_iload_n dX5_init_15 rfl rfl ?_
  refine WP_bipush dX5_init_16 (by decide +kernel) (by decide) ?_
  refine WP_icmp_ge (tgt := 40) dX5_init_18 (by decide) (fun q => absurd q (by decide)) (fun _ => ?_)
  refine WP_aload_n dX5_init_21 rfl rfl ⟨Nat.le_of_ble_eq_true rfl, Nat.le_of_ble_eq_true rfl⟩ ?_
  refine WP_getfield (ci := 5) (j := 1) (n := 2) (t := 2) (x := 35) dX5_init_22 f_X5_11 (kd_app (kd_app h34)) rfl hv34_1_3 ?_
  refine WP_iload_n dX5_init_25 rfl rfl ?_
  refine WN_new (ci := 6) (n := 7) (b := 48) (by simp only [List.length_append, List.length_cons, List.length_nil, oX6]; omega) dX5_init_26 rfl rfl cl_X5_9 in_RX6 ini_RX6 (by decide) (Nat.le_of_ble_eq_true rfl) (Nat.le_of_ble_eq_true rfl) (fun k4 μ4 e4 => ?_)
  have hv34_1_4 : μ4 34 1 = 35 := by rw [e4]; show (if (34 : Int) = 48 then _ else _) = _; rw [if_neg (by decide)]; exact hv34_1_3
  refine WP_dup dX5_init_29 (by simp) ?_
  refine WP_invIN (md := mX5_init) (d' := 1) (v := (2, 48)) (as := []) (mc := 5) (ms := 46) dX5_init_30 l_X5_17 mw_X6_init rfl rfl mi_X6_init mo_X6_init ⟨rfl, by show 0 ≤ 48; omega⟩ ⟨by show _ ≤ d; omega, by show _ ≤ 64 * d; omega⟩ (Nat.le_of_ble_eq_true rfl) ⟨Nat.le_of_ble_eq_true rfl, Nat.le_of_ble_eq_true rfl⟩ (kc_X6 (b := 49) (by decide) (by simp only [List.length_append, List.length_cons, List.length_nil, oX6]; omega) ⟨by omega, by omega⟩ k4) ?_
  rintro _ _ μ5 ⟨rfl, rfl, e5⟩
  have hv34_1_5 : μ5 34 1 = 35 := by rw [e5]; exact (cX6_fr (by decide) (by decide) (by decide)).trans hv34_1_4
  refine WP_aastore (ci := 6) dX5_init_33 (kd_app (kd_app (kd_app (kd_app h35)))) (by decide) (kd_app k4) ⟨by decide, by decide⟩ ?_
  obtain ⟨μ6, e6⟩ : ∃ m : Mem, m = mup μ5 35 2 48 := ⟨_, rfl⟩
  rw [← e6]
  have hv34_1_6 : μ6 34 1 = 35 := by rw [e6, mup_ap, if_neg (by decide)]; exact hv34_1_5
  refine WP_iinc (L' := [(2, 34), (0, 3)]) dX5_init_34 rfl (by decide) ⟨by decide, by decide⟩ rfl ?_
  refine WP_goto (tgt := 15) dX5_init_37 (by decide) ?_
  refine WP_iload_n dX5_init_15 rfl rfl ?_
  have hK : ((((K ++ [(36, 7)]) ++ oX6) ++ [(36, 7)]) ++ oX6) = K ++ oX5_1 := by simp only [oX5_1, oX6, List.append_assoc, List.cons_append, List.nil_append, List.append_nil]
  show WP mX5_init (RM d 61 540) Z (TN ((((K ++ [(36, 7)]) ++ oX6) ++ [(36, 7)]) ++ oX6) sc) 19 169 16 [(2, 34), (0, 3)] [(0, 3)] μ6
  rw [hK]
  exact k μ6 (by rw [e6, e5, e4, e3, e2, e1]; first | done | rfl) (by rw [← hK]; exact (by simp only [List.length_append, List.length_cons, List.length_nil, oX6]; omega)) (by rw [← hK]; exact (kd_app (kd_app (kd_app (kd_app h34))))) (by rw [← hK]; exact (kd_app (kd_app (kd_app (kd_app h35))))) hv34_1_6

def oX5_2 : List (Nat × Nat) := [(36, 7), (0, 10), (0, 10), (0, 10), (0, 10), (0, 6), (36, 7), (0, 10), (0, 10), (0, 10), (0, 10), (0, 6)]
def cX5_2 (μ : Mem) : Mem :=
  let μ1 : Mem := fun c j => if c = 54 then (if 0 ≤ j then dfl 6 j.toNat else 0) else μ c j
  let μ2 : Mem := cX6 (54) (55) μ1
  let μ3 : Mem := mup μ2 35 3 54
  let μ4 : Mem := fun c j => if c = 60 then (if 0 ≤ j then dfl 6 j.toNat else 0) else μ3 c j
  let μ5 : Mem := cX6 (60) (61) μ4
  let μ6 : Mem := mup μ5 35 4 60
  μ6
theorem cX5_2_fr {μ : Mem} {c j : Int} (h1 : c ≠ 34) (h2 : c < 35) : cX5_2 μ c j = μ c j := by
  simp only [cX5_2, mup_ap]
  repeat (first | rw [if_neg (by omega)] | rw [cX6_fr (by omega) (by omega) (by omega)])
theorem kq_X5_2 {d : Nat} {sc : SC} {Z : ZT} {K : List (Nat × Nat)} {μ : Mem} (hd : 2 ≤ d) (hb : (54 : Int) = (K.length : Int)) (h34 : kd (TN K sc) 34 = some (35, 2)) (h35 : kd (TN K sc) 35 = some (16, 10)) (hv34_1_0 : μ 34 1 = 35) (k : ∀ μ' : Mem, μ' = cX5_2 μ → (66 : Int) = (((K ++ oX5_2) : List (Nat × Nat)).length : Int) → kd (TN (K ++ oX5_2) sc) 34 = some (35, 2) → kd (TN (K ++ oX5_2) sc) 35 = some (16, 10) → μ' 34 1 = 35 → WP mX5_init (RM d 61 540) Z (TN (K ++ oX5_2) sc) 31 275 34 [(2, 34), (0, 4)] [] μ') : WP mX5_init (RM d 61 540) Z (TN K sc) 19 169 16 [(2, 34), (0, 3)] [(0, 3)] μ := by
  refine WP_bipush dX5_init_16 (by decide +kernel) (by decide) ?_
  refine WP_icmp_ge (tgt := 40) dX5_init_18 (by decide) (fun q => absurd q (by decide)) (fun _ => ?_)
  refine WP_aload_n dX5_init_21 rfl rfl ⟨Nat.le_of_ble_eq_true rfl, Nat.le_of_ble_eq_true rfl⟩ ?_
  refine WP_getfield (ci := 5) (j := 1) (n := 2) (t := 2) (x := 35) dX5_init_22 f_X5_11 h34 rfl hv34_1_0 ?_
  refine WP_iload_n dX5_init_25 rfl rfl ?_
  refine WN_new (ci := 6) (n := 7) (b := 54) hb dX5_init_26 rfl rfl cl_X5_9 in_RX6 ini_RX6 (by decide) (Nat.le_of_ble_eq_true rfl) (Nat.le_of_ble_eq_true rfl) (fun k1 μ1 e1 => ?_)
  have hv34_1_1 : μ1 34 1 = 35 := by rw [e1]; show (if (34 : Int) = 54 then _ else _) = _; rw [if_neg (by decide)]; exact hv34_1_0
  refine WP_dup dX5_init_29 (by simp) ?_
  refine WP_invIN (md := mX5_init) (d' := 1) (v := (2, 54)) (as := []) (mc := 5) (ms := 46) dX5_init_30 l_X5_17 mw_X6_init rfl rfl mi_X6_init mo_X6_init ⟨rfl, by show 0 ≤ 54; omega⟩ ⟨by show _ ≤ d; omega, by show _ ≤ 64 * d; omega⟩ (Nat.le_of_ble_eq_true rfl) ⟨Nat.le_of_ble_eq_true rfl, Nat.le_of_ble_eq_true rfl⟩ (kc_X6 (b := 55) (by decide) (by simp only [List.length_append, List.length_cons, List.length_nil]; omega) ⟨by omega, by omega⟩ k1) ?_
  rintro _ _ μ2 ⟨rfl, rfl, e2⟩
  have hv34_1_2 : μ2 34 1 = 35 := by rw [e2]; exact (cX6_fr (by decide) (by decide) (by decide)).trans hv34_1_1
  refine WP_aastore (ci := 6) dX5_init_33 (kd_app (kd_app h35)) (by decide) (kd_app k1) ⟨by decide, by decide⟩ ?_
  obtain ⟨μ3, e3⟩ : ∃ m : Mem, m = mup μ2 35 3 54 := ⟨_, rfl⟩
  rw [← e3]
  have hv34_1_3 : μ3 34 1 = 35 := by rw [e3, mup_ap, if_neg (by decide)]; exact hv34_1_2
  refine WP_iinc (L' := [(2, 34), (0, 4)]) dX5_init_34 rfl (by decide) ⟨by decide, by decide⟩ rfl ?_
  refine WP_goto (tgt := 15) dX5_init_37 (by decide) ?_
  refine WP_iload_n dX5_init_15 rfl rfl ?_
  refine WP_bipush dX5_init_16 (by decide +kernel) (by decide) ?_
  refine WP_icmp_ge (tgt := 40) dX5_init_18 (by decide) (fun q => absurd q (by decide)) (fun _ => ?_)
  refine WP_aload_n dX5_init_21 rfl rfl ⟨Nat.le_of_ble_eq_true rfl, Nat.le_of_ble_eq_true rfl⟩ ?_
  refine WP_getfield (ci := 5) (j := 1) (n := 2) (t := 2) (x := 35) dX5_init_22 f_X5_11 (kd_app (kd_app h34)) rfl hv34_1_3 ?_
  refine WP_iload_n dX5_init_25 rfl rfl ?_
  refine WN_new (ci := 6) (n := 7) (b := 60) (by simp only [List.length_append, List.length_cons, List.length_nil, oX6]; omega) dX5_init_26 rfl rfl cl_X5_9 in_RX6 ini_RX6 (by decide) (Nat.le_of_ble_eq_true rfl) (Nat.le_of_ble_eq_true rfl) (fun k4 μ4 e4 => ?_)
  have hv34_1_4 : μ4 34 1 = 35 := by rw [e4]; show (if (34 : Int) = 60 then _ else _) = _; rw [if_neg (by decide)]; exact hv34_1_3
  refine WP_dup dX5_init_29 (by simp) ?_
  refine WP_invIN (md := mX5_init) (d' := 1) (v := (2, 60)) (as := []) (mc := 5) (ms := 46) dX5_init_30 l_X5_17 mw_X6_init rfl rfl mi_X6_init mo_X6_init ⟨rfl, by show 0 ≤ 60; omega⟩ ⟨by show _ ≤ d; omega, by show _ ≤ 64 * d; omega⟩ (Nat.le_of_ble_eq_true rfl) ⟨Nat.le_of_ble_eq_true rfl, Nat.le_of_ble_eq_true rfl⟩ (kc_X6 (b := 61) (by decide) (by simp only [List.length_append, List.length_cons, List.length_nil, oX6]; omega) ⟨by omega, by omega⟩ k4) ?_
  rintro _ _ μ5 ⟨rfl, rfl, e5⟩
  have hv34_1_5 : μ5 34 1 = 35 := by rw [e5]; exact (cX6_fr (by decide) (by decide) (by decide)).trans hv34_1_4
  refine WP_aastore (ci := 6) dX5_init_33 (kd_app (kd_app (kd_app (kd_app h35)))) (by decide) (kd_app k4) ⟨by decide, by decide⟩ ?_
  obtain ⟨μ6, e6⟩ : ∃ m : Mem, m = mup μ5 35 4 60 := ⟨_, rfl⟩
  rw [← e6]
  have hv34_1_6 : μ6 34 1 = 35 := by rw [e6, mup_ap, if_neg (by decide)]; exact hv34_1_5
  have hK : ((((K ++ [(36, 7)]) ++ oX6) ++ [(36, 7)]) ++ oX6) = K ++ oX5_2 := by simp only [oX5_2, oX6, List.append_assoc, List.cons_append, List.nil_append, List.append_nil]
  show WP mX5_init (RM d 61 540) Z (TN ((((K ++ [(36, 7)]) ++ oX6) ++ [(36, 7)]) ++ oX6) sc) 31 275 34 [(2, 34), (0, 4)] [] μ6
  rw [hK]
  exact k μ6 (by rw [e6, e5, e4, e3, e2, e1]; first | done | rfl) (by rw [← hK]; exact (by simp only [List.length_append, List.length_cons, List.length_nil, oX6]; omega)) (by rw [← hK]; exact (kd_app (kd_app (kd_app (kd_app h34))))) (by rw [← hK]; exact (kd_app (kd_app (kd_app (kd_app h35))))) hv34_1_6

def oX5_3 : List (Nat × Nat) := [(36, 7), (0, 10), (0, 10), (0, 10), (0, 10), (0, 6), (36, 7), (0, 10), (0, 10), (0, 10), (0, 10), (0, 6)]
def cX5_3 (μ : Mem) : Mem :=
  let μ1 : Mem := fun c j => if c = 66 then (if 0 ≤ j then dfl 6 j.toNat else 0) else μ c j
  let μ2 : Mem := cX6 (66) (67) μ1
  let μ3 : Mem := mup μ2 35 5 66
  let μ4 : Mem := fun c j => if c = 72 then (if 0 ≤ j then dfl 6 j.toNat else 0) else μ3 c j
  let μ5 : Mem := cX6 (72) (73) μ4
  μ5
theorem cX5_3_fr {μ : Mem} {c j : Int} (h1 : c ≠ 34) (h2 : c < 35) : cX5_3 μ c j = μ c j := by
  simp only [cX5_3, mup_ap]
  repeat (first | rw [if_neg (by omega)] | rw [cX6_fr (by omega) (by omega) (by omega)])
theorem kq_X5_3 {d : Nat} {sc : SC} {Z : ZT} {K : List (Nat × Nat)} {μ : Mem} (hd : 2 ≤ d) (hb : (66 : Int) = (K.length : Int)) (h34 : kd (TN K sc) 34 = some (35, 2)) (h35 : kd (TN K sc) 35 = some (16, 10)) (hv34_1_0 : μ 34 1 = 35) (k : ∀ μ' : Mem, μ' = cX5_3 μ → (78 : Int) = (((K ++ oX5_3) : List (Nat × Nat)).length : Int) → kd (TN (K ++ oX5_3) sc) 34 = some (35, 2) → kd (TN (K ++ oX5_3) sc) 72 = some (36, 7) → kd (TN (K ++ oX5_3) sc) 35 = some (16, 10) → μ' 34 1 = 35 → WP mX5_init (RM d 61 540) Z (TN (K ++ oX5_3) sc) 43 381 33 [(2, 34), (0, 6)] [(2, 72), (0, 6), (2, 35)] μ') : WP mX5_init (RM d 61 540) Z (TN K sc) 31 275 34 [(2, 34), (0, 4)] [] μ := by
  refine WP_iinc (L' := [(2, 34), (0, 5)]) dX5_init_34 rfl (by decide) ⟨by decide, by decide⟩ rfl ?_
  refine WP_goto (tgt := 15) dX5_init_37 (by decide) ?_
  refine WP_iload_n dX5_init_15 rfl rfl ?_
  refine WP_bipush dX5_init_16 (by decide +kernel) (by decide) ?_
  refine WP_icmp_ge (tgt := 40) dX5_init_18 (by decide) (fun q => absurd q (by decide)) (fun _ => ?_)
  refine WP_aload_n dX5_init_21 rfl rfl ⟨Nat.le_of_ble_eq_true rfl, Nat.le_of_ble_eq_true rfl⟩ ?_
  refine WP_getfield (ci := 5) (j := 1) (n := 2) (t := 2) (x := 35) dX5_init_22 f_X5_11 h34 rfl hv34_1_0 ?_
  refine WP_iload_n dX5_init_25 rfl rfl ?_
  refine WN_new (ci := 6) (n := 7) (b := 66) hb dX5_init_26 rfl rfl cl_X5_9 in_RX6 ini_RX6 (by decide) (Nat.le_of_ble_eq_true rfl) (Nat.le_of_ble_eq_true rfl) (fun k1 μ1 e1 => ?_)
  have hv34_1_1 : μ1 34 1 = 35 := by rw [e1]; show (if (34 : Int) = 66 then _ else _) = _; rw [if_neg (by decide)]; exact hv34_1_0
  refine WP_dup dX5_init_29 (by simp) ?_
  refine WP_invIN (md := mX5_init) (d' := 1) (v := (2, 66)) (as := []) (mc := 5) (ms := 46) dX5_init_30 l_X5_17 mw_X6_init rfl rfl mi_X6_init mo_X6_init ⟨rfl, by show 0 ≤ 66; omega⟩ ⟨by show _ ≤ d; omega, by show _ ≤ 64 * d; omega⟩ (Nat.le_of_ble_eq_true rfl) ⟨Nat.le_of_ble_eq_true rfl, Nat.le_of_ble_eq_true rfl⟩ (kc_X6 (b := 67) (by decide) (by simp only [List.length_append, List.length_cons, List.length_nil]; omega) ⟨by omega, by omega⟩ k1) ?_
  rintro _ _ μ2 ⟨rfl, rfl, e2⟩
  have hv34_1_2 : μ2 34 1 = 35 := by rw [e2]; exact (cX6_fr (by decide) (by decide) (by decide)).trans hv34_1_1
  refine WP_aastore (ci := 6) dX5_init_33 (kd_app (kd_app h35)) (by decide) (kd_app k1) ⟨by decide, by decide⟩ ?_
  obtain ⟨μ3, e3⟩ : ∃ m : Mem, m = mup μ2 35 5 66 := ⟨_, rfl⟩
  rw [← e3]
  have hv34_1_3 : μ3 34 1 = 35 := by rw [e3, mup_ap, if_neg (by decide)]; exact hv34_1_2
  refine WP_iinc (L' := [(2, 34), (0, 6)]) dX5_init_34 rfl (by decide) ⟨by decide, by decide⟩ rfl ?_
  refine WP_goto (tgt := 15) dX5_init_37 (by decide) ?_
  refine WP_iload_n dX5_init_15 rfl rfl ?_
  refine WP_bipush dX5_init_16 (by decide +kernel) (by decide) ?_
  refine WP_icmp_ge (tgt := 40) dX5_init_18 (by decide) (fun q => absurd q (by decide)) (fun _ => ?_)
  refine WP_aload_n dX5_init_21 rfl rfl ⟨Nat.le_of_ble_eq_true rfl, Nat.le_of_ble_eq_true rfl⟩ ?_
  refine WP_getfield (ci := 5) (j := 1) (n := 2) (t := 2) (x := 35) dX5_init_22 f_X5_11 (kd_app (kd_app h34)) rfl hv34_1_3 ?_
  refine WP_iload_n dX5_init_25 rfl rfl ?_
  refine WN_new (ci := 6) (n := 7) (b := 72) (by simp only [List.length_append, List.length_cons, List.length_nil, oX6]; omega) dX5_init_26 rfl rfl cl_X5_9 in_RX6 ini_RX6 (by decide) (Nat.le_of_ble_eq_true rfl) (Nat.le_of_ble_eq_true rfl) (fun k4 μ4 e4 => ?_)
  have hv34_1_4 : μ4 34 1 = 35 := by rw [e4]; show (if (34 : Int) = 72 then _ else _) = _; rw [if_neg (by decide)]; exact hv34_1_3
  refine WP_dup dX5_init_29 (by simp) ?_
  refine WP_invIN (md := mX5_init) (d' := 1) (v := (2, 72)) (as := []) (mc := 5) (ms := 46) dX5_init_30 l_X5_17 mw_X6_init rfl rfl mi_X6_init mo_X6_init ⟨rfl, by show 0 ≤ 72; omega⟩ ⟨by show _ ≤ d; omega, by show _ ≤ 64 * d; omega⟩ (Nat.le_of_ble_eq_true rfl) ⟨Nat.le_of_ble_eq_true rfl, Nat.le_of_ble_eq_true rfl⟩ (kc_X6 (b := 73) (by decide) (by simp only [List.length_append, List.length_cons, List.length_nil, oX6]; omega) ⟨by omega, by omega⟩ k4) ?_
  rintro _ _ μ5 ⟨rfl, rfl, e5⟩
  have hv34_1_5 : μ5 34 1 = 35 := by rw [e5]; exact (cX6_fr (by decide) (by decide) (by decide)).trans hv34_1_4
  have hK : ((((K ++ [(36, 7)]) ++ oX6) ++ [(36, 7)]) ++ oX6) = K ++ oX5_3 := by simp only [oX5_3, oX6, List.append_assoc, List.cons_append, List.nil_append, List.append_nil]
  show WP mX5_init (RM d 61 540) Z (TN ((((K ++ [(36, 7)]) ++ oX6) ++ [(36, 7)]) ++ oX6) sc) 43 381 33 [(2, 34), (0, 6)] [(2, 72), (0, 6), (2, 35)] μ5
  rw [hK]
  exact k μ5 (by rw [e5, e4, e3, e2, e1]; first | done | rfl) (by rw [← hK]; exact (by simp only [List.length_append, List.length_cons, List.length_nil, oX6]; omega)) (by rw [← hK]; exact (kd_app (kd_app (kd_app (kd_app h34))))) (by rw [← hK]; exact (kd_app k4)) (by rw [← hK]; exact (kd_app (kd_app (kd_app (kd_app h35))))) hv34_1_5

def oX5_4 : List (Nat × Nat) := [(36, 7), (0, 10), (0, 10), (0, 10), (0, 10), (0, 6), (36, 7)]
def cX5_4 (μ : Mem) : Mem :=
  let μ1 : Mem := mup μ 35 6 72
  let μ2 : Mem := fun c j => if c = 78 then (if 0 ≤ j then dfl 6 j.toNat else 0) else μ1 c j
  let μ3 : Mem := cX6 (78) (79) μ2
  let μ4 : Mem := mup μ3 35 7 78
  let μ5 : Mem := fun c j => if c = 84 then (if 0 ≤ j then dfl 6 j.toNat else 0) else μ4 c j
  μ5
theorem cX5_4_fr {μ : Mem} {c j : Int} (h1 : c ≠ 34) (h2 : c < 35) : cX5_4 μ c j = μ c j := by
  simp only [cX5_4, mup_ap]
  repeat (first | rw [if_neg (by omega)] | rw [cX6_fr (by omega) (by omega) (by omega)])
theorem kq_X5_4 {d : Nat} {sc : SC} {Z : ZT} {K : List (Nat × Nat)} {μ : Mem} (hd : 2 ≤ d) (hb : (78 : Int) = (K.length : Int)) (h34 : kd (TN K sc) 34 = some (35, 2)) (h72 : kd (TN K sc) 72 = some (36, 7)) (h35 : kd (TN K sc) 35 = some (16, 10)) (hv34_1_0 : μ 34 1 = 35) (k : ∀ μ' : Mem, μ' = cX5_4 μ → (85 : Int) = (((K ++ oX5_4) : List (Nat × Nat)).length : Int) → kd (TN (K ++ oX5_4) sc) 34 = some (35, 2) → kd (TN (K ++ oX5_4) sc) 84 = some (36, 7) → kd (TN (K ++ oX5_4) sc) 35 = some (16, 10) → μ' 34 1 = 35 → WP mX5_init (RM d 61 540) Z (TN (K ++ oX5_4) sc) 50 441 29 [(2, 34), (0, 8)] [(2, 84), (0, 8), (2, 35)] μ') : WP mX5_init (RM d 61 540) Z (TN K sc) 43 381 33 [(2, 34), (0, 6)] [(2, 72), (0, 6), (2, 35)] μ := by
  refine WP_aastore (ci := 6) dX5_init_33 h35 (by decide) h72 ⟨by decide, by decide⟩ ?_
  obtain ⟨μ1, e1⟩ : ∃ m : Mem, m = mup μ 35 6 72 := ⟨_, rfl⟩
  rw [← e1]
  have hv34_1_1 : μ1 34 1 = 35 := by rw [e1, mup_ap, if_neg (by decide)]; exact hv34_1_0
  refine WP_iinc (L' := [(2, 34), (0, 7)]) dX5_init_34 rfl (by decide) ⟨by decide, by decide⟩ rfl ?_
  refine WP_goto (tgt := 15) dX5_init_37 (by decide) ?_
  refine WP_iload_n dX5_init_15 rfl rfl ?_
  refine WP_bipush dX5_init_16 (by decide +kernel) (by decide) ?_
  refine WP_icmp_ge (tgt := 40) dX5_init_18 (by decide) (fun q => absurd q (by decide)) (fun _ => ?_)
  refine WP_aload_n dX5_init_21 rfl rfl ⟨Nat.le_of_ble_eq_true rfl, Nat.le_of_ble_eq_true rfl⟩ ?_
  refine WP_getfield (ci := 5) (j := 1) (n := 2) (t := 2) (x := 35) dX5_init_22 f_X5_11 h34 rfl hv34_1_1 ?_
  refine WP_iload_n dX5_init_25 rfl rfl ?_
  refine WN_new (ci := 6) (n := 7) (b := 78) hb dX5_init_26 rfl rfl cl_X5_9 in_RX6 ini_RX6 (by decide) (Nat.le_of_ble_eq_true rfl) (Nat.le_of_ble_eq_true rfl) (fun k2 μ2 e2 => ?_)
  have hv34_1_2 : μ2 34 1 = 35 := by rw [e2]; show (if (34 : Int) = 78 then _ else _) = _; rw [if_neg (by decide)]; exact hv34_1_1
  refine WP_dup dX5_init_29 (by simp) ?_
  refine WP_invIN (md := mX5_init) (d' := 1) (v := (2, 78)) (as := []) (mc := 5) (ms := 46) dX5_init_30 l_X5_17 mw_X6_init rfl rfl mi_X6_init mo_X6_init ⟨rfl, by show 0 ≤ 78; omega⟩ ⟨by show _ ≤ d; omega, by show _ ≤ 64 * d; omega⟩ (Nat.le_of_ble_eq_true rfl) ⟨Nat.le_of_ble_eq_true rfl, Nat.le_of_ble_eq_true rfl⟩ (kc_X6 (b := 79) (by decide) (by simp only [List.length_append, List.length_cons, List.length_nil]; omega) ⟨by omega, by omega⟩ k2) ?_
  rintro _ _ μ3 ⟨rfl, rfl, e3⟩
  have hv34_1_3 : μ3 34 1 = 35 := by rw [e3]; exact (cX6_fr (by decide) (by decide) (by decide)).trans hv34_1_2
  refine WP_aastore (ci := 6) dX5_init_33 (kd_app (kd_app h35)) (by decide) (kd_app k2) ⟨by decide, by decide⟩ ?_
  obtain ⟨μ4, e4⟩ : ∃ m : Mem, m = mup μ3 35 7 78 := ⟨_, rfl⟩
  rw [← e4]
  have hv34_1_4 : μ4 34 1 = 35 := by rw [e4, mup_ap, if_neg (by decide)]; exact hv34_1_3
  refine WP_iinc (L' := [(2, 34), (0, 8)]) dX5_init_34 rfl (by decide) ⟨by decide, by decide⟩ rfl ?_
  refine WP_goto (tgt := 15) dX5_init_37 (by decide) ?_
  refine WP_iload_n dX5_init_15 rfl rfl ?_
  refine WP_bipush dX5_init_16 (by decide +kernel) (by decide) ?_
  refine WP_icmp_ge (tgt := 40) dX5_init_18 (by decide) (fun q => absurd q (by decide)) (fun _ => ?_)
  refine WP_aload_n dX5_init_21 rfl rfl ⟨Nat.le_of_ble_eq_true rfl, Nat.le_of_ble_eq_true rfl⟩ ?_
  refine WP_getfield (ci := 5) (j := 1) (n := 2) (t := 2) (x := 35) dX5_init_22 f_X5_11 (kd_app (kd_app h34)) rfl hv34_1_4 ?_
  refine WP_iload_n dX5_init_25 rfl rfl ?_
  refine WN_new (ci := 6) (n := 7) (b := 84) (by simp only [List.length_append, List.length_cons, List.length_nil, oX6]; omega) dX5_init_26 rfl rfl cl_X5_9 in_RX6 ini_RX6 (by decide) (Nat.le_of_ble_eq_true rfl) (Nat.le_of_ble_eq_true rfl) (fun k5 μ5 e5 => ?_)
  have hv34_1_5 : μ5 34 1 = 35 := by rw [e5]; show (if (34 : Int) = 84 then _ else _) = _; rw [if_neg (by decide)]; exact hv34_1_4
  have hK : (((K ++ [(36, 7)]) ++ oX6) ++ [(36, 7)]) = K ++ oX5_4 := by simp only [oX5_4, oX6, List.append_assoc, List.cons_append, List.nil_append, List.append_nil]
  show WP mX5_init (RM d 61 540) Z (TN (((K ++ [(36, 7)]) ++ oX6) ++ [(36, 7)]) sc) 50 441 29 [(2, 34), (0, 8)] [(2, 84), (0, 8), (2, 35)] μ5
  rw [hK]
  exact k μ5 (by rw [e5, e4, e3, e2, e1]; first | done | rfl) (by rw [← hK]; exact (by simp only [List.length_append, List.length_cons, List.length_nil, oX6]; omega)) (by rw [← hK]; exact (kd_app (kd_app (kd_app h34)))) (by rw [← hK]; exact k5) (by rw [← hK]; exact (kd_app (kd_app (kd_app h35)))) hv34_1_5

def oX5_5 : List (Nat × Nat) := [(0, 10), (0, 10), (0, 10), (0, 10), (0, 6), (36, 7), (0, 10), (0, 10), (0, 10), (0, 10), (0, 6)]
def cX5_5 (μ : Mem) : Mem :=
  let μ1 : Mem := cX6 (84) (85) μ
  let μ2 : Mem := mup μ1 35 8 84
  let μ3 : Mem := fun c j => if c = 90 then (if 0 ≤ j then dfl 6 j.toNat else 0) else μ2 c j
  let μ4 : Mem := cX6 (90) (91) μ3
  let μ5 : Mem := mup μ4 35 9 90
  μ5
theorem cX5_5_fr {μ : Mem} {c j : Int} (h1 : c ≠ 34) (h2 : c < 35) : cX5_5 μ c j = μ c j := by
  simp only [cX5_5, mup_ap]
  repeat (first | rw [if_neg (by omega)] | rw [cX6_fr (by omega) (by omega) (by omega)])
theorem kq_X5_5 {d : Nat} {sc : SC} {Z : ZT} {K : List (Nat × Nat)} {μ : Mem} (hd : 2 ≤ d) (hb : (85 : Int) = (K.length : Int)) (h34 : kd (TN K sc) 34 = some (35, 2)) (h84 : kd (TN K sc) 84 = some (36, 7)) (h35 : kd (TN K sc) 35 = some (16, 10)) (hv34_1_0 : μ 34 1 = 35) (k : ∀ μ' : Mem, μ' = cX5_5 μ → (96 : Int) = (((K ++ oX5_5) : List (Nat × Nat)).length : Int) → kd (TN (K ++ oX5_5) sc) 34 = some (35, 2) → kd (TN (K ++ oX5_5) sc) 35 = some (16, 10) → μ' 34 1 = 35 → WP mX5_init (RM d 61 540) Z (TN (K ++ oX5_5) sc) 61 540 40 [(2, 34), (0, 10)] [] μ') : WP mX5_init (RM d 61 540) Z (TN K sc) 50 441 29 [(2, 34), (0, 8)] [(2, 84), (0, 8), (2, 35)] μ := by
  refine WP_dup dX5_init_29 (by simp) ?_
  refine WP_invIN (md := mX5_init) (d' := 1) (v := (2, 84)) (as := []) (mc := 5) (ms := 46) dX5_init_30 l_X5_17 mw_X6_init rfl rfl mi_X6_init mo_X6_init ⟨rfl, by show 0 ≤ 84; omega⟩ ⟨by show _ ≤ d; omega, by show _ ≤ 64 * d; omega⟩ (Nat.le_of_ble_eq_true rfl) ⟨Nat.le_of_ble_eq_true rfl, Nat.le_of_ble_eq_true rfl⟩ (kc_X6 (b := 85) (by decide) hb ⟨by omega, by omega⟩ h84) ?_
  rintro _ _ μ1 ⟨rfl, rfl, e1⟩
  have hv34_1_1 : μ1 34 1 = 35 := by rw [e1]; exact (cX6_fr (by decide) (by decide) (by decide)).trans hv34_1_0
  refine WP_aastore (ci := 6) dX5_init_33 (kd_app h35) (by decide) (kd_app h84) ⟨by decide, by decide⟩ ?_
  obtain ⟨μ2, e2⟩ : ∃ m : Mem, m = mup μ1 35 8 84 := ⟨_, rfl⟩
  rw [← e2]
  have hv34_1_2 : μ2 34 1 = 35 := by rw [e2, mup_ap, if_neg (by decide)]; exact hv34_1_1
  refine WP_iinc (L' := [(2, 34), (0, 9)]) dX5_init_34 rfl (by decide) ⟨by decide, by decide⟩ rfl ?_
  refine WP_goto (tgt := 15) dX5_init_37 (by decide) ?_
  refine WP_iload_n dX5_init_15 rfl rfl ?_
  refine WP_bipush dX5_init_16 (by decide +kernel) (by decide) ?_
  refine WP_icmp_ge (tgt := 40) dX5_init_18 (by decide) (fun q => absurd q (by decide)) (fun _ => ?_)
  refine WP_aload_n dX5_init_21 rfl rfl ⟨Nat.le_of_ble_eq_true rfl, Nat.le_of_ble_eq_true rfl⟩ ?_
  refine WP_getfield (ci := 5) (j := 1) (n := 2) (t := 2) (x := 35) dX5_init_22 f_X5_11 (kd_app h34) rfl hv34_1_2 ?_
  refine WP_iload_n dX5_init_25 rfl rfl ?_
  refine WN_new (ci := 6) (n := 7) (b := 90) (by simp only [List.length_append, List.length_cons, List.length_nil, oX6]; omega) dX5_init_26 rfl rfl cl_X5_9 in_RX6 ini_RX6 (by decide) (Nat.le_of_ble_eq_true rfl) (Nat.le_of_ble_eq_true rfl) (fun k3 μ3 e3 => ?_)
  have hv34_1_3 : μ3 34 1 = 35 := by rw [e3]; show (if (34 : Int) = 90 then _ else _) = _; rw [if_neg (by decide)]; exact hv34_1_2
  refine WP_dup dX5_init_29 (by simp) ?_
  refine WP_invIN (md := mX5_init) (d' := 1) (v := (2, 90)) (as := []) (mc := 5) (ms := 46) dX5_init_30 l_X5_17 mw_X6_init rfl rfl mi_X6_init mo_X6_init ⟨rfl, by show 0 ≤ 90; omega⟩ ⟨by show _ ≤ d; omega, by show _ ≤ 64 * d; omega⟩ (Nat.le_of_ble_eq_true rfl) ⟨Nat.le_of_ble_eq_true rfl, Nat.le_of_ble_eq_true rfl⟩ (kc_X6 (b := 91) (by decide) (by simp only [List.length_append, List.length_cons, List.length_nil, oX6]; omega) ⟨by omega, by omega⟩ k3) ?_
  rintro _ _ μ4 ⟨rfl, rfl, e4⟩
  have hv34_1_4 : μ4 34 1 = 35 := by rw [e4]; exact (cX6_fr (by decide) (by decide) (by decide)).trans hv34_1_3
  refine WP_aastore (ci := 6) dX5_init_33 (kd_app (kd_app (kd_app h35))) (by decide) (kd_app k3) ⟨by decide, by decide⟩ ?_
  obtain ⟨μ5, e5⟩ : ∃ m : Mem, m = mup μ4 35 9 90 := ⟨_, rfl⟩
  rw [← e5]
  have hv34_1_5 : μ5 34 1 = 35 := by rw [e5, mup_ap, if_neg (by decide)]; exact hv34_1_4
  refine WP_iinc (L' := [(2, 34), (0, 10)]) dX5_init_34 rfl (by decide) ⟨by decide, by decide⟩ rfl ?_
  refine WP_goto (tgt := 15) dX5_init_37 (by decide) ?_
  refine WP_iload_n dX5_init_15 rfl rfl ?_
  refine WP_bipush dX5_init_16 (by decide +kernel) (by decide) ?_
  refine WP_icmp_ge (tgt := 40) dX5_init_18 (by decide) (fun _ => ?_) (fun q => absurd (by decide) q)
  have hK : (((K ++ oX6) ++ [(36, 7)]) ++ oX6) = K ++ oX5_5 := by simp only [oX5_5, oX6, List.append_assoc, List.cons_append, List.nil_append, List.append_nil]
  show WP mX5_init (RM d 61 540) Z (TN (((K ++ oX6) ++ [(36, 7)]) ++ oX6) sc) 61 540 40 [(2, 34), (0, 10)] [] μ5
  rw [hK]
  exact k μ5 (by rw [e5, e4, e3, e2, e1]; first | done | rfl) (by rw [← hK]; exact (by simp only [List.length_append, List.length_cons, List.length_nil, oX6]; omega)) (by rw [← hK]; exact (kd_app (kd_app (kd_app h34)))) (by rw [← hK]; exact (kd_app (kd_app (kd_app h35)))) hv34_1_5

def oX5 : List (Nat × Nat) := [(16, 10), (36, 7), (0, 10), (0, 10), (0, 10), (0, 10), (0, 6), (36, 7), (0, 10), (0, 10), (0, 10), (0, 10), (0, 6), (36, 7), (0, 10), (0, 10), (0, 10), (0, 10), (0, 6), (36, 7), (0, 10), (0, 10), (0, 10), (0, 10), (0, 6), (36, 7), (0, 10), (0, 10), (0, 10), (0, 10), (0, 6), (36, 7), (0, 10), (0, 10), (0, 10), (0, 10), (0, 6), (36, 7), (0, 10), (0, 10), (0, 10), (0, 10), (0, 6), (36, 7), (0, 10), (0, 10), (0, 10), (0, 10), (0, 6), (36, 7), (0, 10), (0, 10), (0, 10), (0, 10), (0, 6), (36, 7), (0, 10), (0, 10), (0, 10), (0, 10), (0, 6)]
def cX5 (μ : Mem) : Mem := (cX5_5 (cX5_4 (cX5_3 (cX5_2 (cX5_1 (cX5_0 μ))))))
theorem cX5_fr {μ : Mem} {c j : Int} (h1 : c ≠ 34) (h2 : c < 35) : cX5 μ c j = μ c j := by
  unfold cX5
  rw [cX5_5_fr h1 h2, cX5_4_fr h1 h2, cX5_3_fr h1 h2, cX5_2_fr h1 h2, cX5_1_fr h1 h2, cX5_0_fr h1 h2]
theorem kc_X5 {d : Nat} {sc : SC} {K : List (Nat × Nat)} {μ : Mem} (hd : 2 ≤ d) (hb : (35 : Int) = (K.length : Int)) (hk : kd (TN K sc) 34 = some (35, 2)) : CT mX5_init d 61 540 (TN K sc) [(2, 34)] μ (fun r K' μ' => r = none ∧ K' = K ++ oX5 ∧ μ' = cX5 μ) := by
  refine CT_of mp_X5_init (Nat.le_of_ble_eq_true rfl) ?_
  refine kq_X5_0 hd hb hk (fun μ0 e0 b0 q0_0 q0_1 q0_2 => ?_)
  refine kq_X5_1 hd b0 q0_0 q0_1 q0_2 (fun μ1 e1 b1 q1_0 q1_1 q1_2 => ?_)
  refine kq_X5_2 hd b1 q1_0 q1_1 q1_2 (fun μ2 e2 b2 q2_0 q2_1 q2_2 => ?_)
  refine kq_X5_3 hd b2 q2_0 q2_1 q2_2 (fun μ3 e3 b3 q3_0 q3_1 q3_2 q3_3 => ?_)
  refine kq_X5_4 hd b3 q3_0 q3_1 q3_2 q3_3 (fun μ4 e4 b4 q4_0 q4_1 q4_2 q4_3 => ?_)
  refine kq_X5_5 hd b4 q4_0 q4_1 q4_2 q4_3 (fun μ5 e5 b5 q5_0 q5_1 q5_2 => ?_)
  refine WP_return dX5_init_40 rfl ⟨rfl, ?_, ?_⟩
  · show ((((((K ++ oX5_0) ++ oX5_1) ++ oX5_2) ++ oX5_3) ++ oX5_4) ++ oX5_5) = K ++ oX5
    simp only [oX5, oX5_0, oX5_1, oX5_2, oX5_3, oX5_4, oX5_5, List.append_assoc, List.cons_append, List.nil_append, List.append_nil]
  · show μ5 = cX5 μ
    rw [e5, e4, e3, e2, e1, e0]; first | done | rfl

/-! THE REFERENCE'S CONSTRUCTOR: plain -/
def cplain (a : Int) (μ : Mem) : Mem := fun c j => if c = a ∧ 0 ≤ j ∧ j < 1373 then (if j = 1 ∨ j = 2 then 1 else 0) else μ c j
theorem cplain_fr {a : Int} {μ : Mem} {c j : Int} (h : c ≠ a) : cplain a μ c j = μ c j := by
  show (if _ then _ else _) = _
  rw [if_neg (fun z => h z.1)]
theorem kc_plain {d : Nat} {sc : SC} {K : List (Nat × Nat)} {a : Int} {n : Nat} {μ : Mem} (hk : kd (TN K sc) a = some (0, n)) (hn : 1373 ≤ n) : CT mX10_plain d 0 0 (TN K sc) [(2, a)] μ (fun r K' μ' => r = none ∧ K' = K ∧ μ' = cplain a μ) := by
  refine CT_of mp_X10_plain (Nat.le_of_ble_eq_true rfl) ?_
  refine WP_iconst dX10_plain_0 (by decide) ?_
  refine WP_istore_n (L' := [(2, a), (0, 0)]) dX10_plain_1 rfl (by decide) rfl ?_
  have key : ∀ (r i : Nat), i + r = 1373 → WP mX10_plain (RM d 0 0) (ZM (TN K sc).2 0 0 (fun r K' μ' => r = none ∧ K' = K ∧ μ' = cplain a μ)) (TN K sc) 0 0 2 [(2, a), (0, (i : Int))] [] (fun c j => if c = a ∧ 0 ≤ j ∧ j < i then 0 else μ c j) := by
    intro r
    induction r with
    | zero =>
      intro i hi
      obtain rfl : i = 1373 := by omega
      refine WP_iload_n dX10_plain_2 rfl rfl ?_
      refine WP_sipush dX10_plain_3 (by decide +kernel) (by decide) ?_
      refine WP_icmp_ge (tgt := 19) dX10_plain_6 (by decide) (fun _ => ?_) (fun q => absurd (by decide) q)
      refine WP_aload_n dX10_plain_19 rfl rfl ⟨Nat.le_of_ble_eq_true rfl, Nat.le_of_ble_eq_true rfl⟩ ?_
      refine WP_iconst dX10_plain_20 (by decide) ?_
      refine WP_iconst dX10_plain_21 (by decide) ?_
      refine WP_iastore dX10_plain_22 hk ⟨by decide, by omega⟩ ?_
      refine WP_aload_n dX10_plain_23 rfl rfl ⟨Nat.le_of_ble_eq_true rfl, Nat.le_of_ble_eq_true rfl⟩ ?_
      refine WP_iconst dX10_plain_24 (by decide) ?_
      refine WP_iconst dX10_plain_25 (by decide) ?_
      refine WP_iastore dX10_plain_26 hk ⟨by decide, by omega⟩ ?_
      refine WP_return dX10_plain_27 rfl ⟨rfl, rfl, ?_⟩
      funext c j
      rw [mup_ap]
      simp only [mup_ap, cplain]
      grind
    | succ r ih =>
      intro i hi
      refine WP_iload_n dX10_plain_2 rfl rfl ?_
      refine WP_sipush dX10_plain_3 (by decide +kernel) (by decide) ?_
      refine WP_icmp_ge (tgt := 19) dX10_plain_6 (by decide) (fun q => absurd q (by omega)) (fun _ => ?_)
      refine WP_aload_n dX10_plain_9 rfl rfl ⟨Nat.le_of_ble_eq_true rfl, Nat.le_of_ble_eq_true rfl⟩ ?_
      refine WP_iload_n dX10_plain_10 rfl rfl ?_
      refine WP_iconst dX10_plain_11 (by decide) ?_
      refine WP_iastore dX10_plain_12 hk ⟨by omega, by omega⟩ ?_
      refine WP_iinc (L' := [(2, a), (0, ((i + 1 : Nat) : Int))]) dX10_plain_13 rfl (by decide) ⟨by omega, by omega⟩ (by rw [show ((i + 1 : Nat) : Int) = (i : Int) + 1 by omega]; rfl) ?_
      refine WP_goto (tgt := 2) dX10_plain_16 (by decide) ?_
      have e : mup (fun c j => if c = a ∧ 0 ≤ j ∧ j < (i : Int) then 0 else μ c j) a (i : Int) 0 = (fun c j => if c = a ∧ 0 ≤ j ∧ j < ((i + 1 : Nat) : Int) then 0 else μ c j) := by
        funext c j
        rw [mup_ap]
        grind
      rw [e]
      exact ih (i + 1) (by omega)
  have := key 1373 0 rfl
  have e : (fun c j => if c = a ∧ 0 ≤ j ∧ j < ((0 : Nat) : Int) then 0 else μ c j) = μ := by
    funext c j; rw [if_neg (by omega)]
  rw [e] at this
  exact this

/-! THE CONSTRUCTORS: rows -/
def nofo : Nat → Nat → Option Int := fun _ _ => none
abbrev TN (K : List (Nat × Nat)) (sc : SC) : Wd := (K, nofo, sc)
theorem kd_app {K l : List (Nat × Nat)} {sc : SC} {a : Int} {q : Nat × Nat} (h : kd (TN K sc) a = some q) : kd (TN (K ++ l) sc) a = some q := by
  unfold kd at h ⊢
  by_cases z : a < 0
  · rw [if_pos z] at h; exact absurd h (by simp)
  · rw [if_neg z] at h ⊢
    have h' : K[a.toNat]? = some q := h
    obtain ⟨hl, _⟩ := List.getElem?_eq_some_iff.mp h'
    show (K ++ l)[a.toNat]? = some q
    rw [List.getElem?_append_left hl]; exact h'
theorem kd_new {K : List (Nat × Nat)} {sc : SC} {b : Int} {q : Nat × Nat} (hb : b = (K.length : Int)) : kd (TN (K ++ [q]) sc) b = some q := by
  unfold kd
  rw [if_neg (by omega)]
  show (K ++ [q])[b.toNat]? = some q
  rw [show b.toNat = K.length by omega]
  simp
section WN
variable {md : MD} {R : Room} {Z : ZT} {K : List (Nat × Nat)} {sc : SC} {cc ss pc : Nat} {L st : List AV} {μ : Mem}
theorem WN_newarray {aty : ArrayType} {e n : Nat} {b : Int} (hb : b = (K.length : Int)) (hd : decode md.2.1 pc = .ok (.newarray aty, 2)) (hty : newarray.typeOf aty = et e) (he : e ∈ ([0, 1, 4, 5] : List Nat)) (hw : Cond.arrayClass (et e) ∈ UW) (hn : n ≤ 60000) (hcc : cc + 1 ≤ R.cells) (hss : ss + n ≤ R.slots)
    (k : kd (TN (K ++ [(e, n)]) sc) b = some (e, n) → ∀ μ1 : Mem, μ1 = (fun c j => if c = b then 0 else μ c j) → WP md R Z (TN (K ++ [(e, n)]) sc) (cc + 1) (ss + n) (pc + 2) L ((2, b) :: st) μ1) : WP md R Z (TN K sc) cc ss pc L ((0, (n : Int)) :: st) μ := by
  refine WP_newarray hd hty he hw hn hcc hss ?_
  have := k (kd_new hb) _ rfl
  rw [hb] at this
  exact this
theorem WN_new {idx ci n : Nat} {r : vw_C} {b : Int} (hb : b = (K.length : Int)) (hd : decode md.2.1 pc = .ok (.new idx, 3)) (hr : cls0[ci]? = some r) (hn : r.2.2 = n) (hw : Cond.classLink md.1.cls idx r.1 ∈ UW) (hw2 : Cond.instantiable r.1 n ∈ UW) (hw3 : Cond.initialized r.1 ∈ UW) (hok : ∀ j, j < n → okF (fty ci j) = true) (hcc : cc + 1 ≤ R.cells) (hss : ss + n ≤ R.slots)
    (k : kd (TN (K ++ [(30 + ci, n)]) sc) b = some (30 + ci, n) → ∀ μ1 : Mem, μ1 = (fun c j => if c = b then (if 0 ≤ j then dfl ci j.toNat else 0) else μ c j) → WP md R Z (TN (K ++ [(30 + ci, n)]) sc) (cc + 1) (ss + n) (pc + 3) L ((2, b) :: st) μ1) : WP md R Z (TN K sc) cc ss pc L st μ := by
  refine WP_new hd hr hn hw hw2 hw3 hok (fun _ _ => rfl) hcc hss ?_
  have := k (kd_new hb) _ rfl
  rw [hb] at this
  exact this
theorem WN_anewarray {idx ci n : Nat} {b : Int} (hb : b = (K.length : Int)) (hd : decode md.2.1 pc = .ok (.anewarray idx, 3)) (hci : 10 + ci ∈ ([11, 16, 18] : List Nat)) {C : String} (hC : et (10 + ci) = .object C) (hw : Cond.classLink md.1.cls idx C ∈ UW) (hw2 : Cond.arrayOver (.object C) ∈ nestW) (hn : n ≤ 60000) (hcc : cc + 1 ≤ R.cells) (hss : ss + n ≤ R.slots)
    (k : kd (TN (K ++ [(10 + ci, n)]) sc) b = some (10 + ci, n) → ∀ μ1 : Mem, μ1 = (fun c j => if c = b then -1 else μ c j) → WP md R Z (TN (K ++ [(10 + ci, n)]) sc) (cc + 1) (ss + n) (pc + 3) L ((2, b) :: st) μ1) : WP md R Z (TN K sc) cc ss pc L ((0, (n : Int)) :: st) μ := by
  refine WP_anewarray hd hci hC hw hw2 hn hcc hss ?_
  have := k (kd_new hb) _ rfl
  rw [hb] at this
  exact this
theorem WN_put {idx ci j n t : Nat} {a x : Int} (hd : decode md.2.1 pc = .ok (.putfield idx, 3)) (hF : FL md.1.cls idx ci j) (hk : kd (TN K sc) a = some (30 + ci, n))
    (hfin : ∀ r : vw_C, cls0[ci]? = some r → (r.2.1 j).2.2.2 = false ∨ ((r.2.1 j).2.2.2 = true ∧ md.1.name = "<init>" ∧ (r.2.1 j).1 = md.1.cls)) (hok : okF (fty ci j) = true) (ht : vt (ftc (fty ci j)) = t) (hb : ftc (fty ci j) = 5 → 0 ≤ x ∧ x ≤ 1)
    (k : ∀ μ1 : Mem, μ1 = mup μ a j x → WP md R Z (TN K sc) cc ss (pc + 3) L st μ1) : WP md R Z (TN K sc) cc ss pc L ((t, x) :: (2, a) :: st) μ := WP_put0 hd hF hk rfl hfin hok ht hb (k _ rfl)
end WN

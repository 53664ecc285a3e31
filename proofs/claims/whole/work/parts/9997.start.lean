/-! THE START: final fields told once for all; the state which the constructors leave -/
def fineAt (μ : Mem) (k : Nat) : Bool := match K0[k]? with
  | some q => q.1 < 30 || (List.range q.2).all fun j => match fo0 (q.1 - 30) j with
    | some d => decide (μ (k : Int) (j : Int) = (k : Int) + d)
    | none => true
  | none => true
def fine (μ : Mem) : Bool := (List.range K0.length).all (fineAt μ)
theorem fine_fv {μ : Mem} (h : fine μ = true) {sc : SC} {k : Nat} {q : Nat × Nat} (hk : K0[k]? = some q) (h30 : 30 ≤ q.1) {j : Nat} (hj : j < q.2) : fv (TT sc) μ (q.1 - 30) (k : Int) j = μ (k : Int) (j : Int) := by
  have hl : k < K0.length := (List.getElem?_eq_some_iff.mp hk).1
  have h1 := List.all_eq_true.mp h k (List.mem_range.mpr hl)
  unfold fineAt at h1
  rw [hk] at h1
  have h2 : (decide (q.1 < 30) || (List.range q.2).all fun j => match fo0 (q.1 - 30) j with
    | some d => decide (μ (k : Int) (j : Int) = (k : Int) + d)
    | none => true) = true := h1
  rw [decide_eq_false (by omega), Bool.false_or] at h2
  have h3 := List.all_eq_true.mp h2 j (List.mem_range.mpr hj)
  show (match fo0 (q.1 - 30) j with
    | some d => (k : Int) + d
    | none => μ (k : Int) (j : Int)) = μ (k : Int) (j : Int)
  revert h3
  cases fo0 (q.1 - 30) j with
  | none => exact fun _ => rfl
  | some d => exact fun z => (of_decide_eq_true z).symm
theorem Rep_fo {g : GW} {sc : SC} {μ : Mem} {H : Heap} (h : Rep g (TN K0 sc) μ H) (hf : fine μ = true) : Rep g (TT sc) μ H := by
  refine ⟨h.1, fun k q hk => ⟨(h.2 k q hk).1, fun h30 => ?_⟩⟩
  obtain ⟨c1, c2, c3⟩ := (h.2 k q hk).2 h30
  refine ⟨t_OB.to c1 (fun j hj => ?_), fun j hj => ?_, c3⟩
  · show val g (vt (ftc (fty (q.1 - 30) j)), μ (k : Int) (j : Int)) = val g (vt (ftc (fty (q.1 - 30) j)), fv (TT sc) μ (q.1 - 30) (k : Int) j)
    rw [fine_fv hf hk h30 hj]
  · rw [fine_fv hf hk h30 hj]
    exact c2 j hj
theorem WP_fo {md : MD} {R : Room} {Z : ZT} {sc : SC} {cc ss pc : Nat} {L st : List AV} {μ : Mem} (hf : fine μ = true) (k : WP md R Z (TT sc) cc ss pc L st μ) : WP md R Z (TN K0 sc) cc ss pc L st μ := by
  intro g p l e s m args below meth c H locs ls C K h0 Rp S V G
  exact k g p l e s m args below meth c H locs ls C K h0 (Rep_fo Rp hf) S V G
/-- the memory behind both constructors -/
def cNew (a : Int) (ci : Nat) (μ : Mem) : Mem := fun c j => if c = a then (if 0 ≤ j then dfl ci j.toNat else 0) else μ c j
def M1 : Mem := cX9 (cNew 0 9 (fun _ _ => 0))
def M0 : Mem := cX10 (cNew 183 10 M1)
theorem fine_M0 : fine M0 = true := by decide +kernel
theorem K0_eq : (([(39, 20)] ++ oX9) ++ [(40, 49)]) ++ oX10 = K0 := by decide +kernel
def A0 : StT := ((0, fun _ => 0), (0, -1), (hill0, planDef), [], (fun _ => (0, hill0, planDef)), fun _ => (0, 0, 0, fun _ => 0))
def at0 : List (Int × Int × Int) := [(0, 2, 2), (0, 3, 15), (0, 1, 0), (28, 0, 0), (28, 1, -1), (2, 0, 1), (2, 1, 1), (2, 2, 0), (2, 3, 0), (7, 0, 0), (7, 1, 0), (7, 2, 0), (8, 0, 0), (8, 1, 0), (8, 2, 0), (9, 0, 0), (9, 6, 0), (34, 0, 0),
  (32, 0, 149), (32, 1, 162), (33, 0, 0), (33, 1, 0), (96, 0, 175), (96, 1, 177), (96, 2, 179), (96, 3, 181), (175, 0, 0), (177, 0, 0), (179, 0, 0), (181, 0, 0), (0, 9, 0), (117, 0, 0), (120, 0, -1),
  (35, 0, 36), (35, 1, 42), (35, 2, 48), (35, 3, 54), (35, 4, 60), (35, 5, 66), (35, 6, 72), (35, 7, 78), (35, 8, 84), (35, 9, 90),
  (183, 5, 0), (183, 13, 0), (183, 14, -1), (183, 19, 0), (184, 0, 0), (184, 1, 1), (184, 2, 1), (184, 3, 0), (184, 4, 0), (184, 5, 0), (184, 6, 0), (184, 31, 0), (184, 70, 0), (184, 71, 0), (185, 0, 0), (185, 1, 0), (209, 0, -1), (209, 1, -1), (209, 2, -1), (209, 3, -1)]
theorem at0_M0 : (at0.all fun q => decide (M0 q.1 q.2.1 = q.2.2)) = true := by decide +kernel
theorem m0 {c j x : Int} (h : (c, j, x) ∈ at0) : M0 c j = x := of_decide_eq_true (List.all_eq_true.mp at0_M0 _ h)
theorem wfA_0 : wfA A0 := by
  refine ⟨⟨Int.le_refl 0, by decide⟩, fun i i0 i1 => absurd (show i < 0 from i1) (by omega), ⟨Int.le_refl 0, by decide⟩, ⟨⟨by decide, by decide⟩, ⟨by decide, by decide⟩, ⟨by decide, by decide⟩, fun q q0 q1 => absurd (show q < 0 from q1) (by omega), fun l l0 l1 => ⟨⟨Int.le_refl 0, by show (0 : Int) ≤ 900; decide⟩, fun z => absurd (show (0 : Int) < 0 from z) (by omega), fun _ k k0 k1 => absurd (show k < 0 from k1) (by omega)⟩⟩, ?_, fun P hP => absurd hP List.not_mem_nil, fun i i0 i1 => ⟨Or.inl rfl, fun z => absurd (show (0 : Int) = 1 from z) (by decide)⟩⟩
  exact ⟨⟨fun q q0 q1 => absurd (show q < 0 from q1) (by omega), Int.le_refl 0, by decide⟩, ⟨⟨Int.le_refl 0, by decide⟩, fun k k0 k1 => absurd (show k < 0 from k1) (by omega)⟩, by decide, fun k k0 k1 => absurd (show k < 0 from k1) (by omega)⟩
theorem XH_0 : XH M0 2 hill0 := by
  refine ⟨(m0 (by decide)).symm, (m0 (by decide)).symm, (m0 (by decide)).symm, (m0 (by decide)).symm, fun q q0 q1 => absurd (show q < 0 from q1) (by omega), fun l l0 l1 => ⟨?_, fun k k0 k1 => absurd (show k < 0 from k1) (by omega)⟩⟩
  have a : M0 7 l = 0 ∧ M0 8 l = 0 := by
    rcases (show l = 0 ∨ l = 1 ∨ l = 2 by omega) with rfl | rfl | rfl
    · exact ⟨m0 (by decide), m0 (by decide)⟩
    · exact ⟨m0 (by decide), m0 (by decide)⟩
    · exact ⟨m0 (by decide), m0 (by decide)⟩
  have a1 : M0 (2 + 5) l = 0 := a.1
  have a2 : M0 (2 + 6) l = 0 := a.2
  have a3 : hLen hill0 l = 0 := rfl
  rw [a1, a2, a3]
  omega
theorem XP_0 {np : Int} (hnp : np = 0) : XP M0 9 np planDef := by
  subst hnp
  exact ⟨m0 (by decide), fun k k0 k1 => absurd (show k < 0 from k1) (by omega), fun q q0 q1 => absurd q1 (by omega), m0 (by decide)⟩
theorem p35 {i : Int} (i0 : 0 ≤ i) (i1 : i < 10) : M0 35 i = 36 + 6 * i := by
  rcases (show i = 0 ∨ i = 1 ∨ i = 2 ∨ i = 3 ∨ i = 4 ∨ i = 5 ∨ i = 6 ∨ i = 7 ∨ i = 8 ∨ i = 9 by omega) with rfl | rfl | rfl | rfl | rfl | rfl | rfl | rfl | rfl | rfl <;> exact m0 (by decide)
theorem PastR_0 : PastR M0 0 [] := by
  refine ⟨m0 (by decide), by decide, fun i i0 i1 => ?_, fun i j i0 ij j1 => ?_, fun i h => absurd h (by simp)⟩
  · rw [p35 i0 i1]; unfold PS; omega
  · rw [p35 i0 (by omega), p35 (by omega) j1]; omega
theorem RX_0 : RX M0 A0 := by
  have e2 : M0 0 2 = 2 := m0 (by decide)
  refine ⟨⟨Or.inl ⟨e2, m0 (by decide)⟩, m0 (by decide), fun i i0 i1 => absurd (show i < 0 from i1) (by omega), m0 (by decide), m0 (by decide), by rw [e2]; exact XH_0, by rw [e2]; exact XP_0 rfl, PastR_0, fun i i0 i1 => ?_, fun i i0 i1 => ?_, wfA_0⟩, fun z => absurd (m0 (by decide)) z, fun z => absurd (m0 (by decide)) z, fun z => absurd (m0 (by decide)) z⟩
  · refine ⟨?_, ?_, fun z => absurd (show (0 : Int) = 1 from z) (by decide)⟩
    · rcases (show i = 0 ∨ i = 1 by omega) with rfl | rfl <;> exact m0 (by decide)
    · rcases (show i = 0 ∨ i = 1 by omega) with rfl | rfl <;> exact m0 (by decide)
  · refine ⟨?_, ?_, Or.inl rfl, fun z => absurd (show (0 : Int) = 1 from z) (by decide)⟩
    · rcases (show i = 0 ∨ i = 1 ∨ i = 2 ∨ i = 3 by omega) with rfl | rfl | rfl | rfl <;> exact m0 (by decide)
    · rcases (show i = 0 ∨ i = 1 ∨ i = 2 ∨ i = 3 by omega) with rfl | rfl | rfl | rfl <;> exact m0 (by decide)
theorem RY_0 : RY M0 A0 := by
  refine ⟨m0 (by decide), fun i i0 i1 => absurd (show i < 0 from i1) (by omega), m0 (by decide), m0 (by decide), m0 (by decide), ⟨m0 (by decide), m0 (by decide), m0 (by decide), m0 (by decide), fun q q0 q1 => absurd (show q < 0 from q1) (by omega), fun l l0 l1 => Or.inr ⟨?_, rfl⟩⟩, ⟨m0 (by decide), fun k k0 k1 => absurd (show k < 0 from k1) (by omega), fun q q0 q1 => absurd (show q < 0 from q1) (by omega), m0 (by decide)⟩, ⟨m0 (by decide), by decide, fun j hj => absurd hj (by simp [A0, aPast])⟩, fun i i0 i1 => ⟨?_, fun z => absurd (show (0 : Int) = 1 from z) (by decide)⟩, fun t t0 t1 => Or.inl ⟨rfl, ?_⟩, wfA_0⟩
  · rcases (show l = 0 ∨ l = 1 ∨ l = 2 by omega) with rfl | rfl | rfl <;> exact m0 (by decide)
  · rcases (show i = 0 ∨ i = 1 by omega) with rfl | rfl <;> exact m0 (by decide)
  · rcases (show t = 0 ∨ t = 1 ∨ t = 2 ∨ t = 3 by omega) with rfl | rfl | rfl | rfl <;> exact m0 (by decide)
theorem RB_0 : RB M0 A0 := ⟨RX_0, RY_0⟩

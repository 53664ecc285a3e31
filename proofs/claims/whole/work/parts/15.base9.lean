/-! BASE 9: the rows that the printed segments use -/
section WQS
variable {md : MD} {d : Nat} {sc : SC} {Z : ZT} {pc : Nat} {L L' st st' : List AV} {μ : Mem}
theorem WP_ldcw {R : Room} {T : Wd} {cc ss : Nat} {index : Nat} {n : Int} (hd : decode md.2.1 pc = .ok (.ldc_w index, 3)) (hw : Cond.constant md.1.cls index (Int32.ofInt n) ∈ UW) (h : i32 n) (k : WP md R Z T cc ss (pc + 3) L ((0, n) :: st) μ) : WP md R Z T cc ss pc L st μ :=
  WP_go k (fun _ _ _ _ _ _ _ _ _ _ _ _ _ _ C _ G => ⟨gc h G, fun w => lv_ldcw C.1 C.2.1 C.2.2.2.2.1 (C.2.2.2.2.2.1 _ hw) hd w⟩)
theorem WQ_nm0 {x : Int} (k : ∀ v : Int, v = x → WQ md d sc Z pc L ((0, v) :: st) μ) : WQ md d sc Z pc L ((0, x) :: st) μ := k x rfl
theorem WQ_nm1 {x : Int} (k : ∀ v : Int, v = x → WQ md d sc Z pc L ((1, v) :: st) μ) : WQ md d sc Z pc L ((1, x) :: st) μ := k x rfl
theorem WP_same {R : Room} {T : Wd} {cc ss : Nat} (h : L = L') (k : WP md R Z T cc ss pc L' st μ) : WP md R Z T cc ss pc L st μ := h ▸ k
theorem WQ_iinc {i : Nat} {n x : Int} (hd : decode md.2.1 pc = .ok (.iinc i n, 3)) (hl : L[i]? = some (0, x)) (hb : i < md.2.2.1) (hr : i32 (x + n)) (k : ∀ v : Int, v = x + n → WQ md d sc Z (pc + 3) (lset1 L i (0, v)) st μ) : WQ md d sc Z pc L st μ :=
  WP_iinc hd hl hb hr rfl (k _ rfl)
/-- a field that may be written behind the making -/
def putOK (ci j t : Nat) : Bool := (fo0 ci j).isNone && okF (fty ci j) && decide (vt (ftc (fty ci j)) = t) && (match cls0[ci]? with
  | some r => !(r.2.1 j).2.2.2
  | none => false)
theorem putOK_s {ci j t : Nat} (h : putOK ci j t = true) : fo0 ci j = none ∧ okF (fty ci j) = true ∧ vt (ftc (fty ci j)) = t ∧ ∀ r : vw_C, cls0[ci]? = some r → (r.2.1 j).2.2.2 = false := by
  unfold putOK at h
  simp only [Bool.and_eq_true, Option.isNone_iff_eq_none, decide_eq_true_eq] at h
  obtain ⟨⟨⟨h1, h2⟩, h3⟩, h4⟩ := h
  refine ⟨h1, h2, h3, fun r hr => ?_⟩
  rw [hr] at h4
  simpa using h4
theorem WQ_put {idx ci j n t : Nat} {a x : Int} (hd : decode md.2.1 pc = .ok (.putfield idx, 3)) (hF : FL md.1.cls idx ci j) (hk : kd0 a = some (30 + ci, n)) (hok : (putOK ci j t && decide (ftc (fty ci j) ≠ 5)) = true)
    (k : ∀ μ1, μ1 = mup μ a j x → WQ md d sc Z (pc + 3) L st μ1) : WQ md d sc Z pc L ((t, x) :: (2, a) :: st) μ := by
  simp only [Bool.and_eq_true, decide_eq_true_eq] at hok
  obtain ⟨h1, h2, h3, h4⟩ := putOK_s hok.1
  exact WP_put0 hd hF hk h1 (fun r hr => Or.inl (h4 r hr)) h2 h3 (fun q => absurd q hok.2) (k _ rfl)
theorem WQ_putz {idx ci j n t : Nat} {a x : Int} (hd : decode md.2.1 pc = .ok (.putfield idx, 3)) (hF : FL md.1.cls idx ci j) (hk : kd0 a = some (30 + ci, n)) (hok : putOK ci j t = true) (hx : 0 ≤ x ∧ x ≤ 1)
    (k : ∀ μ1, μ1 = mup μ a j x → WQ md d sc Z (pc + 3) L st μ1) : WQ md d sc Z pc L ((t, x) :: (2, a) :: st) μ := by
  obtain ⟨h1, h2, h3, h4⟩ := putOK_s hok
  exact WP_put0 hd hF hk h1 (fun r hr => Or.inl (h4 r hr)) h2 h3 (fun _ => hx) (k _ rfl)
theorem WQ_iast {a i x : Int} {n : Nat} (hd : decode md.2.1 pc = .ok (.iastore, 1)) (hk : kd0 a = some (0, n)) (hi : 0 ≤ i ∧ i < n) (k : ∀ μ1, μ1 = mup μ a i x → WQ md d sc Z (pc + 1) L st μ1) : WQ md d sc Z pc L ((0, x) :: (0, i) :: (2, a) :: st) μ := WP_iastore hd hk hi (k _ rfl)
theorem WQ_last {a i x : Int} {n : Nat} (hd : decode md.2.1 pc = .ok (.lastore, 1)) (hk : kd0 a = some (1, n)) (hi : 0 ≤ i ∧ i < n) (k : ∀ μ1, μ1 = mup μ a i x → WQ md d sc Z (pc + 1) L st μ1) : WQ md d sc Z pc L ((1, x) :: (0, i) :: (2, a) :: st) μ := WP_lastore hd hk hi (k _ rfl)
theorem WQ_bast {a i x : Int} {n : Nat} (hd : decode md.2.1 pc = .ok (.bastore, 1)) (hk : kd0 a = some (4, n)) (hi : 0 ≤ i ∧ i < n) (k : ∀ μ1, μ1 = mup μ a i (toB x) → WQ md d sc Z (pc + 1) L st μ1) : WQ md d sc Z pc L ((0, x) :: (0, i) :: (2, a) :: st) μ := WP_bastore hd hk hi (k _ rfl)
theorem WQ_zast {a i x : Int} {n : Nat} (hd : decode md.2.1 pc = .ok (.bastore, 1)) (hk : kd0 a = some (5, n)) (hi : 0 ≤ i ∧ i < n) (hx : 0 ≤ x ∧ x ≤ 1) (k : ∀ μ1, μ1 = mup μ a i x → WQ md d sc Z (pc + 1) L st μ1) : WQ md d sc Z pc L ((0, x) :: (0, i) :: (2, a) :: st) μ := WP_zastore hd hk hi hx (k _ rfl)
theorem WQ_aast {a i b : Int} {n ci nb : Nat} (hd : decode md.2.1 pc = .ok (.aastore, 1)) (hk : kd0 a = some (10 + ci, n)) (hci : 10 + ci ∈ ([11, 16, 18] : List Nat)) (hkb : kd0 b = some (30 + ci, nb)) (hi : 0 ≤ i ∧ i < n) (k : ∀ μ1, μ1 = mup μ a i b → WQ md d sc Z (pc + 1) L st μ1) : WQ md d sc Z pc L ((2, b) :: (0, i) :: (2, a) :: st) μ := WP_aastore hd hk hci hkb hi (k _ rfl)
theorem WQ_cpy {idx : Nat} {a0 a n : Int} {n0 n1 : Nat} (hd1 : 2 ≤ d) (hd : decode md.2.1 pc = .ok (.invokestatic idx, 3)) (hw : Cond.methodLink md.1.cls idx arraycopyName ∈ UW)
    (hk0 : kd0 a0 = some (0, n0)) (hk : kd0 a = some (0, n1)) (hn : 0 ≤ n ∧ n ≤ n0 ∧ n ≤ n1) (k : ∀ μ1, μ1 = mcp μ a0 a n → WQ md d sc Z (pc + 3) L [] μ1) : WQ md d sc Z pc L [(0, n), (0, 0), (2, a), (0, 0), (2, a0)] μ := WQ_copy hd1 hd hw hk0 hk hn (k _ rfl)
theorem rcv {C : String} {a : Int} {ci n : Nat} {r : vw_C} (hk : kd0 a = some (30 + ci, n)) (hr : cls0[ci]? = some r) (hC : r.1 = C) : RCV (TT sc) C (2, a) := Or.inl ⟨rfl, ci, n, r, hk, hr, hC⟩
theorem rcv_tx {C : String} {a : Int} (hC : C = "java/lang/String") : RCV (TT sc) C (3, a) := Or.inr ⟨rfl, hC⟩
end WQS

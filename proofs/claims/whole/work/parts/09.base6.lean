/-! BASE 6: making objects, contracts, calls, returns -/
def addK (T : Wd) (q : Nat × Nat) : Wd := (T.1 ++ [q], T.2)
theorem Rep.grow {g : GW} {T : Wd} {μ : Mem} {H H' : Heap} {q : Nat × Nat} {f : Int → Int} (hR : Rep g T μ H) (h2 : H'.size = H.size + 1) (h3 : ∀ p, p < H.size → H'[p]? = H[p]?)
    (hnew : (q.1 < 30 → cellA g (fun b j => if b = (T.1.length : Int) then f j else μ b j) T.1.length q H') ∧ (30 ≤ q.1 → cellO g T (fun b j => if b = (T.1.length : Int) then f j else μ b j) T.1.length q H')) :
    Rep g (addK T q) (fun b j => if b = (T.1.length : Int) then f j else μ b j) H' := by
  refine ⟨by rw [h2, hR.1]; simp [addK, Nat.add_assoc], fun k q' hq' => ?_⟩
  simp only [addK] at hq'
  rw [List.getElem?_append] at hq'
  by_cases hk : k < T.1.length
  · rw [if_pos hk] at hq'
    have h4 : H'[g.1 + k]? = H[g.1 + k]? := h3 _ (by rw [hR.1]; omega)
    have h5 : ∀ i, (fun (b j : Int) => if b = (T.1.length : Int) then f j else μ b j) k i = μ k i := fun i => by
      show (if (k : Int) = (T.1.length : Int) then f i else μ k i) = μ k i
      rw [if_neg (by omega)]
    exact ⟨fun z => ((hR.2 k q' hq').1 z).kept h4 h5, fun z => by
      have := ((hR.2 k q' hq').2 z).kept (μ' := fun (b j : Int) => if b = (T.1.length : Int) then f j else μ b j) h4 h5
      exact this⟩
  · rw [if_neg hk] at hq'
    have hk2 : k = T.1.length := by
      have := (List.getElem?_eq_some_iff.mp hq').1
      simp at this
      omega
    subst hk2
    simp at hq'
    subst hq'
    exact hnew
/-- what a new object's field holds -/
def dfl (ci j : Nat) : Int := if vt (ftc (fty ci j)) = 2 then -1 else 0
section WPN
variable {md : MD} {R : Room} {Z : ZT} {T : Wd} {cc ss : Nat} {pc pc' : Nat} {L L' st st' : List AV} {μ : Mem}
theorem va_S.mk {A : Nat → Prop} {H0 H H1 : Heap} {locs : List Loc} (h : va_S A H0 H locs) (z : H1.size = H.size + 1) (oq : ∀ q : Nat, q < H.size → H1[q]? = H[q]?) : va_S A H0 H1 locs :=
  ⟨by rw [z]; exact Nat.le_succ_of_le h.1, fun q h1 h2 => (oq q (Nat.lt_of_lt_of_le h1 h.1)).trans (h.2.1 q h1 h2), h.2.2⟩
theorem WP_newarray {aty : ArrayType} {e n : Nat} (hd : decode md.2.1 pc = .ok (.newarray aty, 2)) (hty : newarray.typeOf aty = et e) (he : e ∈ ([0, 1, 4, 5] : List Nat)) (hw : Cond.arrayClass (et e) ∈ UW) (hn : n ≤ 60000) (hcc : cc + 1 ≤ R.cells) (hss : ss + n ≤ R.slots)
    (k : WP md R Z (addK T (e, n)) (cc + 1) (ss + n) (pc + 2) L ((2, (T.1.length : Int)) :: st) (fun b j => if b = (T.1.length : Int) then 0 else μ b j)) : WP md R Z T cc ss pc L ((0, (n : Int)) :: st) μ := by
  intro g p l e' s m args below meth c H locs ls C K h0 Rp S V G
  have hc3 : e = 0 ∨ e = 1 ∨ e = 4 ∨ e = 5 := by simpa using he
  have hgn : i32 (n : Int) := g1 G
  have hdef : val g (vt e, 0) = defaultValue (et e) := by rcases hc3 with q | q | q | q <;> rw [q] <;> rfl
  have hcb : componentBytes (et e) ≤ 8 := by rcases hc3 with q | q | q | q <;> rw [q] <;> decide
  refine va_newaK C.1 C.2.1 (by rw [hty]; exact C.2.2.2.2.2.1 _ hw) rfl hd rfl (by rw [show (Int32.ofInt (n : Int) < 0 ↔ (n : Int) < 0) from lt32 (y := 0) hgn (by decide)]; omega) (cl32 hgn) (by rw [hty, show ((n : Int).toNat) = n from rfl]; exact Nat.le_trans (Nat.mul_le_mul hn hcb) (by decide)) hcc hss rfl (fun H' cA e1 e2 e3 e4 e5 => ?_)
  rw [hty] at e1 e4 e5
  have hA := K.2.1 e (by rcases hc3 with q | q | q | q <;> rw [q] <;> decide)
  have hcA : cA = g.2.2.1 e := by
    have h := hA.2
    rcases hc3 with q | q | q | q <;> rw [q] at h e5 ⊢ <;> exact (Option.some.inj (e5.symm.trans h))
  subst hcA
  have := k g p l e' s m args below meth c H' locs ls C K h0 (Rp.grow (f := fun _ => 0) e2 e3 ⟨fun _ => ⟨?_, fun j _ => ?_⟩, fun z => absurd z (by simp only; omega)⟩) (S.mk e2 e3) V (gc (show (-1 : Int) ≤ _ by omega) (g2 G))
  · rw [List.map_cons, val_ad] at this
    rw [Rp.1]
    exact this
  · rw [← Rp.1, e1]
    congr 2
    funext j
    simp only [if_true]
    exact hdef.symm
  · simp only [if_true]
    rcases hc3 with q | q | q | q <;> rw [q] <;> first | exact (show i32 0 by decide) | exact (show i64 0 by decide) | exact (show (-128 : Int) ≤ 0 ∧ (0 : Int) < 128 by decide) | exact (show (0 : Int) ≤ 0 ∧ (0 : Int) ≤ 1 by decide)
theorem WP_anewarray {idx ci n : Nat} (hd : decode md.2.1 pc = .ok (.anewarray idx, 3)) (hci : 10 + ci ∈ ([11, 16, 18] : List Nat)) {C : String} (hC : et (10 + ci) = .object C) (hw : Cond.classLink md.1.cls idx C ∈ UW) (hw2 : Cond.arrayOver (.object C) ∈ nestW) (hn : n ≤ 60000) (hcc : cc + 1 ≤ R.cells) (hss : ss + n ≤ R.slots)
    (k : WP md R Z (addK T (10 + ci, n)) (cc + 1) (ss + n) (pc + 3) L ((2, (T.1.length : Int)) :: st) (fun b j => if b = (T.1.length : Int) then -1 else μ b j)) : WP md R Z T cc ss pc L ((0, (n : Int)) :: st) μ := by
  intro g p l e' s m args below meth c H locs ls Cx K h0 Rp S V G
  have hc3 : 10 + ci = 11 ∨ 10 + ci = 16 ∨ 10 + ci = 18 := by simpa using hci
  have hgn : i32 (n : Int) := g1 G
  have hvt : vt (10 + ci) = 2 := by rcases hc3 with q | q | q <;> rw [q] <;> rfl
  have hA := K.2.1 (10 + ci) (by rcases hc3 with q | q | q <;> rw [q] <;> decide)
  rw [hC] at hA
  obtain ⟨kA', comp', k1, k2, k3, k4⟩ := hA.2
  have hnn : (Int32.ofInt (n : Int)).toNatClampNeg = n := cl32 hgn
  refine W.anew Cx.1 Cx.2.1 Cx.2.2.2.2.1 (Cx.2.2.2.2.2.1 _ hw) (nest_use hw2 (K.2.2.2.2.2.2.2.2 _ hw2)) rfl hd rfl (by rw [show (Int32.ofInt (n : Int) < 0 ↔ (n : Int) < 0) from lt32 (y := 0) hgn (by decide)]; omega) (by rw [hnn]; omega) hcc (by rw [hnn]; exact hss) (fun cA kA comp h1 h2 h3 h4 => ?_)
  rw [hnn]
  have hcA : cA = g.2.2.1 (10 + ci) := Option.some.inj (h1.symm.trans k4)
  subst hcA
  rw [arrV_new]
  have := k g p l e' s m args below meth c (H.push (arrV (g.2.2.1 (10 + ci)) n (fun _ => Value.null))) locs ls Cx K h0 (Rp.grow (f := fun _ => -1) (by simp) (fun q hq => by rw [Array.getElem?_push, if_neg (Nat.ne_of_lt hq)]) ⟨fun _ => ⟨?_, fun j _ => ?_⟩, fun z => absurd z (by simp only; omega)⟩) (S.mk (by simp) (fun q hq => by rw [Array.getElem?_push, if_neg (Nat.ne_of_lt hq)])) V (gc (show (-1 : Int) ≤ _ by omega) (g2 G))
  · rw [List.map_cons, val_ad] at this
    rw [Rp.1]
    exact this
  · rw [← Rp.1]
    simp only [Array.getElem?_push_size, if_true, hvt]
    rfl
  · simp only [if_true]
    rcases hc3 with q | q | q <;> rw [q] <;> exact (show (-1 : Int) ≤ -1 by decide)
theorem WP_new {idx ci n : Nat} {r : vw_C} (hd : decode md.2.1 pc = .ok (.new idx, 3)) (hr : cls0[ci]? = some r) (hn : r.2.2 = n) (hw : Cond.classLink md.1.cls idx r.1 ∈ UW) (hw2 : Cond.instantiable r.1 n ∈ UW) (hw3 : Cond.initialized r.1 ∈ UW) (hok : ∀ j, j < n → okF (fty ci j) = true) (hfo : ∀ j, j < n → T.2.1 ci j = none) (hcc : cc + 1 ≤ R.cells) (hss : ss + n ≤ R.slots)
    (k : WP md R Z (addK T (30 + ci, n)) (cc + 1) (ss + n) (pc + 3) L ((2, (T.1.length : Int)) :: st) (fun b j => if b = (T.1.length : Int) then (if 0 ≤ j then dfl ci j.toNat else 0) else μ b j)) : WP md R Z T cc ss pc L st μ := by
  intro g p l e' s m args below meth c H locs ls Cx K h0 Rp S V G
  have hts := Cx.2.2.2.2.2.1
  have hcls := cls_ok ci r hr
  have hKn := K.1 ci r hr
  obtain ⟨hS, hfc, kC0, hkC0, hkind⟩ := id hKn
  refine W.newcK Cx.1 Cx.2.1 Cx.2.2.2.2.1 (hts _ hw) (hts _ hw2) (hts _ hw3) rfl hd hcc hss hfc rfl (fun H' kC hkC e1 e2 e3 => ?_)
  have hfs : ∀ j, j < n → val g (vt (ftc (fty ci j)), dfl ci j) = defaultValue (fty ci j) := by
    intro j hj
    have := hok j hj
    unfold dfl
    revert this
    cases fty ci j <;> intro ho <;> first | rfl | cases ho
  have := k g p l e' s m args below meth c H' locs ls Cx K h0 (Rp.grow (f := fun j => if 0 ≤ j then dfl ci j.toNat else 0) e2 e3 ⟨fun z => absurd z (by simp only; omega), fun _ => ⟨?_, fun j hj => ?_, r, by simpa using hr, hn⟩⟩) (S.mk e2 e3) V (gc (show (-1 : Int) ≤ _ by omega) G)
  · rw [List.map_cons, val_ad] at this
    rw [Rp.1]
    exact this
  · simp only [Nat.add_sub_cancel_left]
    rw [← Rp.1]
    have hb := u_born (fty ci) hts hcls.1 hKn hkC e1 hcls.2.1
    rw [hn] at hb
    refine hb.to (fun j hj => ?_)
    rw [← hfs j hj]
    simp [fv, hfo j hj]
  · simp only [Nat.add_sub_cancel_left]
    have h1 : fv T (fun b j => if b = (T.1.length : Int) then (if 0 ≤ j then dfl ci j.toNat else 0) else μ b j) ci (T.1.length : Int) j = dfl ci j := by simp [fv, hfo j hj]
    rw [h1]
    have := hok j hj
    unfold dfl
    revert this
    cases fty ci j <;> intro ho <;> first | exact (show i32 0 by decide) | exact (show i64 0 by decide) | exact (show (0 : Int) ≤ 0 ∧ (0 : Int) ≤ 1 by decide) | exact (show (-1 : Int) ≤ -1 by decide) | cases ho
theorem WP_objInit {idx : Nat} {v : AV} (hd : decode md.2.1 pc = .ok (.invokespecial idx, 3)) (hv : v.1 = 2 ∧ 0 ≤ v.2) (hw : Cond.methodLink md.1.cls idx Lib.objectInit ∈ UW) (hw2 : Cond.instanceMethod Lib.objectInit ∈ UW) (hw3 : Cond.code Lib.objectInit ⟨#[0xb1]⟩ 1 none ∈ UW) (hR : 1 ≤ R.frames ∧ 20 ≤ R.locals) (hst : (st.map fun v => if v.1 = 1 then 2 else 1).sum ≤ 8)
    (k : WP md R Z T cc ss (pc + 3) L st μ) : WP md R Z T cc ss pc L (v :: st) μ := by
  intro g p l e' s m args below meth c H locs ls C K h0 Rp S V G
  have hts := C.2.2.2.2.2.1
  obtain ⟨t, x⟩ := v
  obtain ⟨rfl, hx⟩ : t = 2 ∧ 0 ≤ x := hv
  rw [List.map_cons, val_nn hx]
  refine W.objInit C.1 C.2.1 C.2.2.2.2.1 (hts _ hw) (hts _ hw2) (hts _ hw3) rfl (by show ls.size = _; rw [V.2.1]; exact C.2.2.2.1.symm) rfl hd hR.1 ?_ (k g p l e' s m args below meth c H locs ls C K h0 Rp S V (g2 G))
  have he : ((st.map (val g)).map fun v => v.category).sum = (st.map fun v => if v.1 = 1 then 2 else 1).sum := by
    rw [List.map_map]
    congr 1
    exact List.map_congr_left fun v _ => val_cat g v
  show 2 * 0 + _ + 12 ≤ _
  rw [he]
  omega
end WPN

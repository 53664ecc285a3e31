/-! BASE 7: contracts, calls, returns -/
abbrev PQ : Type := Option AV → List (Nat × Nat) → Mem → Prop
def QM (g : GW) (F : (Nat → Nat → Option Int) × Nat × (Int → Int)) (Q : PQ) : Array Value → State → Outcome → State → Prop := fun _ st oc t =>
  (∃ (r : Option AV) (K' : List (Nat × Nat)) (μ' : Mem), oc = .returned (r.map (val g)) ∧ (∀ v, r = some v → good v) ∧ Q r K' μ' ∧ Rep g (K', F) μ' t.heap) ∧ va_F (AA g) st t
def ZM (F : (Nat → Nat → Option Int) × Nat × (Int → Int)) (mc ms : Nat) (Q : PQ) : ZT := fun g below args s => MQ below (QM g F Q) args s mc ms (AA g)
def PcW (g : GW) (T : Wd) (as : List AV) (μ : Mem) : Array Value → State → Prop := fun a U => a = (as.map (val g)).toArray ∧ (∀ v ∈ as, good v) ∧ KX g T.2.2 U U.heap ∧ g.1 ≤ U.heap.size ∧ Rep g T μ U.heap
def RM (d mc ms : Nat) : Room := { frames := d, cells := mc, slots := ms, locals := 64 * d }
/-- THE CONTRACT of a method: with these arguments over this memory it returns, and Q holds of the answer, the kinds and the memory behind it -/
def CT (md : MD) (d mc ms : Nat) (T : Wd) (as : List AV) (μ : Mem) (Q : PQ) : Prop := ∀ (g : GW) (l : Launch), Met l md.1 (UWm md) (RM d mc ms) (PcW g T as μ) (QM g T.2 Q) mc ms (AA g)
theorem PcW_blind {g : GW} {T : Wd} {as : List AV} {μ : Mem} : FrameBlind (PcW g T as μ) := by
  intro a U f mk h
  obtain ⟨h1, h2, h3, h4, h5⟩ := h
  refine ⟨h1, h2, ?_, h4, h5⟩
  obtain ⟨k1, k2, k3, k4, k5, k6, ⟨b, e1, e2, e3, e4⟩, k8, k9⟩ := h3
  have hv : U.vm.Alike (U.calling f mk a).vm := Vm.Alike.refl U.vm
  exact ⟨fun ci q hq => u_Kn_moved hv (k1 ci q hq), fun e he => ⟨arrOfT_moved hv (k2 e he).1, (k2 e he).2.moved hv⟩, fun i hi => (k3 i hi).moved hv, fun i hi => (k4 i hi).same rfl, k5.moved hv, k6.moved hv, ⟨b, e1, e2.moved hv, e3, e4⟩, k8, fun w hw => nest_same (u := U) (U := U.calling f mk a) hw rfl (k9 w hw)⟩
/-- the locals at a method's entry -/
def entA : List AV → List AV
  | [] => []
  | v :: vs => if v.1 = 1 then v :: (9, 0) :: entA vs else v :: entA vs
def entL (n : Nat) (as : List AV) : List AV := entA as ++ List.replicate (n - (entA as).length) (9, 0)
theorem entA_args {g : GW} : ∀ (as : List AV) (b i : Nat) (v : AV), (entA as)[i]? = some v → v.1 < 8 → (b + i, val g v) ∈ lv_args b (as.map (val g)) := by
  intro as
  induction as with
  | nil => intro b i v h; simp [entA] at h
  | cons a as ih =>
    intro b i v h h8
    rw [List.map_cons, lv_args, val_cat]
    unfold entA at h
    by_cases ha : a.1 = 1
    · rw [if_pos ha] at h
      rw [if_pos ha, if_pos rfl]
      match i, h with
      | 0, h => simp at h; subst h; exact List.mem_cons_self
      | 1, h => simp at h; subst h; exact absurd h8 (by decide)
      | i + 2, h =>
        have := ih (b + 2) i v (by simpa using h) h8
        rw [show b + 2 + i = b + (i + 2) by omega] at this
        exact List.mem_cons_of_mem _ this
    · rw [if_neg ha] at h
      rw [if_neg ha, if_neg (by decide)]
      match i, h with
      | 0, h => simp at h; subst h; exact List.mem_cons_self
      | i + 1, h =>
        have := ih (b + 1) i v (by simpa using h) h8
        rw [show b + 1 + i = b + (i + 1) by omega] at this
        exact List.mem_cons_of_mem _ this
theorem entA_len {g : GW} : ∀ (as : List AV), (entA as).length = (lg_sl (as.map (val g))).length := by
  intro as
  induction as with
  | nil => rfl
  | cons a as ih =>
    have e : lg_sl ((a :: as).map (val g)) = (if (val g a).category = 2 then [Slot.val (val g a), Slot.second] else [Slot.val (val g a)]) ++ lg_sl (as.map (val g)) := by
      simp [lg_sl]
    rw [e, val_cat]
    unfold entA
    by_cases ha : a.1 = 1
    · rw [if_pos ha, if_pos ha, if_pos rfl]; simp [ih]
    · rw [if_neg ha, if_neg ha, if_neg (by decide)]; simp [ih]
theorem entA_good : ∀ (as : List AV), (∀ v ∈ as, good v) → ∀ (i : Nat) (v : AV), (entA as)[i]? = some v → v.1 < 8 → good v := by
  intro as
  induction as with
  | nil => intro _ i v h; simp [entA] at h
  | cons a as ih =>
    intro hg i v h h8
    have hg2 : ∀ v ∈ as, good v := fun v hv => hg v (List.mem_cons_of_mem _ hv)
    unfold entA at h
    by_cases ha : a.1 = 1
    · rw [if_pos ha] at h
      match i, h with
      | 0, h => simp at h; subst h; exact hg _ List.mem_cons_self
      | 1, h => simp at h; subst h; exact absurd h8 (by decide)
      | i + 2, h => exact ih hg2 i v (by simpa using h) h8
    · rw [if_neg ha] at h
      match i, h with
      | 0, h => simp at h; subst h; exact hg _ List.mem_cons_self
      | i + 1, h => exact ih hg2 i v (by simpa using h) h8
theorem LV_entry {g : GW} {n : Nat} {as : List AV} (hn : (entA as).length ≤ n) (hg : ∀ v ∈ as, good v) :
    LV g n ((lg_sl (as.map (val g)) ++ List.replicate (n - (lg_sl (as.map (val g))).length) Slot.unset).toArray) (entL n as) := by
  have h := lv_entry (as.map (val g)) (n := n) (by rw [← entA_len]; exact hn)
  refine ⟨by simp only [entL, List.length_append, List.length_replicate]; omega, h.1, h.2.1, fun i v hv h8 => ?_⟩
  unfold entL at hv
  rw [List.getElem?_append] at hv
  by_cases hi : i < (entA as).length
  · rw [if_pos hi] at hv
    refine ⟨?_, entA_good as hg i v hv h8⟩
    have := entA_args (g := g) as 0 i v hv h8
    rw [Nat.zero_add] at this
    exact h.2.2 _ this
  · rw [if_neg hi, List.getElem?_replicate] at hv
    split at hv
    · cases hv; exact absurd h8 (by decide)
    · cases hv
/-- a contract out of the walk from the entry -/
theorem CT_of {md : MD} {d mc ms : Nat} {T : Wd} {as : List AV} {μ : Mem} {Q : PQ} (hp : plainName md.1.cls = true) (hn : (entA as).length ≤ md.2.2.1)
    (h : WP md (RM d mc ms) (ZM T.2 mc ms Q) T 0 0 0 (entL md.2.2.1 as) [] μ) : CT md d mc ms T as μ Q := by
  intro g l
  refine Met.ofW (cc := md.2.1) (maxL := md.2.2.1) (ret := md.2.2.2) hp rfl ?_
  intro p e s m args below meth c s₁ B hml hv
  obtain ⟨rfl, hg, hK, hb, hR⟩ := hv
  have hts := atoms_spec (ws := UWm md) B.pre
  rw [lg_entry_eq]
  have hname : meth.name = md.1.name := (name_of_methodNamed B.named B.method).1
  exact h g p l e s m _ below meth c s.heap [] _ ⟨B.exec, B.bytes, B.returns, hml, findClass_of_methodNamed B.named, fun w hw => hts w (List.mem_cons_of_mem _ hw), B.notSynchronized, hname⟩ hK hb hR va_S.rf (LV_entry hn hg) (fun v h => by cases h)
/-! returns -/
section WPC
variable {md : MD} {R : Room} {Z : ZT} {T : Wd} {cc ss mc ms : Nat} {pc pc' : Nat} {L L' st st' : List AV} {μ : Mem} {Q : PQ}
theorem WP_widen {cc' ss' : Nat} (h1 : cc ≤ cc') (h2 : ss ≤ ss') (k : WP md R Z T cc' ss' pc L st μ) : WP md R Z T cc ss pc L st μ :=
  fun g p l e s m args below meth c H locs ls C K h0 Rp S V G => W.widen h1 h2 (k g p l e s m args below meth c H locs ls C K h0 Rp S V G)
theorem WP_ireturn {x : Int} (hd : decode md.2.1 pc = .ok (.ireturn, 1)) (hr : md.2.2.2 = some .int) (hq : Q (some (0, x)) T.1 μ) : WP md R (ZM T.2 mc ms Q) T mc ms pc L ([(0, x)]) μ := by
  intro g p l e s m args below meth c H locs ls C K h0 Rp S V G
  have hrt := C.2.2.1
  exact W.iret (v := Int32.ofInt x) C.1 C.2.1 (hrt.trans hr) (fun t ht _ => ⟨⟨some (0, x), T.1, μ, rfl, fun v hv => (by cases hv; exact g1 G), hq, by rw [ht]; exact Rp⟩, S.F ht⟩) S.2.2 hd C.2.2.2.2.2.2.1
theorem WP_zreturn {x : Int} (hd : decode md.2.1 pc = .ok (.ireturn, 1)) (hr : md.2.2.2 = some .boolean) (hx : 0 ≤ x ∧ x ≤ 1) (hq : Q (some (0, x)) T.1 μ) : WP md R (ZM T.2 mc ms Q) T mc ms pc L ([(0, x)]) μ := by
  intro g p l e s m args below meth c H locs ls C K h0 Rp S V G
  have hrt := C.2.2.1
  have hn : narrow .boolean (.int (Int32.ofInt x)) = .int (Int32.ofInt x) := by
    have hx2 : x = 0 ∨ x = 1 := by omega
    rcases hx2 with rfl | rfl <;> rfl
  exact W.zret (v := Int32.ofInt x) C.1 C.2.1 (hrt.trans hr) hn (fun t ht _ => ⟨⟨some (0, x), T.1, μ, rfl, fun v hv => (by cases hv; exact g1 G), hq, by rw [ht]; exact Rp⟩, S.F ht⟩) S.2.2 hd C.2.2.2.2.2.2.1
theorem WP_creturn {x : Int} (hd : decode md.2.1 pc = .ok (.ireturn, 1)) {ty : FieldType} (hr : md.2.2.2 = some ty) (hn : narrow ty (.int (Int32.ofInt x)) = .int (Int32.ofInt x)) (hq : Q (some (0, x)) T.1 μ) : WP md R (ZM T.2 mc ms Q) T mc ms pc L ([(0, x)]) μ := by
  intro g p l e s m args below meth c H locs ls C K h0 Rp S V G
  have hrt := C.2.2.1
  exact W.zret (v := Int32.ofInt x) C.1 C.2.1 (hrt.trans hr) hn (fun t ht _ => ⟨⟨some (0, x), T.1, μ, rfl, fun v hv => (by cases hv; exact g1 G), hq, by rw [ht]; exact Rp⟩, S.F ht⟩) S.2.2 hd C.2.2.2.2.2.2.1
theorem WP_lreturn {x : Int} (hd : decode md.2.1 pc = .ok (.lreturn, 1)) (hr : md.2.2.2 = some .long) (hq : Q (some (1, x)) T.1 μ) : WP md R (ZM T.2 mc ms Q) T mc ms pc L ([(1, x)]) μ := by
  intro g p l e s m args below meth c H locs ls C K h0 Rp S V G
  have hrt := C.2.2.1
  exact W.lret (v := Int64.ofInt x) C.1 C.2.1 (hrt.trans hr) (fun t ht _ => ⟨⟨some (1, x), T.1, μ, rfl, fun v hv => (by cases hv; exact g1 G), hq, by rw [ht]; exact Rp⟩, S.F ht⟩) S.2.2 hd C.2.2.2.2.2.2.1
theorem WP_return (hd : decode md.2.1 pc = .ok (.return_, 1)) (hr : md.2.2.2 = none) (hq : Q none T.1 μ) : WP md R (ZM T.2 mc ms Q) T mc ms pc L [] μ := by
  intro g p l e s m args below meth c H locs ls C K h0 Rp S V G
  exact W.vret C.1 C.2.1 (C.2.2.1.trans hr) (fun t ht _ => ⟨⟨none, T.1, μ, rfl, fun v hv => (by cases hv), hq, by rw [ht]; exact Rp⟩, S.F ht⟩) S.2.2 hd C.2.2.2.2.2.2.1
/-! calls -/
theorem WP_ran {W0 : List Cond} {a : Array Value} {p : Program} {l : Launch} {e : Env} {s : State} {m : MethodId} {args : Array Value} {below : List Frame} {meth : Method} {c : Code} {g : GW} {H : Heap} {locs : List Loc} {ls : Array Slot} {st0 : List Value}
    (C : CTX md p s m args meth c) (K : KX g T.2.2 s s.heap) (h0 : g.1 ≤ s.heap.size) (S : va_S (AA g) s.heap H locs) (V : LV g md.2.2.1 ls L) (G : ∀ v ∈ st, good v)
    (hr : va_Run p l e R s m args below meth c H locs cc ss mc ms (F0 m pc ls st0) (st.map (val g)) (QM g T.2 Q a) (AA g))
    (k : ∀ (r : Option AV) (K' : List (Nat × Nat)) (μ' : Mem), Q r K' μ' → WP md R Z (K', T.2) (cc + mc) (ss + ms) (pc + 3) L (r.toList ++ st) μ') :
    W p l e R s m args below meth c H locs cc ss (Z g below args s) (F0 m pc ls st0) := by
  intro T1 hT X
  obtain ⟨v, st₀, t, T', L1, h1, X', hL, e1, e2, ⟨⟨r, K', μ', hv, hgr, hq, hrep⟩, hz, hk⟩, stp⟩ := hr T1 hT X
  have hv2 : v = r.map (val g) := Outcome.returned.inj hv
  subst hv2
  rw [h1] at hz hk
  have hS' : va_S (AA g) s.heap T'.heap (locs ++ L1) := ⟨Nat.le_trans S.1 (by rw [e1]; exact hz), fun q h1 h2 => by rw [e1, hk q (Nat.lt_of_lt_of_le h1 S.1) h2]; exact S.2.1 q h1 h2, fun q hq => by
    rcases List.mem_append.mp hq with h | h
    · exact S.2.2 q h
    · exact hL q h⟩
  obtain ⟨t2, a1, b1⟩ := k r K' μ' hq g p l e s m args below meth c T'.heap (locs ++ L1) ls C K h0 (by rw [e1]; exact hrep) hS' V (fun v hv => by
    rcases List.mem_append.mp hv with h | h
    · exact hgr v (by cases r with
        | none => cases h
        | some x => simp at h; subst h; rfl)
    · exact G v h) T' rfl X'
  refine ⟨t2, stp t2 ?_, b1⟩
  have : (r.toList ++ st).map (val g) = (r.map (val g)).toList ++ st.map (val g) := by cases r <;> simp
  rw [this] at a1
  exact a1
/-- a method's own facts -/
def MOK (md' : MD) (n : Nat) : Prop := md'.1.cls ≠ "java/lang/invoke/MethodHandle" ∧ md'.1.cls ≠ "java/lang/invoke/VarHandle" ∧ (parseMethodDescriptor md'.1.desc).map (fun d => d.parameters.length) = some n ∧ md'.2.2.1 ≤ 45
/-- the words of a call -/
def MW (md' : MD) : Prop := Cond.code md'.1 md'.2.1 md'.2.2.1 md'.2.2.2 ∈ UW ∧ Cond.initialized md'.1.cls ∈ UW
theorem gin (md' : MD) (h : MW md') : GoodIn UW (UWm md') := fun w hw => by
  rcases List.mem_cons.mp hw with e | e
  · subst e; exact ⟨h.1, good_of_word (UW_good _ h.1)⟩
  · exact ⟨e, good_of_word (UW_good _ e)⟩
theorem gin1 {ws : List Cond} {md' : MD} (h : MW md') (hw : ∀ w ∈ ws, w ∈ UW) : GoodIn UW (ws ++ UWm md') := fun w hm => by
  rcases List.mem_append.mp hm with e | e
  · exact ⟨hw w e, good_of_word (UW_good _ (hw w e))⟩
  · exact gin md' h w e
def stc (st : List AV) : Nat := (st.map fun v => if v.1 = 1 then 2 else 1).sum
theorem stc_eq (g : GW) (st : List AV) : ((st.map (val g)).map fun v => v.category).sum = stc st := by
  rw [List.map_map, stc]
  congr 1
  exact List.map_congr_left fun v _ => val_cat g v
/-- where the receiver is -/
def RCV (T : Wd) (C : String) (v : AV) : Prop := (v.1 = 2 ∧ ∃ (ci n : Nat) (r : vw_C), kd T v.2 = some (30 + ci, n) ∧ cls0[ci]? = some r ∧ r.1 = C) ∨ (v.1 = 3 ∧ C = "java/lang/String")
theorem RCV.cell {C : String} {v : AV} {g : GW} {s : State} {H : Heap} {locs : List Loc} (h : RCV T C v) (K : KX g T.2.2 s s.heap) (S : va_S (AA g) s.heap H locs) (Rp : Rep g T μ H) (hg : good v) : ∃ b : Nat, val g v = .ref b ∧ ∃ cell : Cell, H[b]? = some cell ∧ cell.vm.isStatics = false ∧ s.vm.findClass C = some cell.cls := by
  obtain ⟨t, x⟩ := v
  rcases h with ⟨rfl, ci, n, r, hk, hr, rfl⟩ | ⟨h1, rfl⟩
  · obtain ⟨kk, rfl, hq⟩ := kd_spec hk
    obtain ⟨⟨cell, q1, q2, q3, q4⟩, -⟩ := (Rp.2 kk _ hq).2 (by simp)
    simp only [Nat.add_sub_cancel_left] at q2
    exact ⟨g.1 + kk, val_ad g kk, cell, q1, by rw [q3]; rfl, by rw [q2]; exact (K.1 ci r hr).2.1⟩
  · obtain rfl : t = 3 := h1
    have hg2 : 0 ≤ x ∧ x < 4 := hg
    exact ⟨g.2.2.2.1 x.toNat, rfl, vk_recv (i := 0) (K.2.2.1 x.toNat (by omega)) (Nat.lt_succ_self 0) S⟩
theorem pcw {g : GW} {s : State} {H : Heap} {locs : List Loc} {as : List AV} (K : KX g T.2.2 s s.heap) (h0 : g.1 ≤ s.heap.size) (S : va_S (AA g) s.heap H locs) (Rp : Rep g T μ H) (ha : ∀ v ∈ as, good v) : ∀ U : State, U.heap = H → s.WarmedH U.vm → PcW g T as μ (as.map (val g)).toArray U :=
  fun U hU hW => ⟨rfl, ha, K.at S hU hW, by rw [hU]; exact Nat.le_trans h0 S.1, by rw [hU]; exact Rp⟩
theorem WP_invV {idx d' : Nat} {md' : MD} {v : AV} {as : List AV} (hd : decode md.2.1 pc = .ok (.invokevirtual idx, 3)) (hl : Cond.methodLink md.1.cls idx md'.1 ∈ UW) (hM : MW md') (hi : Cond.instanceMethod md'.1 ∈ UW) (hs : Cond.selects md'.1.cls md'.1 md'.1 ∈ UW) (hok : MOK md' as.length)
    (hv : RCV T md'.1.cls v) (hR : d' + 1 ≤ R.frames ∧ 64 * (d' + 1) ≤ R.locals) (hst : stc st ≤ 8) (hm : cc + mc ≤ R.cells ∧ ss + ms ≤ R.slots) (hc : CT md' d' mc ms T (v :: as) μ Q)
    (k : ∀ (r : Option AV) (K' : List (Nat × Nat)) (μ' : Mem), Q r K' μ' → WP md R Z (K', T.2) (cc + mc) (ss + ms) (pc + 3) L (r.toList ++ st) μ') : WP md R Z T cc ss pc L (as.reverse ++ v :: st) μ := by
  intro g p l e s m args below meth c H locs ls C K h0 Rp S V G
  have hts := C.2.2.2.2.2.1
  have ha : ∀ w ∈ v :: as, good w := fun w hw => G w (by
    rcases List.mem_cons.mp hw with e | e
    · subst e; simp
    · simp [e])
  obtain ⟨b, hb, hcell⟩ := hv.cell K S Rp (ha _ List.mem_cons_self)
  have hP := pcw (as := v :: as) K h0 S Rp ha
  have hrun := va_runV (e := e) (below := below) (meth := meth) (locs := locs) (As := as.map (val g)) (rest := st.map (val g)) (b := b) (g := F0 m pc ls ((as.reverse ++ v :: st).map (val g))) ⟨C.1, C.2.1, C.2.2.2.1, C.2.2.2.2.1, hts⟩ (hc g l)
    (cwV as.length hts (gin1 hM (fun w hw => by
      simp only [List.mem_cons, List.not_mem_nil, or_false] at hw
      rcases hw with rfl | rfl | rfl | rfl
      · exact hl
      · exact hi
      · exact hs
      · exact hM.2)) rfl rfl rfl ⟨rfl, hok.1, hok.2.1, hok.2.2.1⟩ ⟨hR.1, by have := hok.2.2.2; have := hR.2; simp only [RM]; omega⟩)
    ⟨PcW_blind, hcell, fun U hU hW => by have := hP U hU hW; rw [List.map_cons, hb] at this; exact this⟩ rfl (by simp) V.2.1 (by simp [hb]) (by rw [stc_eq]; show 2 * 0 + _ ≤ 8; omega) hd hm
  exact WP_ran (W0 := []) C K h0 S V (fun w hw => G w (by simp [hw])) hrun k
theorem WP_invS {idx d' : Nat} {md' : MD} {as : List AV} (hd : decode md.2.1 pc = .ok (.invokestatic idx, 3)) (hl : Cond.methodLink md.1.cls idx md'.1 ∈ UW) (hM : MW md') (hi : Cond.static md'.1 ∈ UW) (hok : MOK md' as.length)
    (hR : d' + 1 ≤ R.frames ∧ 64 * (d' + 1) ≤ R.locals) (hst : stc st ≤ 8) (hm : cc + mc ≤ R.cells ∧ ss + ms ≤ R.slots) (hc : CT md' d' mc ms T as μ Q)
    (k : ∀ (r : Option AV) (K' : List (Nat × Nat)) (μ' : Mem), Q r K' μ' → WP md R Z (K', T.2) (cc + mc) (ss + ms) (pc + 3) L (r.toList ++ st) μ') : WP md R Z T cc ss pc L (as.reverse ++ st) μ := by
  intro g p l e s m args below meth c H locs ls C K h0 Rp S V G
  have hts := C.2.2.2.2.2.1
  have ha : ∀ w ∈ as, good w := fun w hw => G w (by simp [hw])
  have hP := pcw (as := as) K h0 S Rp ha
  have hrun := va_runS (e := e) (below := below) (meth := meth) (locs := locs) (As := as.map (val g)) (rest := st.map (val g)) (g := F0 m pc ls ((as.reverse ++ st).map (val g))) ⟨C.1, C.2.1, C.2.2.2.1, C.2.2.2.2.1, hts⟩ (hc g l)
    ⟨callB_of as.length hts (gin md' hM) rfl rfl rfl (hts _ hM.2) (hts _ hl) ⟨hok.1, hok.2.1, hok.2.2.1⟩ ⟨hR.1, by have := hok.2.2.2; have := hR.2; simp only [RM]; omega⟩, hts _ hi⟩
    ⟨PcW_blind, hP⟩ rfl (by simp) V.2.1 (by simp) (by rw [stc_eq]; show 2 * 0 + _ ≤ 8; omega) hd hm
  exact WP_ran (W0 := []) C K h0 S V (fun w hw => G w (by simp [hw])) hrun k
theorem WP_invI {idx d' : Nat} {md' : MD} {v : AV} {as : List AV} (hd : decode md.2.1 pc = .ok (.invokespecial idx, 3)) (hl : Cond.methodLink md.1.cls idx md'.1 ∈ UW) (hM : MW md') (hret : md'.2.2.2 = none) (hn : md'.1.name = "<init>") (hi : Cond.instanceMethod md'.1 ∈ UW) (hok : MOK md' as.length)
    (hv : v.1 = 2 ∧ 0 ≤ v.2) (hR : d' + 1 ≤ R.frames ∧ 64 * (d' + 1) ≤ R.locals) (hst : stc st ≤ 8) (hm : cc + mc ≤ R.cells ∧ ss + ms ≤ R.slots) (hc : CT md' d' mc ms T (v :: as) μ Q)
    (k : ∀ (r : Option AV) (K' : List (Nat × Nat)) (μ' : Mem), Q r K' μ' → WP md R Z (K', T.2) (cc + mc) (ss + ms) (pc + 3) L (r.toList ++ st) μ') : WP md R Z T cc ss pc L (as.reverse ++ v :: st) μ := by
  intro g p l e s m args below meth c H locs ls C K h0 Rp S V G
  have hts := C.2.2.2.2.2.1
  have ha : ∀ w ∈ v :: as, good w := fun w hw => G w (by
    rcases List.mem_cons.mp hw with e | e
    · subst e; simp
    · simp [e])
  have hb : val g v = .ref (g.1 + v.2.toNat) := by
    obtain ⟨t, x⟩ := v
    obtain ⟨rfl, hx⟩ : t = 2 ∧ 0 ≤ x := hv
    exact val_nn hx
  have hP := pcw (as := v :: as) K h0 S Rp ha
  have hgi := gin md' hM
  have hw : UWm md' = Cond.code md'.1 md'.2.1 md'.2.2.1 none :: UW := by unfold UWm; rw [hret]
  have hrun := va_runI (e := e) (below := below) (meth := meth) (locs := locs) (As := as.map (val g)) (rest := st.map (val g)) (b := g.1 + v.2.toNat) (g := F0 m pc ls ((as.reverse ++ v :: st).map (val g))) ⟨C.1, C.2.1, C.2.2.2.1, C.2.2.2.2.1, hts⟩ (hc g l)
    (cwI as.length hts hgi hw rfl rfl (hts _ hM.2) (hts _ hl) (hts _ hi) hn ⟨hok.1, hok.2.1, hok.2.2.1⟩ ⟨hR.1, by have := hok.2.2.2; have := hR.2; simp only [RM]; omega⟩)
    ⟨PcW_blind, fun U hU hW => by have := hP U hU hW; rw [List.map_cons, hb] at this; exact this⟩ rfl (by simp) V.2.1 (by simp [hb]) (by rw [stc_eq]; show 2 * 0 + _ ≤ 8; omega) hd hm
  exact WP_ran (W0 := []) C K h0 S V (fun w hw => G w (by simp [hw])) hrun k
theorem WP_invIN {idx d' : Nat} {host : String} {md' : MD} {v : AV} {as : List AV} (hd : decode md.2.1 pc = .ok (.invokespecial idx, 3)) (hl : Cond.methodLinkNest md.1.cls idx md'.1 host ∈ nestW) (hM : MW md') (hret : md'.2.2.2 = none) (hn : md'.1.name = "<init>") (hi : Cond.instanceMethod md'.1 ∈ UW) (hok : MOK md' as.length)
    (hv : v.1 = 2 ∧ 0 ≤ v.2) (hR : d' + 1 ≤ R.frames ∧ 64 * (d' + 1) ≤ R.locals) (hst : stc st ≤ 8) (hm : cc + mc ≤ R.cells ∧ ss + ms ≤ R.slots) (hc : CT md' d' mc ms T (v :: as) μ Q)
    (k : ∀ (r : Option AV) (K' : List (Nat × Nat)) (μ' : Mem), Q r K' μ' → WP md R Z (K', T.2) (cc + mc) (ss + ms) (pc + 3) L (r.toList ++ st) μ') : WP md R Z T cc ss pc L (as.reverse ++ v :: st) μ := by
  intro g p l e s m args below meth c H locs ls C K h0 Rp S V G
  have hts := C.2.2.2.2.2.1
  have ha : ∀ w ∈ v :: as, good w := fun w hw => G w (by
    rcases List.mem_cons.mp hw with e | e
    · subst e; simp
    · simp [e])
  have hb : val g v = .ref (g.1 + v.2.toNat) := by
    obtain ⟨t, x⟩ := v
    obtain ⟨rfl, hx⟩ : t = 2 ∧ 0 ≤ x := hv
    exact val_nn hx
  have hP := pcw (as := v :: as) K h0 S Rp ha
  have hgi := gin md' hM
  have hw : UWm md' = Cond.code md'.1 md'.2.1 md'.2.2.1 none :: UW := by unfold UWm; rw [hret]
  have hrun := va_runIN (e := e) (below := below) (meth := meth) (locs := locs) (As := as.map (val g)) (rest := st.map (val g)) (b := g.1 + v.2.toNat) (g := F0 m pc ls ((as.reverse ++ v :: st).map (val g))) (host := host) ⟨C.1, C.2.1, C.2.2.2.1, C.2.2.2.2.1, hts⟩ (hc g l)
    ⟨va_cnB as.length hts hgi hw rfl rfl (K.2.2.2.2.2.2.2.2 _ hl) (hts _ hM.2) ⟨hok.1, hok.2.1, hok.2.2.1⟩ ⟨hR.1, by have := hok.2.2.2; have := hR.2; simp only [RM]; omega⟩, hn, hts _ hi⟩
    ⟨PcW_blind, fun U hU hW => by have := hP U hU hW; rw [List.map_cons, hb] at this; exact this⟩ rfl (by simp) V.2.1 (by simp [hb]) (by rw [stc_eq]; show 2 * 0 + _ ≤ 8; omega) hd hm
  exact WP_ran (W0 := []) C K h0 S V (fun w hw => G w (by simp [hw])) hrun k
end WPC

/-! THE LAW'S ENTRY: both objects are made, then the loop -/
theorem e_cc : 0 + 1 + 182 + 1 + 28 ≤ 600000 := Nat.le_of_ble_eq_true rfl
theorem law_start {sc : SC} {Z : ZT} (hn : (sc.1 : Int) ≤ 3072) (hsc : ∀ j, i32 (sc.2 j)) (kend : ∀ L μ, WL sc Z 1486 L [] μ) : WP mL_law room_1 Z (TN [] sc) 0 0 0 [(4, 0), (9, 0), (9, 0), (9, 0)] [] (fun _ _ => 0) := by
  refine WN_new (ci := 9) (n := 20) (b := 0) rfl dL_law_0 rfl rfl cl_L_7 in_RX9 ini_RX9 (by decide) (Nat.le_of_ble_eq_true rfl) (Nat.le_of_ble_eq_true rfl) (fun k1 μ1 e1 => ?_)
  refine WP_dup dL_law_3 (by simp) ?_
  refine WP_invI (md := mL_law) (d' := 3) (v := (2, 0)) (as := []) (mc := 182) (ms := 13917) dL_law_4 l_L_9 mw_X9_init rfl rfl mi_X9_init mo_X9_init ⟨rfl, by show (0 : Int) ≤ 0; omega⟩ ⟨Nat.le_of_ble_eq_true rfl, Nat.le_of_ble_eq_true rfl⟩ (Nat.le_of_ble_eq_true rfl) ⟨Nat.le_of_ble_eq_true rfl, Nat.le_of_ble_eq_true rfl⟩ (kc_X9 (Nat.le_refl 3) rfl k1) ?_
  rintro _ _ μ2 ⟨rfl, rfl, e2⟩
  refine WP_astore_n (L' := [(4, 0), (2, 0), (9, 0), (9, 0)]) dL_law_7 rfl (Nat.le_of_ble_eq_true rfl) (by decide) rfl ?_
  refine WN_new (ci := 10) (n := 49) (b := 183) (by decide +kernel) dL_law_8 rfl rfl cl_L_10 in_RX10 ini_RX10 (by decide) (Nat.le_of_ble_eq_true rfl) (Nat.le_of_ble_eq_true rfl) (fun k3 μ3 e3 => ?_)
  refine WP_dup dL_law_11 (by simp) ?_
  refine WP_invI (md := mL_law) (d' := 2) (v := (2, 183)) (as := []) (mc := 28) (ms := 65666) dL_law_12 l_L_12 mw_X10_init rfl rfl mi_X10_init mo_X10_init ⟨rfl, by show (0 : Int) ≤ 183; omega⟩ ⟨Nat.le_of_ble_eq_true rfl, Nat.le_of_ble_eq_true rfl⟩ (Nat.le_of_ble_eq_true rfl) ⟨Nat.le_of_ble_eq_true rfl, Nat.le_of_ble_eq_true rfl⟩ (kc_X10 (Nat.le_refl 2) (by decide +kernel) k3) ?_
  rintro _ _ μ4 ⟨rfl, rfl, e4⟩
  refine WP_astore_n (L' := [(4, 0), (2, 0), (2, 183), (9, 0)]) dL_law_15 rfl (Nat.le_of_ble_eq_true rfl) (by decide) rfl ?_
  refine WP_iconst dL_law_16 (by decide) ?_
  refine WP_istore_n (L' := [(4, 0), (2, 0), (2, 183), (0, 0)]) dL_law_17 rfl (Nat.le_of_ble_eq_true rfl) rfl ?_
  have eM : μ4 = M0 := by subst e1; subst e2; subst e3; exact e4
  rw [eM]
  refine WP_widen (cc' := 600000) (ss' := 7302250) (Nat.le_of_ble_eq_true rfl) (Nat.le_of_ble_eq_true rfl) ?_
  show WP mL_law room_1 Z (TN ((([(39, 20)] ++ oX9) ++ [(40, 49)]) ++ oX10) sc) 600000 7302250 18 [(4, 0), (2, 0), (2, 183), (0, 0)] [] M0
  rw [K0_eq]
  exact WP_fo fine_M0 (law_loop hn hsc kend 513 0 A0 M0 (by omega) (by omega) (by omega) RB_0)
/-! THE CLAIM OUT OF ONE WALK OF THE LAW'S BODY (the rows from here on began as the skeleton's) -/
def R_law : String := "HiccupHillLaw"
def lw_P (b : Addr) (xs : List Int32) (args : Array Value) (s : State) : Prop := args = #[.ref b] ∧ s.IntsAt b xs ∧ xs.length ≤ 3072 ∧ (Jvm.Cond.and given_1 narrow_1).before args s = true
def lw_Q (_ : Array Value) (s : State) (o : Outcome) (t : State) : Prop := o = .returned (some (.int 1)) ∧ Framed s o t [] 600000 7302250
def lw_Z (below : List Frame) (a : Array Value) (s : State) : State → Prop := fun t => ∃ o, t.status = .running ∧ Ended t below o ∧ lw_Q a s o t
theorem lw_ret {p : Program} {l : Launch} {e : Env} {s : State} {m : MethodId} {as : Array Value} {below : List Frame} {meth : Method} {c : Code} (hx : p.tables.exec = Jvm.exec) (hb : c.code = code) (hr : meth.sig.returnType = ret) (hlocks : meth.locks = false) {pc : Nat} {H : Heap} {ls : Array Slot} (hdg : decode code pc = .ok (.ireturn, 1)) : W p l e room_1 s m as below meth c H [] 600000 7302250 (lw_Z below as s) (F0 m pc ls [.int 1]) := by
  intro T hT X
  obtain ⟨fs, hret, hrun, hended, hW, hframe⟩ := X.leave (v := some (.int 1)) (hlocks := hlocks) (fun h => by rw [hr] at h; cases h)
  have hmeth' : T.vm.method? m = some meth := X.method'
  refine ⟨T.setFrames fs, ?_, .returned (some (.int 1)), hrun, hended, rfl, ⟨_, rfl⟩, hW, hframe⟩
  jvm_step X.here [X.here.top, hx, hb, hdg, hmeth', hr, ret, narrow_b1]
  (try refine ⟨rfl, ?_⟩); (try refine ⟨rfl, ?_⟩)
  first | (intro acts; rw [hret _ acts rfl rfl rfl]) | rw [hret _ _ rfl rfl rfl]
  exact Steps.refl _
/-- the law's end, where the base is the heap's size at the entry -/
def ZE : ZT := fun g below as s t => g.1 = s.heap.size → lw_Z below as s t
theorem law_end {sc : SC} (L : List AV) (μ : Mem) : WL sc ZE 1486 L [] μ := by
  refine WP_iconst dL_law_1486 (by decide) ?_
  intro g p l e s m args below meth c H locs ls C K h0 Rp S V G
  by_cases hg : g.1 = s.heap.size
  · refine va_forget (fun q hq => by rw [← hg]; exact S.2.2 q hq) ?_
    have h1 : Int32.ofInt 1 = 1 := by decide
    show W p l e room_1 s m args below meth c H [] 600000 7302250 (ZE g below args s) (F0 m 1487 ls [Value.int (Int32.ofInt 1)])
    rw [h1]
    intro T hT X
    obtain ⟨t, a1, z⟩ := lw_ret C.1 C.2.1 C.2.2.1 C.2.2.2.2.2.2.1 dL_law_1487 T hT X
    exact ⟨t, a1, fun _ => z⟩
  · exact fun T hT X => ⟨_, Steps.refl _, fun z => absurd z hg⟩
/-- what holds at the law's entry: the machine, the code, the tables' words, the script of L ints xs at the cell b, what the Statement gives of the start, the method's name -/
def lw_At (p : Program) (s : State) (m : MethodId) (meth : Method) (c : Code) (b L : Nat) (xs : Nat → Int32) : Prop :=
  p.tables.exec = Jvm.exec ∧ c.code = code ∧ meth.sig.returnType = ret ∧ c.maxLocals = 4 ∧ s.vm.findClass R_law = some m.cls ∧ (∀ w ∈ lw_tbl, w.before #[Value.ref b] s = true) ∧ va_X b L xs s s.heap ∧ b < s.heap.size ∧ meth.locks = false ∧ (Jvm.Cond.and given_1 narrow_1).before #[Value.ref b] s = true ∧ meth.name = x.name
/-- from the entry, for every script of at most 3072 ints, the law comes to its end with true -/
theorem whole_start {p : Program} {e : Env} {s : State} {m : MethodId} {below : List Frame} {meth : Method} {c : Code} (l : Launch) {b L : Nat} {xs : Nat → Int32} (hL : L ≤ 3072) (C0 : lw_At p s m meth c b L xs) : W p l e room_1 s m #[Value.ref b] below meth c s.heap [] 0 0 (lw_Z below #[Value.ref b] s) (entryFrame m ([Value.ref b] : List Value).toArray 4) := by
  obtain ⟨hx, hb, hr, hml, hown, hts, hX, hbl, hlocks, hgv, hnm⟩ := C0
  obtain ⟨g, e1, e2, hK⟩ := KX_start hts hX hbl hgv
  have hw := law_start (sc := (L, fun j => (xs j.toNat).toInt)) (Z := ZE) (by show (L : Int) ≤ 3072; omega) (fun j => i32_of _) (fun L' μ => law_end L' μ)
  have hv : [((4, 0) : AV)].map (val g) = [Value.ref b] := by
    show [Value.ref g.2.2.2.2.2.1] = _
    rw [e2]
  have hV := LV_entry (g := g) (n := 4) (as := [(4, 0)]) (Nat.le_of_ble_eq_true rfl) (fun v h => by
    rcases List.mem_cons.mp h with rfl | h
    · exact trivial
    · cases h)
  rw [hv] at hV
  rw [lg_entry_eq]
  intro T hT X
  obtain ⟨t, a1, z⟩ := hw g p l e s m #[Value.ref b] below meth c s.heap [] _ ⟨hx, hb, hr, hml, hown, fun w hw => hts w (UW_tbl w hw), hlocks, hnm⟩ hK (Nat.le_of_eq e1) ⟨by rw [e1]; rfl, fun k q h => by simp at h⟩ va_S.rf hV (fun v h => by cases h) T hT X
  exact ⟨t, a1, z e1⟩

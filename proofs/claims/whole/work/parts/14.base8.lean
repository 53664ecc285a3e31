/-! BASE 8: the judgement of the calls' time (no object is made), calls by what they answer -/
abbrev WQ (md : MD) (d : Nat) (sc : SC) (Z : ZT) (pc : Nat) (L st : List AV) (μ : Mem) : Prop := WP md (RM d 0 0) Z (TT sc) 0 0 pc L st μ
def ZI (sc : SC) (Q : Int → Mem → Prop) : ZT := ZM (fo0, sc) 0 0 (fun r K' μ' => K' = K0 ∧ ∃ x, r = some (0, x) ∧ Q x μ')
def ZL (sc : SC) (Q : Int → Mem → Prop) : ZT := ZM (fo0, sc) 0 0 (fun r K' μ' => K' = K0 ∧ ∃ x, r = some (1, x) ∧ Q x μ')
def ZV (sc : SC) (Q : Mem → Prop) : ZT := ZM (fo0, sc) 0 0 (fun r K' μ' => K' = K0 ∧ r = none ∧ Q μ')
def CTi (md : MD) (d : Nat) (sc : SC) (as : List AV) (μ : Mem) (Q : Int → Mem → Prop) : Prop := CT md d 0 0 (TT sc) as μ (fun r K' μ' => K' = K0 ∧ ∃ x, r = some (0, x) ∧ Q x μ')
def CTl (md : MD) (d : Nat) (sc : SC) (as : List AV) (μ : Mem) (Q : Int → Mem → Prop) : Prop := CT md d 0 0 (TT sc) as μ (fun r K' μ' => K' = K0 ∧ ∃ x, r = some (1, x) ∧ Q x μ')
def CTv (md : MD) (d : Nat) (sc : SC) (as : List AV) (μ : Mem) (Q : Mem → Prop) : Prop := CT md d 0 0 (TT sc) as μ (fun r K' μ' => K' = K0 ∧ r = none ∧ Q μ')
/-- a call, and what must hold behind it -/
def CAi (md : MD) (d : Nat) (sc : SC) (as : List AV) (μ : Mem) (P : Int → Mem → Prop) : Prop := ∃ (d' : Nat) (Q : Int → Mem → Prop), d' + 1 ≤ d ∧ CTi md d' sc as μ Q ∧ ∀ x μ', Q x μ' → i32 x → P x μ'
def CAl (md : MD) (d : Nat) (sc : SC) (as : List AV) (μ : Mem) (P : Int → Mem → Prop) : Prop := ∃ (d' : Nat) (Q : Int → Mem → Prop), d' + 1 ≤ d ∧ CTl md d' sc as μ Q ∧ ∀ x μ', Q x μ' → P x μ'
def CAv (md : MD) (d : Nat) (sc : SC) (as : List AV) (μ : Mem) (P : Mem → Prop) : Prop := ∃ (d' : Nat) (Q : Mem → Prop), d' + 1 ≤ d ∧ CTv md d' sc as μ Q ∧ ∀ μ', Q μ' → P μ'
section WQR
variable {md : MD} {d : Nat} {sc : SC} {Z : ZT} {pc : Nat} {L L' st st' : List AV} {μ : Mem}
theorem CTi_of {as : List AV} {Q : Int → Mem → Prop} (hp : plainName md.1.cls = true) (hn : (entA as).length ≤ md.2.2.1) (h : WQ md d sc (ZI sc Q) 0 (entL md.2.2.1 as) [] μ) : CTi md d sc as μ Q := CT_of hp hn h
theorem CTl_of {as : List AV} {Q : Int → Mem → Prop} (hp : plainName md.1.cls = true) (hn : (entA as).length ≤ md.2.2.1) (h : WQ md d sc (ZL sc Q) 0 (entL md.2.2.1 as) [] μ) : CTl md d sc as μ Q := CT_of hp hn h
theorem CTv_of {as : List AV} {Q : Mem → Prop} (hp : plainName md.1.cls = true) (hn : (entA as).length ≤ md.2.2.1) (h : WQ md d sc (ZV sc Q) 0 (entL md.2.2.1 as) [] μ) : CTv md d sc as μ Q := CT_of hp hn h
theorem WQ_i32 {x : Int} (k : i32 x → WQ md d sc Z pc L ((0, x) :: st) μ) : WQ md d sc Z pc L ((0, x) :: st) μ :=
  fun g p l e s m args below meth c H locs ls C K h0 Rp S V G => k (g1 G) g p l e s m args below meth c H locs ls C K h0 Rp S V G
theorem roomOK {d d' : Nat} (h : d' + 1 ≤ d) : d' + 1 ≤ (RM d 0 0).frames ∧ 64 * (d' + 1) ≤ (RM d 0 0).locals := ⟨h, by simp only [RM]; omega⟩
theorem cellsOK {d : Nat} : 0 + 0 ≤ (RM d 0 0).cells ∧ 0 + 0 ≤ (RM d 0 0).slots := ⟨Nat.le_refl _, Nat.le_refl _⟩
theorem WQ_invVi {idx : Nat} {md' : MD} {v : AV} {as stk : List AV} {P : Int → Mem → Prop} (hd : decode md.2.1 pc = .ok (.invokevirtual idx, 3)) (hl : Cond.methodLink md.1.cls idx md'.1 ∈ UW) (hM : MW md') (hi : Cond.instanceMethod md'.1 ∈ UW) (hs : Cond.selects md'.1.cls md'.1 md'.1 ∈ UW) (hok : MOK md' as.length) (hv : RCV (TT sc) md'.1.cls v) (hst : stc st ≤ 8) (h : CAi md' d sc (v :: as) μ P) (hk : stk = (as.reverse ++ v :: st)) (k : ∀ x μ', P x μ' → WQ md d sc Z (pc + 3) L ((0, x) :: st) μ') : WQ md d sc Z pc L stk μ := by
  subst hk
  obtain ⟨d', Q, hd', hc, hk⟩ := h
  refine WP_invV (md := md) (d' := d') (mc := 0) (ms := 0) hd hl hM hi hs hok hv (roomOK hd') hst cellsOK hc (fun r K' μ' hq => ?_)
  obtain ⟨rfl, x, rfl, hq⟩ := hq
  exact WQ_i32 (fun hx => k x μ' (hk x μ' hq hx))
theorem WQ_invVl {idx : Nat} {md' : MD} {v : AV} {as stk : List AV} {P : Int → Mem → Prop} (hd : decode md.2.1 pc = .ok (.invokevirtual idx, 3)) (hl : Cond.methodLink md.1.cls idx md'.1 ∈ UW) (hM : MW md') (hi : Cond.instanceMethod md'.1 ∈ UW) (hs : Cond.selects md'.1.cls md'.1 md'.1 ∈ UW) (hok : MOK md' as.length) (hv : RCV (TT sc) md'.1.cls v) (hst : stc st ≤ 8) (h : CAl md' d sc (v :: as) μ P) (hk : stk = (as.reverse ++ v :: st)) (k : ∀ x μ', P x μ' → WQ md d sc Z (pc + 3) L ((1, x) :: st) μ') : WQ md d sc Z pc L stk μ := by
  subst hk
  obtain ⟨d', Q, hd', hc, hk⟩ := h
  refine WP_invV (md := md) (d' := d') (mc := 0) (ms := 0) hd hl hM hi hs hok hv (roomOK hd') hst cellsOK hc (fun r K' μ' hq => ?_)
  obtain ⟨rfl, x, rfl, hq⟩ := hq
  exact k x μ' (hk x μ' hq)
theorem WQ_invVv {idx : Nat} {md' : MD} {v : AV} {as stk : List AV} {P : Mem → Prop} (hd : decode md.2.1 pc = .ok (.invokevirtual idx, 3)) (hl : Cond.methodLink md.1.cls idx md'.1 ∈ UW) (hM : MW md') (hi : Cond.instanceMethod md'.1 ∈ UW) (hs : Cond.selects md'.1.cls md'.1 md'.1 ∈ UW) (hok : MOK md' as.length) (hv : RCV (TT sc) md'.1.cls v) (hst : stc st ≤ 8) (h : CAv md' d sc (v :: as) μ P) (hk : stk = (as.reverse ++ v :: st)) (k : ∀ μ', P μ' → WQ md d sc Z (pc + 3) L st μ') : WQ md d sc Z pc L stk μ := by
  subst hk
  obtain ⟨d', Q, hd', hc, hk⟩ := h
  refine WP_invV (md := md) (d' := d') (mc := 0) (ms := 0) hd hl hM hi hs hok hv (roomOK hd') hst cellsOK hc (fun r K' μ' hq => ?_)
  obtain ⟨rfl, rfl, hq⟩ := hq
  exact k μ' (hk μ' hq)
theorem WQ_invSi {idx : Nat} {md' : MD} {as stk : List AV} {P : Int → Mem → Prop} (hd : decode md.2.1 pc = .ok (.invokestatic idx, 3)) (hl : Cond.methodLink md.1.cls idx md'.1 ∈ UW) (hM : MW md') (hi : Cond.static md'.1 ∈ UW) (hok : MOK md' as.length) (hst : stc st ≤ 8) (h : CAi md' d sc as μ P) (hk : stk = (as.reverse ++ st)) (k : ∀ x μ', P x μ' → WQ md d sc Z (pc + 3) L ((0, x) :: st) μ') : WQ md d sc Z pc L stk μ := by
  subst hk
  obtain ⟨d', Q, hd', hc, hk⟩ := h
  refine WP_invS (md := md) (d' := d') (mc := 0) (ms := 0) hd hl hM hi hok (roomOK hd') hst cellsOK hc (fun r K' μ' hq => ?_)
  obtain ⟨rfl, x, rfl, hq⟩ := hq
  exact WQ_i32 (fun hx => k x μ' (hk x μ' hq hx))
theorem WQ_invSl {idx : Nat} {md' : MD} {as stk : List AV} {P : Int → Mem → Prop} (hd : decode md.2.1 pc = .ok (.invokestatic idx, 3)) (hl : Cond.methodLink md.1.cls idx md'.1 ∈ UW) (hM : MW md') (hi : Cond.static md'.1 ∈ UW) (hok : MOK md' as.length) (hst : stc st ≤ 8) (h : CAl md' d sc as μ P) (hk : stk = (as.reverse ++ st)) (k : ∀ x μ', P x μ' → WQ md d sc Z (pc + 3) L ((1, x) :: st) μ') : WQ md d sc Z pc L stk μ := by
  subst hk
  obtain ⟨d', Q, hd', hc, hk⟩ := h
  refine WP_invS (md := md) (d' := d') (mc := 0) (ms := 0) hd hl hM hi hok (roomOK hd') hst cellsOK hc (fun r K' μ' hq => ?_)
  obtain ⟨rfl, x, rfl, hq⟩ := hq
  exact k x μ' (hk x μ' hq)
theorem WQ_invSv {idx : Nat} {md' : MD} {as stk : List AV} {P : Mem → Prop} (hd : decode md.2.1 pc = .ok (.invokestatic idx, 3)) (hl : Cond.methodLink md.1.cls idx md'.1 ∈ UW) (hM : MW md') (hi : Cond.static md'.1 ∈ UW) (hok : MOK md' as.length) (hst : stc st ≤ 8) (h : CAv md' d sc as μ P) (hk : stk = (as.reverse ++ st)) (k : ∀ μ', P μ' → WQ md d sc Z (pc + 3) L st μ') : WQ md d sc Z pc L stk μ := by
  subst hk
  obtain ⟨d', Q, hd', hc, hk⟩ := h
  refine WP_invS (md := md) (d' := d') (mc := 0) (ms := 0) hd hl hM hi hok (roomOK hd') hst cellsOK hc (fun r K' μ' hq => ?_)
  obtain ⟨rfl, rfl, hq⟩ := hq
  exact k μ' (hk μ' hq)
/-! returns -/
theorem WQ_ireturn {x : Int} {Q : Int → Mem → Prop} (hd : decode md.2.1 pc = .ok (.ireturn, 1)) (hr : md.2.2.2 = some .int) (h : Q x μ) : WQ md d sc (ZI sc Q) pc L [(0, x)] μ := WP_ireturn hd hr ⟨rfl, x, rfl, h⟩
theorem WQ_zreturn {x : Int} {Q : Int → Mem → Prop} (hd : decode md.2.1 pc = .ok (.ireturn, 1)) (hr : md.2.2.2 = some .boolean) (hx : 0 ≤ x ∧ x ≤ 1) (h : Q x μ) : WQ md d sc (ZI sc Q) pc L [(0, x)] μ := WP_zreturn hd hr hx ⟨rfl, x, rfl, h⟩
theorem WQ_breturn {x : Int} {Q : Int → Mem → Prop} (hd : decode md.2.1 pc = .ok (.ireturn, 1)) (hr : md.2.2.2 = some .byte) (hx : 0 ≤ x ∧ x ≤ 1) (h : Q x μ) : WQ md d sc (ZI sc Q) pc L [(0, x)] μ :=
  WP_creturn hd hr (by have hx2 : x = 0 ∨ x = 1 := by omega
                       rcases hx2 with rfl | rfl <;> rfl) ⟨rfl, x, rfl, h⟩
theorem narrow_c {x : Int} (hx : 0 ≤ x ∧ x < 65536) : narrow .char (.int (Int32.ofInt x)) = .int (Int32.ofInt x) := by
  have hz : (Int32.ofInt x).toUInt32.toNat = x.toNat := by
    show (BitVec.ofInt 32 x).toNat = _
    rw [BitVec.toNat_ofInt]
    have : x % (2 ^ 32 : Nat) = x := Int.emod_eq_of_lt hx.1 (by have := hx.2; omega)
    rw [this]
  have h : (Int32.ofInt x).toUInt32.toUInt16.toUInt32 = (Int32.ofInt x).toUInt32 := by
    apply UInt32.toNat_inj.mp
    rw [UInt16.toNat_toUInt32, UInt32.toNat_toUInt16, hz]
    exact Nat.mod_eq_of_lt (by omega)
  have e : narrow .char (.int (Int32.ofInt x)) = .int (vp_nar .char (Int32.ofInt x)) := rfl
  rw [e, vp_nar_char, h]
  rfl
theorem WQ_creturn {x : Int} {Q : Int → Mem → Prop} (hd : decode md.2.1 pc = .ok (.ireturn, 1)) (hr : md.2.2.2 = some .char) (hx : 0 ≤ x ∧ x < 65536) (h : Q x μ) : WQ md d sc (ZI sc Q) pc L [(0, x)] μ := WP_creturn hd hr (narrow_c hx) ⟨rfl, x, rfl, h⟩
theorem WQ_lreturn {x : Int} {Q : Int → Mem → Prop} (hd : decode md.2.1 pc = .ok (.lreturn, 1)) (hr : md.2.2.2 = some .long) (h : Q x μ) : WQ md d sc (ZL sc Q) pc L [(1, x)] μ := WP_lreturn hd hr ⟨rfl, x, rfl, h⟩
theorem WQ_return {Q : Mem → Prop} (hd : decode md.2.1 pc = .ok (.return_, 1)) (hr : md.2.2.2 = none) (h : Q μ) : WQ md d sc (ZV sc Q) pc L [] μ := WP_return hd hr ⟨rfl, rfl, h⟩
/-! branches, in the words of what holds -/
theorem WQ_icmp_eq {x y off : Int} {tgt : Nat} (hd : decode md.2.1 pc = .ok (.if_icmp .eq off, 3)) (ht : (pc : Int) + off = (tgt : Int)) (kt : x = y → WQ md d sc Z tgt L st μ) (kf : x ≠ y → WQ md d sc Z (pc + 3) L st μ) : WQ md d sc Z pc L ((0, y) :: (0, x) :: st) μ := WP_icmp_eq hd ht kt (fun q => kf (by first | exact q | exact Decidable.of_not_not q | omega))
theorem WQ_icmp_ne {x y off : Int} {tgt : Nat} (hd : decode md.2.1 pc = .ok (.if_icmp .ne off, 3)) (ht : (pc : Int) + off = (tgt : Int)) (kt : x ≠ y → WQ md d sc Z tgt L st μ) (kf : x = y → WQ md d sc Z (pc + 3) L st μ) : WQ md d sc Z pc L ((0, y) :: (0, x) :: st) μ := WP_icmp_ne hd ht kt (fun q => kf (by first | exact q | exact Decidable.of_not_not q | omega))
theorem WQ_icmp_lt {x y off : Int} {tgt : Nat} (hd : decode md.2.1 pc = .ok (.if_icmp .lt off, 3)) (ht : (pc : Int) + off = (tgt : Int)) (kt : x < y → WQ md d sc Z tgt L st μ) (kf : y ≤ x → WQ md d sc Z (pc + 3) L st μ) : WQ md d sc Z pc L ((0, y) :: (0, x) :: st) μ := WP_icmp_lt hd ht kt (fun q => kf (by first | exact q | exact Decidable.of_not_not q | omega))
theorem WQ_icmp_ge {x y off : Int} {tgt : Nat} (hd : decode md.2.1 pc = .ok (.if_icmp .ge off, 3)) (ht : (pc : Int) + off = (tgt : Int)) (kt : y ≤ x → WQ md d sc Z tgt L st μ) (kf : x < y → WQ md d sc Z (pc + 3) L st μ) : WQ md d sc Z pc L ((0, y) :: (0, x) :: st) μ := WP_icmp_ge hd ht kt (fun q => kf (by first | exact q | exact Decidable.of_not_not q | omega))
theorem WQ_icmp_gt {x y off : Int} {tgt : Nat} (hd : decode md.2.1 pc = .ok (.if_icmp .gt off, 3)) (ht : (pc : Int) + off = (tgt : Int)) (kt : y < x → WQ md d sc Z tgt L st μ) (kf : x ≤ y → WQ md d sc Z (pc + 3) L st μ) : WQ md d sc Z pc L ((0, y) :: (0, x) :: st) μ := WP_icmp_gt hd ht kt (fun q => kf (by first | exact q | exact Decidable.of_not_not q | omega))
theorem WQ_icmp_le {x y off : Int} {tgt : Nat} (hd : decode md.2.1 pc = .ok (.if_icmp .le off, 3)) (ht : (pc : Int) + off = (tgt : Int)) (kt : x ≤ y → WQ md d sc Z tgt L st μ) (kf : y < x → WQ md d sc Z (pc + 3) L st μ) : WQ md d sc Z pc L ((0, y) :: (0, x) :: st) μ := WP_icmp_le hd ht kt (fun q => kf (by first | exact q | exact Decidable.of_not_not q | omega))
theorem WQ_ifeq {x off : Int} {tgt : Nat} (hd : decode md.2.1 pc = .ok (.ifCond .eq off, 3)) (ht : (pc : Int) + off = (tgt : Int)) (kt : x = 0 → WQ md d sc Z tgt L st μ) (kf : x ≠ 0 → WQ md d sc Z (pc + 3) L st μ) : WQ md d sc Z pc L ((0, x) :: st) μ := WP_ifeq hd ht kt (fun q => kf (by first | exact q | exact Decidable.of_not_not q | omega))
theorem WQ_ifne {x off : Int} {tgt : Nat} (hd : decode md.2.1 pc = .ok (.ifCond .ne off, 3)) (ht : (pc : Int) + off = (tgt : Int)) (kt : x ≠ 0 → WQ md d sc Z tgt L st μ) (kf : x = 0 → WQ md d sc Z (pc + 3) L st μ) : WQ md d sc Z pc L ((0, x) :: st) μ := WP_ifne hd ht kt (fun q => kf (by first | exact q | exact Decidable.of_not_not q | omega))
theorem WQ_iflt {x off : Int} {tgt : Nat} (hd : decode md.2.1 pc = .ok (.ifCond .lt off, 3)) (ht : (pc : Int) + off = (tgt : Int)) (kt : x < 0 → WQ md d sc Z tgt L st μ) (kf : 0 ≤ x → WQ md d sc Z (pc + 3) L st μ) : WQ md d sc Z pc L ((0, x) :: st) μ := WP_iflt hd ht kt (fun q => kf (by first | exact q | exact Decidable.of_not_not q | omega))
theorem WQ_ifge {x off : Int} {tgt : Nat} (hd : decode md.2.1 pc = .ok (.ifCond .ge off, 3)) (ht : (pc : Int) + off = (tgt : Int)) (kt : 0 ≤ x → WQ md d sc Z tgt L st μ) (kf : x < 0 → WQ md d sc Z (pc + 3) L st μ) : WQ md d sc Z pc L ((0, x) :: st) μ := WP_ifge hd ht kt (fun q => kf (by first | exact q | exact Decidable.of_not_not q | omega))
theorem WQ_ifgt {x off : Int} {tgt : Nat} (hd : decode md.2.1 pc = .ok (.ifCond .gt off, 3)) (ht : (pc : Int) + off = (tgt : Int)) (kt : 0 < x → WQ md d sc Z tgt L st μ) (kf : x ≤ 0 → WQ md d sc Z (pc + 3) L st μ) : WQ md d sc Z pc L ((0, x) :: st) μ := WP_ifgt hd ht kt (fun q => kf (by first | exact q | exact Decidable.of_not_not q | omega))
theorem WQ_ifle {x off : Int} {tgt : Nat} (hd : decode md.2.1 pc = .ok (.ifCond .le off, 3)) (ht : (pc : Int) + off = (tgt : Int)) (kt : x ≤ 0 → WQ md d sc Z tgt L st μ) (kf : 0 < x → WQ md d sc Z (pc + 3) L st μ) : WQ md d sc Z pc L ((0, x) :: st) μ := WP_ifle hd ht kt (fun q => kf (by first | exact q | exact Decidable.of_not_not q | omega))
theorem lc_eq {x y : Int} : lCmp x y = 0 ↔ x = y := by unfold lCmp; split <;> (try split) <;> omega
theorem WQ_lifeq {x y off : Int} {tgt : Nat} (hd : decode md.2.1 pc = .ok (.lcmp, 1)) (hd2 : decode md.2.1 (pc + 1) = .ok (.ifCond .eq off, 3)) (ht : (pc : Int) + 1 + off = (tgt : Int)) (kt : x = y → WQ md d sc Z tgt L st μ) (kf : x ≠ y → WQ md d sc Z (pc + 4) L st μ) : WQ md d sc Z pc L ((1, y) :: (1, x) :: st) μ :=
  WP_lcmp hd (WP_ifeq hd2 (by omega) (fun q => kt (lc_eq.mp q)) (fun q => kf (by have q2 : ¬ (x = y) := fun z => q (lc_eq.mpr z); omega)))
theorem lc_ne {x y : Int} : lCmp x y ≠ 0 ↔ x ≠ y := by unfold lCmp; split <;> (try split) <;> omega
theorem WQ_lifne {x y off : Int} {tgt : Nat} (hd : decode md.2.1 pc = .ok (.lcmp, 1)) (hd2 : decode md.2.1 (pc + 1) = .ok (.ifCond .ne off, 3)) (ht : (pc : Int) + 1 + off = (tgt : Int)) (kt : x ≠ y → WQ md d sc Z tgt L st μ) (kf : x = y → WQ md d sc Z (pc + 4) L st μ) : WQ md d sc Z pc L ((1, y) :: (1, x) :: st) μ :=
  WP_lcmp hd (WP_ifne hd2 (by omega) (fun q => kt (lc_ne.mp q)) (fun q => kf (by have q2 : ¬ (x ≠ y) := fun z => q (lc_ne.mpr z); omega)))
theorem lc_lt {x y : Int} : lCmp x y < 0 ↔ x < y := by unfold lCmp; split <;> (try split) <;> omega
theorem WQ_liflt {x y off : Int} {tgt : Nat} (hd : decode md.2.1 pc = .ok (.lcmp, 1)) (hd2 : decode md.2.1 (pc + 1) = .ok (.ifCond .lt off, 3)) (ht : (pc : Int) + 1 + off = (tgt : Int)) (kt : x < y → WQ md d sc Z tgt L st μ) (kf : y ≤ x → WQ md d sc Z (pc + 4) L st μ) : WQ md d sc Z pc L ((1, y) :: (1, x) :: st) μ :=
  WP_lcmp hd (WP_iflt hd2 (by omega) (fun q => kt (lc_lt.mp q)) (fun q => kf (by have q2 : ¬ (x < y) := fun z => q (lc_lt.mpr z); omega)))
theorem lc_ge {x y : Int} : 0 ≤ lCmp x y ↔ y ≤ x := by unfold lCmp; split <;> (try split) <;> omega
theorem WQ_lifge {x y off : Int} {tgt : Nat} (hd : decode md.2.1 pc = .ok (.lcmp, 1)) (hd2 : decode md.2.1 (pc + 1) = .ok (.ifCond .ge off, 3)) (ht : (pc : Int) + 1 + off = (tgt : Int)) (kt : y ≤ x → WQ md d sc Z tgt L st μ) (kf : x < y → WQ md d sc Z (pc + 4) L st μ) : WQ md d sc Z pc L ((1, y) :: (1, x) :: st) μ :=
  WP_lcmp hd (WP_ifge hd2 (by omega) (fun q => kt (lc_ge.mp q)) (fun q => kf (by have q2 : ¬ (y ≤ x) := fun z => q (lc_ge.mpr z); omega)))
theorem lc_gt {x y : Int} : 0 < lCmp x y ↔ y < x := by unfold lCmp; split <;> (try split) <;> omega
theorem WQ_lifgt {x y off : Int} {tgt : Nat} (hd : decode md.2.1 pc = .ok (.lcmp, 1)) (hd2 : decode md.2.1 (pc + 1) = .ok (.ifCond .gt off, 3)) (ht : (pc : Int) + 1 + off = (tgt : Int)) (kt : y < x → WQ md d sc Z tgt L st μ) (kf : x ≤ y → WQ md d sc Z (pc + 4) L st μ) : WQ md d sc Z pc L ((1, y) :: (1, x) :: st) μ :=
  WP_lcmp hd (WP_ifgt hd2 (by omega) (fun q => kt (lc_gt.mp q)) (fun q => kf (by have q2 : ¬ (y < x) := fun z => q (lc_gt.mpr z); omega)))
theorem lc_le {x y : Int} : lCmp x y ≤ 0 ↔ x ≤ y := by unfold lCmp; split <;> (try split) <;> omega
theorem WQ_lifle {x y off : Int} {tgt : Nat} (hd : decode md.2.1 pc = .ok (.lcmp, 1)) (hd2 : decode md.2.1 (pc + 1) = .ok (.ifCond .le off, 3)) (ht : (pc : Int) + 1 + off = (tgt : Int)) (kt : x ≤ y → WQ md d sc Z tgt L st μ) (kf : y < x → WQ md d sc Z (pc + 4) L st μ) : WQ md d sc Z pc L ((1, y) :: (1, x) :: st) μ :=
  WP_lcmp hd (WP_ifle hd2 (by omega) (fun q => kt (lc_le.mp q)) (fun q => kf (by have q2 : ¬ (x ≤ y) := fun z => q (lc_le.mpr z); omega)))
/-! Math -/
theorem mmax32 {x y : Int} (hx : i32 x) (hy : i32 y) : (if Int32.ofInt x < Int32.ofInt y then Int32.ofInt y else Int32.ofInt x) = Int32.ofInt (max x y) := by
  by_cases h : x < y
  · rw [if_pos ((lt32 hx hy).mpr h), Int.max_eq_right (by omega)]
  · rw [if_neg (fun z => h ((lt32 hx hy).mp z)), Int.max_eq_left (by omega)]
theorem mmin32 {x y : Int} (hx : i32 x) (hy : i32 y) : (if Int32.ofInt y < Int32.ofInt x then Int32.ofInt y else Int32.ofInt x) = Int32.ofInt (min x y) := by
  by_cases h : y < x
  · rw [if_pos ((lt32 hy hx).mpr h), Int.min_eq_right (by omega)]
  · rw [if_neg (fun z => h ((lt32 hy hx).mp z)), Int.min_eq_left (by omega)]
theorem mmax64 {x y : Int} (hx : i64 x) (hy : i64 y) : (if Int64.ofInt y < Int64.ofInt x then Int64.ofInt x else Int64.ofInt y) = Int64.ofInt (max x y) := by
  by_cases h : y < x
  · rw [if_pos ((lt64 hy hx).mpr h), Int.max_eq_left (by omega)]
  · rw [if_neg (fun z => h ((lt64 hy hx).mp z)), Int.max_eq_right (by omega)]
theorem mmin64 {x y : Int} (hx : i64 x) (hy : i64 y) : (if Int64.ofInt y < Int64.ofInt x then Int64.ofInt y else Int64.ofInt x) = Int64.ofInt (min x y) := by
  by_cases h : y < x
  · rw [if_pos ((lt64 hy hx).mpr h), Int.min_eq_right (by omega)]
  · rw [if_neg (fun z => h ((lt64 hy hx).mp z)), Int.min_eq_left (by omega)]
theorem WQ_mmax {idx : Nat} {x y : Int} (hd1 : 1 ≤ d) (hd : decode md.2.1 pc = .ok (.invokestatic idx, 3)) (hl : Cond.methodLink md.1.cls idx Lib.Math.max.name ∈ UW) (hst : stc st ≤ 8) (k : WQ md d sc Z (pc + 3) L ((0, max x y) :: st) μ) : WQ md d sc Z pc L ((0, y) :: (0, x) :: st) μ := by
  intro g p l e s m args below meth c H locs ls C K h0 Rp S V G
  have hts := C.2.2.2.2.2.1
  have hx : good (0, x) := g1 (g2 G)
  have hy : good (0, y) := g1 G
  refine va_mmax C.1 C.2.1 (by rw [V.2.1]; exact C.2.2.2.1) C.2.2.2.2.1 (hts _ hl) (hts _ lms_max) (hts _ lm_init) (hts _ lm_max) hd1 (by rw [stc_eq]; simp only [RM]; omega) (Nat.le_refl _) (Nat.le_refl _) hd ?_
  rw [mmax32 hx hy]
  refine k g p l e s m args below meth c H locs ls C K h0 Rp S V (gc ?_ (g2 (g2 G)))
  show good (0, max x y)
  rcases (show max x y = x ∨ max x y = y by omega) with q | q <;> rw [q] <;> assumption
theorem WQ_mmin {idx : Nat} {x y : Int} (hd1 : 1 ≤ d) (hd : decode md.2.1 pc = .ok (.invokestatic idx, 3)) (hl : Cond.methodLink md.1.cls idx Lib.Math.min.name ∈ UW) (hst : stc st ≤ 8) (k : WQ md d sc Z (pc + 3) L ((0, min x y) :: st) μ) : WQ md d sc Z pc L ((0, y) :: (0, x) :: st) μ := by
  intro g p l e s m args below meth c H locs ls C K h0 Rp S V G
  have hts := C.2.2.2.2.2.1
  have hx : good (0, x) := g1 (g2 G)
  have hy : good (0, y) := g1 G
  refine va_mmin C.1 C.2.1 (by rw [V.2.1]; exact C.2.2.2.1) C.2.2.2.2.1 (hts _ hl) (hts _ lms_min) (hts _ lm_init) (hts _ lm_min) hd1 (by rw [stc_eq]; simp only [RM]; omega) (Nat.le_refl _) (Nat.le_refl _) hd ?_
  rw [mmin32 hx hy]
  refine k g p l e s m args below meth c H locs ls C K h0 Rp S V (gc ?_ (g2 (g2 G)))
  show good (0, min x y)
  rcases (show min x y = x ∨ min x y = y by omega) with q | q <;> rw [q] <;> assumption
theorem WQ_mmaxL {idx : Nat} {x y : Int} (hd1 : 1 ≤ d) (hd : decode md.2.1 pc = .ok (.invokestatic idx, 3)) (hl : Cond.methodLink md.1.cls idx Lib.MathLoose.max_long.x ∈ UW) (hst : stc st ≤ 8) (k : WQ md d sc Z (pc + 3) L ((1, max x y) :: st) μ) : WQ md d sc Z pc L ((1, y) :: (1, x) :: st) μ := by
  intro g p l e s m args below meth c H locs ls C K h0 Rp S V G
  have hts := C.2.2.2.2.2.1
  have hx : good (1, x) := g1 (g2 G)
  have hy : good (1, y) := g1 G
  refine va_mmax_long C.1 C.2.1 (by rw [V.2.1]; exact C.2.2.2.1) C.2.2.2.2.1 (hts _ hl) (hts _ lms_maxL) (hts _ lm_init) (hts _ lm_maxL) hd1 (by rw [stc_eq]; simp only [RM]; omega) (Nat.le_refl _) (Nat.le_refl _) hd ?_
  rw [mmax64 hx hy]
  refine k g p l e s m args below meth c H locs ls C K h0 Rp S V (gc ?_ (g2 (g2 G)))
  show good (1, max x y)
  rcases (show max x y = x ∨ max x y = y by omega) with q | q <;> rw [q] <;> assumption
theorem WQ_mminL {idx : Nat} {x y : Int} (hd1 : 1 ≤ d) (hd : decode md.2.1 pc = .ok (.invokestatic idx, 3)) (hl : Cond.methodLink md.1.cls idx Lib.MathLoose.min_long.x ∈ UW) (hst : stc st ≤ 8) (k : WQ md d sc Z (pc + 3) L ((1, min x y) :: st) μ) : WQ md d sc Z pc L ((1, y) :: (1, x) :: st) μ := by
  intro g p l e s m args below meth c H locs ls C K h0 Rp S V G
  have hts := C.2.2.2.2.2.1
  have hx : good (1, x) := g1 (g2 G)
  have hy : good (1, y) := g1 G
  refine va_mmin_long C.1 C.2.1 (by rw [V.2.1]; exact C.2.2.2.1) C.2.2.2.2.1 (hts _ hl) (hts _ lms_minL) (hts _ lm_init) (hts _ lm_minL) hd1 (by rw [stc_eq]; simp only [RM]; omega) (Nat.le_refl _) (Nat.le_refl _) hd ?_
  rw [mmin64 hx hy]
  refine k g p l e s m args below meth c H locs ls C K h0 Rp S V (gc ?_ (g2 (g2 G)))
  show good (1, min x y)
  rcases (show min x y = x ∨ min x y = y by omega) with q | q <;> rw [q] <;> assumption
def iabs (x : Int) : Int := if 0 ≤ x then x else -x
theorem WQ_mabs {idx : Nat} {x : Int} (hd1 : 1 ≤ d) (hd : decode md.2.1 pc = .ok (.invokestatic idx, 3)) (hl : Cond.methodLink md.1.cls idx Lib.Math.abs.name ∈ UW) (hst : stc st ≤ 8) (hx : -2147483648 < x) (k : WQ md d sc Z (pc + 3) L ((0, iabs x) :: st) μ) : WQ md d sc Z pc L ((0, x) :: st) μ := by
  intro g p l e s m args below meth c H locs ls C K h0 Rp S V G
  have hts := C.2.2.2.2.2.1
  have hx1 : i32 x := g1 G
  refine va_mabs C.1 C.2.1 (by rw [V.2.1]; exact C.2.2.2.1) C.2.2.2.2.1 (hts _ hl) (hts _ lms_abs) (hts _ lm_init) (hts _ lm_abs) hd1 (by rw [stc_eq]; simp only [RM]; omega) (Nat.le_refl _) (Nat.le_refl _) hd ?_
  have ea : (if 0 ≤ Int32.ofInt x then Int32.ofInt x else 0 - Int32.ofInt x) = Int32.ofInt (iabs x) := by
    unfold iabs
    have h0 : (0 : Int32) ≤ Int32.ofInt x ↔ 0 ≤ x := le32 (x := 0) (by decide) hx1
    by_cases h : 0 ≤ x
    · rw [if_pos (h0.mpr h), if_pos h]
    · rw [if_neg (fun z => h (h0.mp z)), if_neg h, Int32.ofInt_neg]
      simp
  rw [ea]
  refine k g p l e s m args below meth c H locs ls C K h0 Rp S V (gc ?_ (g2 G))
  show i32 (iabs x)
  unfold iabs
  split <;> constructor <;> omega
theorem WQ_copy {idx : Nat} {a0 a n : Int} {n0 n1 : Nat} (hd1 : 2 ≤ d) (hd : decode md.2.1 pc = .ok (.invokestatic idx, 3)) (hw : Cond.methodLink md.1.cls idx arraycopyName ∈ UW)
    (hk0 : kd0 a0 = some (0, n0)) (hk : kd0 a = some (0, n1)) (hn : 0 ≤ n ∧ n ≤ n0 ∧ n ≤ n1) (k : WQ md d sc Z (pc + 3) L [] (mcp μ a0 a n)) : WQ md d sc Z pc L [(0, n), (0, 0), (2, a), (0, 0), (2, a0)] μ :=
  WP_copy hd hw nc_native nc_static nc_init hk0 hk hn ⟨by simp only [RM]; omega, Nat.le_trans (show nativeFrameWords "java/lang/System" "arraycopy" 5 + 11 ≤ 128 by decide +kernel) (by simp only [RM]; omega)⟩ k
end WQR

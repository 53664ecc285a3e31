/-! THE CLASS'S DEEDS: what is kept -/
def setPL (A : StT) (P : PlanT) (L : List PlanT) : StT := (A.1, A.2.1, (aH A, P), L, A.2.2.2.2)
theorem RX.fresh {μ : Mem} {A : StT} (h : RXc μ A) (h1 : μ 0 9 = 0) (h2 : μ 117 0 = 0) (h3 : μ 120 0 = -1) : RX μ A := ⟨h, fun z => absurd h1 z, fun z => absurd h2 z, fun z => absurd h3 z⟩
theorem RXc.set {μ μ' : Mem} {A : StT} {P : PlanT} {L : List PlanT} (h : RXc μ A) (hf : ∀ b j, (b = 0 → j ≠ 9 ∧ j ≠ 19) → (b < 34 ∨ 96 ≤ b) → (b < μ 0 2 + 7 ∨ μ 0 2 + 12 < b) → (b < 97 ∨ 148 < b) → μ' b j = μ b j)
    (hX : XP μ' (μ 0 2 + 7) (hP (aH A)) P) (hL : PastR μ' (hP (aH A)) L) (hw : wfS (aH A) P) (hwL : ∀ P ∈ L, wfS (aH A) P) : RXc μ' (setPL A P L) := by
  have hn := h.now
  obtain ⟨h1, h2, h3, h4, h5, h6, h7, h8, h9, h10, h11⟩ := h
  have g : ∀ b j, (b = 0 ∧ (1 ≤ j ∧ j ≤ 3)) ∨ (1 ≤ b ∧ b < μ 0 2 + 7) ∧ b < 34 ∨ (μ 0 2 + 12 < b ∧ b < 34) ∨ b = 96 ∨ 148 < b → μ' b j = μ b j := fun b j z => hf b j (by omega) (by omega) (by omega) (by omega)
  have e2 : μ' 0 2 = μ 0 2 := g _ _ (by omega)
  refine ⟨by rw [e2, g 0 3 (by omega)]; exact h1, by rw [g 0 1 (by omega)]; exact h2, fun i i0 i1 => by rw [g 1 i (by omega)]; exact h3 i i0 i1, by rw [g _ _ (by omega)]; exact h4, by rw [g _ _ (by omega)]; exact h5, ?_, ?_, hL, ?_, ?_, ?_⟩
  · rw [e2]; exact h6.same (fun b j _ _ => g b j (by omega))
  · rw [e2]; exact hX
  · intro i i0 i1
    obtain ⟨q1, q2, q3⟩ := h9 i i0 i1
    exact ⟨by rw [g _ _ (by omega)]; exact q1, by rw [g _ _ (by omega)]; exact q2, fun z => ⟨(q3 z).1.same (fun b j _ _ => g b j (by omega)), (q3 z).2.same (fun b j _ _ => g b j (by omega))⟩⟩
  · intro i i0 i1
    obtain ⟨q1, q2⟩ := h10 i i0 i1
    exact ⟨by rw [g _ _ (by omega)]; exact q1, q2.same (fun b j _ _ => g b j (by omega))⟩
  · obtain ⟨w1, w2, w3, w4, w5, w6, w7⟩ := h11
    exact ⟨w1, w2, w3, w4, hw, hwL, w7⟩
def accS (A : StT) (P : PlanT) : StT := setPL A P (pushP (aPast A) (aP A))
theorem pushP_mem {L : List PlanT} {P Q : PlanT} (h : Q ∈ pushP L P) : Q ∈ L ∨ Q = P := by
  unfold pushP at h
  split at h
  · rw [List.mem_append, List.mem_singleton] at h; exact h
  · rw [List.mem_append, List.mem_singleton] at h
    rcases h with h | h
    · exact Or.inl (List.mem_of_mem_tail h)
    · exact Or.inr h
theorem ca_accept {d : Nat} {sc : SC} {μ : Mem} {A : StT} {P : PlanT} {R : Mem → Prop} (hd : 5 ≤ d) (h : RXc μ A) (hX : XP μ 121 (hP (aH A)) P) (hw : wfS (aH A) P) (k : ∀ μ', RX μ' (accS A P) → FX μ μ' → μ' 0 2 = μ 0 2 → R μ') : CAv mX9_acceptTrial d sc [(2, 0)] μ R := by
  have hn := h.now
  have h6 := h.wfh.2.2.1
  have hws := h.wfs
  refine byV (d' := 4) (by omega) (Q := fun μ' => RX μ' (accS A P) ∧ FX μ μ' ∧ μ' 0 2 = μ 0 2) ?_ (fun μ' q => k μ' q.1 q.2.1 q.2.2)
  refine CTv_of mp_X9_acceptTrial (Nat.le_of_ble_eq_true rfl) ?_
  refine s_X9_acceptTrial_0 ⟨hn.1, byV (d' := 3) (by omega) (ct_keep (Nat.le_refl _) h.past hn.2.1 (by omega) h.xp (by have := hws.2.2.1; omega) h6.2) ?_⟩
  rintro μ3 ⟨f3, P3⟩
  have e3 : μ3 0 2 = μ 0 2 := f3 _ _ (by omega)
  rw [e3]
  refine ⟨hn.1, byV (d' := 2) (by omega) (ct_copyPlan (Nat.le_refl _) hn.2.1 k_121 (by omega)) ?_⟩
  rintro μ6 ⟨f6, c6⟩
  have x6 := c6 _ _ (hX.same (fun b j _ _ => f3 b j (by omega)) : XP μ3 121 (hP (aH A)) P) (by have := hw.2.2.1; omega) h6.2
  refine byV (d' := 0) (by omega) ct_forgetA ?_
  rintro μ8 ⟨f8, k1, k2, k3⟩
  have fr : ∀ b j, (b = 0 → j ≠ 9) → (b < 34 ∨ 96 ≤ b) → (b < μ 0 2 + 7 ∨ μ 0 2 + 12 < b) → (b < 97 ∨ 148 < b) → μ8 b j = μ b j := fun b j q1 q2 q3 q4 => by rw [f8 b j q1 q4, f6 b j (by omega), f3 b j (by omega)]
  refine ⟨RX.fresh (h.set (fun b j q1 q2 q3 q4 => fr b j (fun z => (q1 z).1) q2 q3 q4) ?_ ?_ hw ?_) k1 k2 k3, fun b j q => fr b j (by omega) (by omega) (by omega) (by omega), fr _ _ (by omega) (by omega) (by omega) (by omega)⟩
  · exact x6.same (fun b j _ _ => f8 b j (by omega) (by omega))
  · exact (P3.same (fun b j _ _ => f6 b j (by omega))).same (fun b j _ _ => f8 b j (by omega) (by omega))
  · intro Q hQ
    rcases pushP_mem hQ with q | q
    · exact h.wf.2.2.2.2.2.1 Q q
    · rw [q]; exact hws
/-- the trial begins as the plan is -/
theorem ca_begin {d : Nat} {sc : SC} {μ : Mem} {A : StT} {R : Mem → Prop} (hd : 3 ≤ d) (h : RXc μ A) (k : ∀ μ', (∀ b j, b < 121 ∨ 126 < b → μ' b j = μ b j) → XP μ' 121 (hP (aH A)) (aP A) → R μ') : CAv mX6_copyFrom d sc [(2, 121), (2, μ 0 2 + 7)] μ R := by
  have hn := h.now
  refine byV (d' := 2) (by omega) (ct_copyPlan (Nat.le_refl _) k_121 hn.2.1 (by omega)) ?_
  rintro μ' ⟨f, c⟩
  exact k μ' f (c _ _ h.xp (by have := h.wfs.2.2.1; omega) h.wfh.2.2.1.2)
theorem ft_trial {μ μ' : Mem} (h : ∀ b j, b < 121 ∨ 126 < b → μ' b j = μ b j) : FT μ μ' := fun b j _ _ q => h b j (by omega)
theorem RX.tr121 {μ μ' : Mem} {A : StT} (h : RX μ A) (hf : ∀ b j, b < 121 ∨ 126 < b → μ' b j = μ b j) : RX μ' A := h.trial2 (fun b j _ q => hf b j (by omega))
def tellS (A : StT) (a b t : Int) : Int := if tellW (aH A) (aP A) a b t = 0 then pN (aP A) + 1 else -10 - tellW (aH A) (aP A) a b t
def tellA (A : StT) (a b t : Int) : StT := if tellW (aH A) (aP A) a b t = 0 then accS A (addN (aP A) a b t 10) else A
theorem tellW_b (H : HillT) (P : PlanT) (a b t : Int) : 0 ≤ tellW H P a b t ∧ tellW H P a b t ≤ 2 := by unfold tellW; split <;> (try split) <;> decide
theorem dropW_b (P : PlanT) (k : Int) : 0 ≤ dropW P k ∧ dropW P k ≤ 1 := by unfold dropW; split <;> decide
theorem moveW_b (H : HillT) (p c : Int) : 0 ≤ moveW H p c ∧ moveW H p c ≤ 1 := by unfold moveW; split <;> decide
theorem windW_b (n : Int) : 0 ≤ windW n ∧ windW n ≤ 1 := by unfold windW; split <;> decide
theorem cx_tell {d : Nat} {sc : SC} {μ : Mem} {A : StT} {a b t : Int} (hd : 5 ≤ d) (h : RX μ A) : CTi mX9_tell d sc [(2, 0), (0, a), (0, b), (0, t)] μ (AX μ (tellA A a b t) (fun x => x = tellS A a b t)) := by
  have hn := h.1.now
  have hws := h.1.wfs
  have hb := tellW_b (aH A) (aP A) a b t
  refine CTi_of mp_X9_tell (Nat.le_of_ble_eq_true rfl) ?_
  refine s_X9_tell_0 ⟨hn.1, ca_begin (by omega) h.1 ?_⟩
  intro μ3 f3 x3
  have h3 := h.tr121 f3
  refine byI (d' := 1) (by omega) (ct_tellIn (Nat.le_refl _) h3.1 x3 hws.2.1.1.1) ?_
  rintro w μ5 ⟨rfl, f5, x5⟩
  have h5 := h3.tr121 f5
  have F5 : FX μ μ5 := fun b j q => by rw [f5 b j (by omega), f3 b j (by omega)]
  refine ⟨fun z => ?_, fun z => ⟨by omega, ?_, ?_, F5⟩⟩
  · rw [if_pos z] at x5
    refine ca_accept hd h5.1 x5 (hws.add z) ?_
    intro μ8 r8 f8 _
    refine ⟨r8.1.now.1, ?_, ?_, F5.tr f8⟩
    · show _ = _
      unfold tellS; rw [if_pos z]; exact r8.1.xp.1
    · unfold tellA; rw [if_pos z]; exact r8
  · show _ = _
    unfold tellS; rw [if_neg z]
  · unfold tellA; rw [if_neg z]; exact h5
def dropS (A : StT) (k : Int) : Int := if dropW (aP A) k = 0 then pN (aP A) - 1 else -11
def dropA (A : StT) (k : Int) : StT := if dropW (aP A) k = 0 then accS A (dropN (aP A) k) else A
theorem cx_drop {d : Nat} {sc : SC} {μ : Mem} {A : StT} {k : Int} (hd : 5 ≤ d) (h : RX μ A) : CTi mX9_drop d sc [(2, 0), (0, k)] μ (AX μ (dropA A k) (fun x => x = dropS A k)) := by
  have hn := h.1.now
  have hws := h.1.wfs
  have hb := dropW_b (aP A) k
  refine CTi_of mp_X9_drop (Nat.le_of_ble_eq_true rfl) ?_
  refine s_X9_drop_0 ⟨hn.1, ca_begin (by omega) h.1 ?_⟩
  intro μ3 f3 x3
  have h3 := h.tr121 f3
  refine byI (d' := 1) (by omega) (ct_dropIn (Nat.le_refl _) x3 (by have := hws.2.2.1; omega)) ?_
  rintro w μ5 ⟨rfl, f5, x5⟩
  have h5 := h3.tr121 f5
  have F5 : FX μ μ5 := fun b j q => by rw [f5 b j (by omega), f3 b j (by omega)]
  refine ⟨fun z => ?_, fun z => ⟨by omega, ?_, ?_, F5⟩⟩
  · rw [if_pos z] at x5
    refine ca_accept hd h5.1 x5 (hws.drop z) ?_
    intro μ8 r8 f8 _
    refine ⟨r8.1.now.1, ?_, ?_, F5.tr f8⟩
    · show _ = _
      unfold dropS; rw [if_pos z]; exact r8.1.xp.1
    · unfold dropA; rw [if_pos z]; exact r8
  · show _ = _
    unfold dropS; rw [if_neg z]; omega
  · unfold dropA; rw [if_neg z]; exact h5
def moveS (A : StT) (p c : Int) : Int := if moveW (aH A) p c = 0 then pCell (aP A) p else -11
def moveA (A : StT) (p c : Int) : StT := if moveW (aH A) p c = 0 then accS A (moveC (aP A) p c) else A
theorem cx_move {d : Nat} {sc : SC} {μ : Mem} {A : StT} {p c : Int} (hd : 5 ≤ d) (h : RX μ A) : CTi mX9_move d sc [(2, 0), (0, p), (0, c)] μ (AX μ (moveA A p c) (fun x => x = moveS A p c)) := by
  have hn := h.1.now
  have hws := h.1.wfs
  have h6 := h.1.wfh.2.2.1
  have hb := moveW_b (aH A) p c
  refine CTi_of mp_X9_move (Nat.le_of_ble_eq_true rfl) ?_
  refine s_X9_move_0 ⟨hn.1, ca_begin (by omega) h.1 ?_⟩
  intro μ3 f3 x3
  have h3 := h.tr121 f3
  refine byI (d' := 1) (by omega) (ct_moveIn (Nat.le_refl _) h3.1 x3) ?_
  rintro w μ5 ⟨rfl, f5, x5⟩
  have h5 := h3.tr121 f5
  have F5 : FX μ μ5 := fun b j q => by rw [f5 b j (by omega), f3 b j (by omega)]
  refine ⟨fun z => ?_, fun z => ⟨by omega, ?_, ?_, F5⟩⟩
  · rw [if_pos z] at x5
    have hm := moveW_0 z
    refine ⟨h5.1.now.1, by omega, ?_⟩
    intro v hv
    refine ca_accept hd h5.1 x5 (hws.move z) ?_
    intro μ8 r8 f8 _
    refine ⟨?_, ?_, F5.tr f8⟩
    · show _ = _
      unfold moveS; rw [if_pos z, hv]; exact h5.1.xp.2.2.1 p hm.1.1 hm.1.2
    · unfold moveA; rw [if_pos z]; exact r8
  · show _ = _
    unfold moveS; rw [if_neg z]; omega
  · unfold moveA; rw [if_neg z]; exact h5
def windS (A : StT) (n : Int) : Int := if windW n = 0 then pWind (aP A) else -11
def windA (A : StT) (n : Int) : StT := if windW n = 0 then accS A (windP (aP A) n) else A
theorem cx_wind {d : Nat} {sc : SC} {μ : Mem} {A : StT} {n : Int} (hd : 5 ≤ d) (h : RX μ A) : CTi mX9_wind d sc [(2, 0), (0, n)] μ (AX μ (windA A n) (fun x => x = windS A n)) := by
  have hn := h.1.now
  have hws := h.1.wfs
  have hb := windW_b n
  refine CTi_of mp_X9_wind (Nat.le_of_ble_eq_true rfl) ?_
  refine s_X9_wind_0 ⟨hn.1, ca_begin (by omega) h.1 ?_⟩
  intro μ3 f3 x3
  have h3 := h.tr121 f3
  refine byI (d' := 1) (by omega) (ct_windIn x3) ?_
  rintro w μ5 ⟨rfl, f5, x5⟩
  have h5 := h3.tr121 f5
  have F5 : FX μ μ5 := fun b j q => by rw [f5 b j (by omega), f3 b j (by omega)]
  refine ⟨fun z => ?_, fun z => ⟨by omega, ?_, ?_, F5⟩⟩
  · rw [if_pos z] at x5
    refine ⟨h5.1.now.1, ?_⟩
    intro v hv
    refine ca_accept hd h5.1 x5 (hws.wind z) ?_
    intro μ8 r8 f8 _
    refine ⟨?_, ?_, F5.tr f8⟩
    · show _ = _
      unfold windS; rw [if_pos z, hv]; exact h5.1.xp.2.2.2
    · unfold windA; rw [if_pos z]; exact r8
  · show _ = _
    unfold windS; rw [if_neg z]; omega
  · unfold windA; rw [if_neg z]; exact h5
def undoS (A : StT) (n : Int) : Int := if 1 ≤ n ∧ n ≤ (aPast A).length then (aPast A).length - n else -3
def undoA (A : StT) (n : Int) : StT := if 1 ≤ n ∧ n ≤ (aPast A).length then setPL A ((aPast A).getD ((aPast A).length - n.toNat) planDef) ((aPast A).take ((aPast A).length - n.toNat)) else A
theorem cx_undo {d : Nat} {sc : SC} {μ : Mem} {A : StT} {n : Int} (hd : 4 ≤ d) (h : RX μ A) : CTi mX9_undo d sc [(2, 0), (0, n)] μ (AX μ (undoA A n) (fun x => x = undoS A n)) := by
  have hn := h.1.now
  have h6 := h.1.wfh.2.2.1
  have hp := h.1.past.1
  have bad : ¬ (1 ≤ n ∧ n ≤ (aPast A).length) → AX μ (undoA A n) (fun x => x = undoS A n) (-3) μ := fun z => by
    refine AX.here (by unfold undoA; rw [if_neg z]; exact h) ?_
    show _ = _
    unfold undoS; rw [if_neg z]
  refine CTi_of mp_X9_undo (Nat.le_of_ble_eq_true rfl) ?_
  refine s_X9_undo_0 ⟨fun z => bad (by omega), fun z => ?_⟩
  rw [hp]
  refine ⟨fun z2 => ⟨hn.1, ?_⟩, fun z2 => bad (by omega)⟩
  have hwp := h.1.wf.2.2.2.2.2.1
  refine byV (d' := 3) (by omega) (ct_takeBack (Nat.le_refl _) h.1.past hn.2.1 (by omega) ⟨z, z2⟩ (fun P hP => by have := (hwp P hP).2.2.1; omega) h6.2) ?_
  rintro μ5 ⟨f5, p5, x5⟩
  refine byV (d' := 0) (by omega) ct_forgetA ?_
  rintro μ8 ⟨f8, k1, k2, k3⟩
  have fr : ∀ b j, (b = 0 → j ≠ 9) → (b < 34 ∨ 96 ≤ b) → (b < μ 0 2 + 7 ∨ μ 0 2 + 12 < b) → (b < 97 ∨ 148 < b) → μ8 b j = μ b j := fun b j q1 q2 q3 q4 => by rw [f8 b j q1 q4, f5 b j (by omega) (by omega)]
  have hR : RX μ8 (undoA A n) := by
    unfold undoA
    rw [if_pos ⟨z, z2⟩]
    refine RX.fresh (h.1.set (fun b j q1 q2 q3 q4 => fr b j (fun z => (q1 z).1) q2 q3 q4) (x5.same (fun b j _ _ => f8 b j (by omega) (by omega))) (p5.same (fun b j _ _ => f8 b j (by omega) (by omega))) ?_ (fun P hP => hwp P (List.mem_of_mem_take hP))) k1 k2 k3
    have hlt : (aPast A).length - n.toNat < (aPast A).length := by omega
    rw [List.getD_eq_getElem?_getD, List.getElem?_eq_getElem hlt]
    exact hwp _ (List.getElem_mem _)
  refine ⟨?_, hR, fun b j q => fr b j (by omega) (by omega) (by omega) (by omega)⟩
  show _ = _
  have hpast := hR.1.past.1
  rw [hpast]
  unfold undoS undoA
  rw [if_pos ⟨z, z2⟩, if_pos ⟨z, z2⟩]
  show (((aPast A).take ((aPast A).length - n.toNat)).length : Int) = _
  rw [List.length_take]
  omega

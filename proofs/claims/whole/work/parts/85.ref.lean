/-! THE REFERENCE: its state; what a law tells -/
def trC (op : Int) : Int := if op < 1000 then op else if op = 1019 then 1000 else if op = 1020 then 1001 else if op = 1021 then 1002 else if op = 1016 then 1003 else if op = 1017 then 1004 else if op = 1018 then 1005 else if op = 1015 then 1006 else if op = 1022 then 1007 else if op = 1023 then 1008 else if op = 1032 then 3000 else if op = 1033 then 3001 else if op = 1034 then 3002 else if op = 1039 then 3003 else if op = 1040 then 3004 else if op = 1041 then 3005 else if op = 1014 then 3006 else if op = 1012 then 3007 else if op = 1013 then 3008 else 3009
/-- a plan in a row of forty -/
def MP (f : Int → Int) (np : Int) (P : PlanT) : Prop := f 0 = pN P ∧ (∀ k, 0 ≤ k → k < pN P → f (1 + 4 * k) = pWho P k ∧ f (2 + 4 * k) = pWhom P k ∧ f (3 + 4 * k) = pAt P k ∧ f (4 + 4 * k) = pSure P k) ∧ (∀ q, 0 ≤ q → q < np → f (33 + q) = pCell P q) ∧ f 39 = pWind P
/-- a hill in a row -/
def MH (f : Int → Int) (H : HillT) : Prop := f 0 = hLines H ∧ f 1 = hR H ∧ f 2 = hC H ∧ f 3 = hP H ∧ (∀ q, 0 ≤ q → q < hP H → f (13 + q) = hLoud H q ∧ f (19 + q) = hDeaf H q ∧ f (25 + q) = hVoice H q) ∧
  ∀ l, 0 ≤ l → l < 3 → (f (4 + l) = 1 ∧ 0 < hLen H l ∧ f (10 + l) = hLen H l ∧ (0 ≤ f (7 + l) ∧ f (7 + l) + hLen H l ≤ 900) ∧ ∀ k, 0 ≤ k → k < hLen H l → f (473 + f (7 + l) + k) = trC (hCode H l k)) ∨ (f (4 + l) = 0 ∧ hLen H l = 0)
def MT (μ : Mem) (t : Int) (T : TrayT) : Prop := (tThere T = 0 ∧ μ 209 t = -1) ∨ (tThere T = 1 ∧ μ 209 t = tSort T ∧ μ 210 t = tN T ∧ (0 ≤ tSort T ∧ tSort T ≤ 3) ∧ (0 ≤ tN T ∧ tN T ≤ 40) ∧ ∀ i, 0 ≤ i → i < tN T → μ 211 (40 * t + i) = tNum T i)
def RY (μ : Mem) (A : StT) : Prop := μ 183 5 = aTaped A ∧ (∀ i, 0 ≤ i → i < aTaped A → μ 186 i = aTape A i) ∧ μ 183 13 = aFault A ∧ μ 183 14 = aPlace A ∧ μ 183 19 = 0 ∧ MH (μ 184) (aH A) ∧ MP (fun i => μ 184 (31 + i)) (hP (aH A)) (aP A) ∧ (μ 184 71 = (aPast A).length ∧ (aPast A).length ≤ 10 ∧ ∀ j : Nat, ∀ hj : j < (aPast A).length, MP (fun i => μ 184 (72 + 40 * (j : Int) + i)) (hP (aH A)) (aPast A)[j]) ∧
  (∀ i, 0 ≤ i → i < 2 → μ 185 i = (aImg A i).1 ∧ ((aImg A i).1 = 1 → MH (fun k => μ 184 (1373 * (i + 1) + k)) (aImg A i).2.1 ∧ MP (fun k => μ 184 (1373 * (i + 1) + 31 + k)) (hP (aImg A i).2.1) (aImg A i).2.2)) ∧ (∀ t, 0 ≤ t → t < 4 → MT μ t (aTray A t)) ∧ wfA A
/-- what work alone changes -/
def FW (μ μ' : Mem) : Prop := ∀ b j, (b = 183 → j = 5 ∨ j = 13 ∨ j = 14 ∨ j = 19) → (b ≤ 186 ∨ 209 ≤ b) → μ' b j = μ b j
theorem FW.refl (μ : Mem) : FW μ μ := fun _ _ _ _ => rfl
theorem FW.tr {μ1 μ2 μ3 : Mem} (h : FW μ1 μ2) (h' : FW μ2 μ3) : FW μ1 μ3 := fun b j q1 q2 => by rw [h' b j q1 q2]; exact h b j q1 q2
def FM (μ μ' : Mem) : Prop := ∀ b j, b < 183 → μ' b j = μ b j
theorem FW.m {μ μ' : Mem} (h : FW μ μ') : FM μ μ' := fun b j q => h b j (by omega) (by omega)
theorem FM.refl (μ : Mem) : FM μ μ := fun _ _ _ => rfl
theorem FM.tr {μ1 μ2 μ3 : Mem} (h : FM μ1 μ2) (h' : FM μ2 μ3) : FM μ1 μ3 := fun b j q1 => by rw [h' b j q1]; exact h b j q1
theorem MP.congr {f f' : Int → Int} {np : Int} {P : PlanT} (h : MP f np P) (hs : ∀ i, 0 ≤ i → i < 40 → f' i = f i) (h8 : pN P ≤ 8) (h6 : np ≤ 6) : MP f' np P := by
  obtain ⟨h1, h2, h3, h4⟩ := h
  exact ⟨by rw [hs _ (by omega) (by omega)]; exact h1, fun k k0 k1 => by rw [hs _ (by omega) (by omega), hs _ (by omega) (by omega), hs _ (by omega) (by omega), hs _ (by omega) (by omega)]; exact h2 k k0 k1, fun q q0 q1 => by rw [hs _ (by omega) (by omega)]; exact h3 q q0 q1, by rw [hs _ (by omega) (by omega)]; exact h4⟩
theorem MH.congr {f f' : Int → Int} {H : HillT} (h : MH f H) (hs : ∀ i, (0 ≤ i ∧ i < 31) ∨ (473 ≤ i ∧ i < 1373) → f' i = f i) (h6 : hP H ≤ 6) : MH f' H := by
  obtain ⟨h1, h2, h3, h4, h5, h7⟩ := h
  refine ⟨by rw [hs _ (by omega)]; exact h1, by rw [hs _ (by omega)]; exact h2, by rw [hs _ (by omega)]; exact h3, by rw [hs _ (by omega)]; exact h4, fun q q0 q1 => by rw [hs _ (by omega), hs _ (by omega), hs _ (by omega)]; exact h5 q q0 q1, fun l l0 l1 => ?_⟩
  rw [hs (4 + l) (by omega), hs (10 + l) (by omega), hs (7 + l) (by omega)]
  refine (h7 l l0 l1).imp (fun ⟨a1, a2, a3, a4, a5⟩ => ⟨a1, a2, a3, a4, fun k k0 k1 => ?_⟩) id
  rw [hs _ (by omega)]; exact a5 k k0 k1
theorem MT.congr {μ μ' : Mem} {t : Int} {T : TrayT} (h : MT μ t T) (hs : ∀ b j, 209 ≤ b → b ≤ 211 → μ' b j = μ b j) : MT μ' t T := by
  refine h.imp (fun ⟨a1, a2⟩ => ⟨a1, by rw [hs _ _ (by omega) (by omega)]; exact a2⟩) (fun ⟨a1, a2, a3, a4, a5, a6⟩ => ⟨a1, by rw [hs _ _ (by omega) (by omega)]; exact a2, by rw [hs _ _ (by omega) (by omega)]; exact a3, a4, a5, fun i i0 i1 => by rw [hs _ _ (by omega) (by omega)]; exact a6 i i0 i1⟩)
theorem RY.same {μ μ' : Mem} {A : StT} (h : RY μ A) (hf : FW μ μ') : RY μ' A := by
  obtain ⟨h1, h2, h3, h4, h5, h6, h7, h8, h9, h10, h11⟩ := h
  have e : ∀ j, μ' 184 j = μ 184 j := fun j => hf _ _ (by omega) (by omega)
  have e184 : μ' 184 = μ 184 := funext e
  refine ⟨by rw [hf _ _ (by omega) (by omega)]; exact h1, fun i i0 i1 => by rw [hf _ _ (by omega) (by omega)]; exact h2 i i0 i1, by rw [hf _ _ (by omega) (by omega)]; exact h3, by rw [hf _ _ (by omega) (by omega)]; exact h4, by rw [hf _ _ (by omega) (by omega)]; exact h5, by rw [e184]; exact h6, by rw [e184]; exact h7, by rw [e184]; exact h8, fun i i0 i1 => by rw [e184, hf 185 _ (by omega) (by omega)]; exact h9 i i0 i1, fun t t0 t1 => (h10 t t0 t1).congr (fun b j _ _ => hf b j (by omega) (by omega)), h11⟩
/-! pairs, persons -/
theorem cb_within {d : Nat} {sc : SC} {μ : Mem} {v lo hi : Int} {R : Int → Mem → Prop} (hd : 1 ≤ d) (k0 : ¬ (lo ≤ v ∧ v ≤ hi) → R 0 μ) (k1 : lo ≤ v ∧ v ≤ hi → R 1 μ) : CAi mX10_within d sc [(1, v), (1, lo), (1, hi)] μ R := by
  refine byI (d' := 0) (by omega) (Q := R) ?_ (fun _ _ z => z)
  refine CTi_of mp_X10_within (Nat.le_of_ble_eq_true rfl) ?_
  exact s_X10_within_0 ⟨fun z => k0 (by omega), fun z => ⟨fun z2 => k0 (by omega), fun z2 => k1 ⟨z, by omega⟩⟩⟩
theorem cb_isPerson {d : Nat} {sc : SC} {μ : Mem} {np v : Int} {R : Int → Mem → Prop} (hd : 2 ≤ d) (hn : μ 184 3 = np) (hb : 0 ≤ np ∧ np ≤ 6) (k0 : ¬ (0 ≤ v ∧ v < np) → R 0 μ) (k1 : 0 ≤ v ∧ v < np → R 1 μ) : CAi mX10_isPerson d sc [(2, 183), (1, v)] μ R := by
  refine byI (d' := 1) (by omega) (Q := R) ?_ (fun _ _ z => z)
  refine CTi_of mp_X10_isPerson (Nat.le_of_ble_eq_true rfl) ?_
  refine s_X10_isPerson_0 ?_
  rw [hn]
  exact ⟨by omega, cb_within (Nat.le_refl _) (fun z => ⟨by decide, k0 (by omega)⟩) (fun z => ⟨by decide, k1 (by omega)⟩)⟩
theorem cb_areTwo {d : Nat} {sc : SC} {μ : Mem} {np v w : Int} {R : Int → Mem → Prop} (hd : 3 ≤ d) (hn : μ 184 3 = np) (hb : 0 ≤ np ∧ np ≤ 6) (k0 : ¬ ((0 ≤ v ∧ v < np) ∧ (0 ≤ w ∧ w < np) ∧ v ≠ w) → R 0 μ) (k1 : (0 ≤ v ∧ v < np) ∧ (0 ≤ w ∧ w < np) ∧ v ≠ w → R 1 μ) : CAi mX10_areTwo d sc [(2, 183), (1, v), (1, w)] μ R := by
  refine byI (d' := 2) (by omega) (Q := R) ?_ (fun _ _ z => z)
  refine CTi_of mp_X10_areTwo (Nat.le_of_ble_eq_true rfl) ?_
  refine s_X10_areTwo_0 (cb_isPerson (Nat.le_refl _) hn hb (fun z => ⟨fun _ => k0 (fun y => z y.1), fun q => absurd rfl q⟩) (fun zv => ⟨fun q => absurd q (by decide), fun _ => ?_⟩))
  exact cb_isPerson (Nat.le_refl _) hn hb (fun z => ⟨fun _ => k0 (fun y => z y.2.1), fun q => absurd rfl q⟩) (fun zw => ⟨fun q => absurd q (by decide), fun _ => ⟨fun z => k0 (fun y => y.2.2 z), fun z => k1 ⟨zv, zw, z⟩⟩⟩)
theorem cb_apart {d : Nat} {sc : SC} {μ : Mem} {a b : Int} {R : Int → Mem → Prop} (hd : 1 ≤ d) (ha : 0 ≤ a ∧ a < 1000) (hb : 0 ≤ b ∧ b < 1000) (k : R (iabs (a - b)) μ) : CAi mX10_apart d sc [(0, a), (0, b)] μ R := by
  refine byI (d' := 0) (by omega) (Q := R) ?_ (fun _ _ z => z)
  refine CTi_of mp_X10_apart (Nat.le_of_ble_eq_true rfl) ?_
  refine s_X10_apart_0 ⟨fun z => ⟨by omega, ?_⟩, fun z => ⟨by omega, ?_⟩⟩
  · have e : iabs (a - b) = a - b := by unfold iabs; omega
    rw [← e]; exact k
  · have e : iabs (a - b) = b - a := by unfold iabs; omega
    rw [← e]; exact k
/-- hill and plan lie in the row -/
def MY (μ : Mem) (H : HillT) (P : PlanT) : Prop := MH (μ 184) H ∧ MP (fun i => μ 184 (31 + i)) (hP H) P ∧ wfH H ∧ wfS H P
theorem RY.q {μ : Mem} {A : StT} (h : RY μ A) : MY μ (aH A) (aP A) := ⟨h.2.2.2.2.2.1, h.2.2.2.2.2.2.1, h.2.2.2.2.2.2.2.2.2.2.2.2.2.1, h.2.2.2.2.2.2.2.2.2.2.2.2.2.2.1⟩
theorem MY.same {μ μ' : Mem} {H : HillT} {P : PlanT} (h : MY μ H P) (e : ∀ j, μ' 184 j = μ 184 j) : MY μ' H P := by
  have e184 : μ' 184 = μ 184 := funext e
  unfold MY
  rw [e184]; exact h
theorem cb_farOf {d : Nat} {sc : SC} {μ : Mem} {H : HillT} {P : PlanT} {a b : Int} {R : Int → Mem → Prop} (hd : 2 ≤ d) (h : MY μ H P) (ha : 0 ≤ a ∧ a < hP H) (hb : 0 ≤ b ∧ b < hP H) (k : R (farOf H P a b) μ) : CAi mX10_farOf d sc [(2, 183), (0, a), (0, b)] μ R := by
  obtain ⟨h1, h2, h3, h4⟩ := h
  have h6 := h3.2.2.1
  have hcb := cells_b h3
  have c1 := h4.1.1 a ha.1 ha.2
  have c2 := h4.1.1 b hb.1 hb.2
  have e1 : μ 184 (64 + a) = pCell P a := by have := h2.2.2.1 a ha.1 ha.2; rw [← this]; show _ = μ 184 (31 + (33 + a)); rw [show 31 + (33 + a) = 64 + a by omega]
  have e2 : μ 184 (64 + b) = pCell P b := by have := h2.2.2.1 b hb.1 hb.2; rw [← this]; show _ = μ 184 (31 + (33 + b)); rw [show 31 + (33 + b) = 64 + b by omega]
  have hC1 := h3.2.1
  refine byI (d' := 1) (by omega) (Q := R) ?_ (fun _ _ z => z)
  refine CTi_of mp_X10_farOf (Nat.le_of_ble_eq_true rfl) ?_
  refine s_X10_farOf_0 ⟨by omega, by omega, ?_⟩
  rw [e1, e2, h1.2.2.1]
  intro v3 e3
  refine ⟨by omega, by omega, ?_⟩
  intro v6 e6
  rw [e3, e6]
  have d1 : 0 ≤ pCell P a / hC H ∧ pCell P a / hC H < 1000 := ⟨Int.ediv_nonneg (by omega) (by omega), by have := Int.ediv_le_self (hC H) c1.1; omega⟩
  have d2 : 0 ≤ pCell P b / hC H ∧ pCell P b / hC H < 1000 := ⟨Int.ediv_nonneg (by omega) (by omega), by have := Int.ediv_le_self (hC H) c2.1; omega⟩
  have m1 : 0 ≤ pCell P a % hC H ∧ pCell P a % hC H < hC H := ⟨Int.emod_nonneg _ (by omega), Int.emod_lt_of_pos _ (by omega)⟩
  have m2 : 0 ≤ pCell P b % hC H ∧ pCell P b % hC H < hC H := ⟨Int.emod_nonneg _ (by omega), Int.emod_lt_of_pos _ (by omega)⟩
  refine ⟨by omega, by omega, cb_apart (Nat.le_refl _) d1 d2 ?_⟩
  rw [h1.2.2.1]
  refine ⟨by omega, by omega, cb_apart (Nat.le_refl _) ⟨m1.1, by omega⟩ ⟨m2.1, by omega⟩ ?_⟩
  have hf := far_b h3 h4.1 ha hb
  have ef : iabs (pCell P a / hC H - pCell P b / hC H) + iabs (pCell P a % hC H - pCell P b % hC H) = farOf H P a b := rfl
  rw [ef]
  exact ⟨by omega, k⟩

/-! THE REFERENCE: deeds, told ones -/
theorem MP.add {μ μ' : Mem} {np a b t : Int} {P : PlanT} (h : MP (fun i => μ 184 (31 + i)) np P) (h8 : 0 ≤ pN P ∧ pN P < 8) (h6 : np ≤ 6)
    (h' : ∀ i, μ' 184 i = if i = 31 then pN P + 1 else if i = 32 + 4 * pN P then a else if i = 33 + 4 * pN P then b else if i = 34 + 4 * pN P then t else if i = 35 + 4 * pN P then 10 else μ 184 i) : MP (fun i => μ' 184 (31 + i)) np (addN P a b t 10) := by
  obtain ⟨h1, h2, h3, h4⟩ := h
  refine ⟨by show μ' 184 (31 + 0) = pN P + 1; rw [h', if_pos (by omega)], fun k k0 k1 => ?_, fun q q0 q1 => ?_, ?_⟩
  · have k2 : k < pN P + 1 := k1
    by_cases hk : k = pN P
    · have e := add_new P a b t 10
      subst hk
      rw [e.1, e.2.1, e.2.2.1, e.2.2.2]
      refine ⟨?_, ?_, ?_, ?_⟩
      · show μ' 184 (31 + (1 + 4 * pN P)) = a
        rw [h', if_neg (by omega), if_pos (by omega)]
      · show μ' 184 (31 + (2 + 4 * pN P)) = b
        rw [h', if_neg (by omega), if_neg (by omega), if_pos (by omega)]
      · show μ' 184 (31 + (3 + 4 * pN P)) = t
        rw [h', if_neg (by omega), if_neg (by omega), if_neg (by omega), if_pos (by omega)]
      · show μ' 184 (31 + (4 + 4 * pN P)) = 10
        rw [h', if_neg (by omega), if_neg (by omega), if_neg (by omega), if_neg (by omega), if_pos (by omega)]
    · have e := add_old P a b t 10 hk
      rw [e.1, e.2.1, e.2.2.1, e.2.2.2]
      have x := h2 k k0 (by omega)
      refine ⟨?_, ?_, ?_, ?_⟩
      · show μ' 184 (31 + (1 + 4 * k)) = _
        rw [h', if_neg (by omega), if_neg (by omega), if_neg (by omega), if_neg (by omega), if_neg (by omega)]; exact x.1
      · show μ' 184 (31 + (2 + 4 * k)) = _
        rw [h', if_neg (by omega), if_neg (by omega), if_neg (by omega), if_neg (by omega), if_neg (by omega)]; exact x.2.1
      · show μ' 184 (31 + (3 + 4 * k)) = _
        rw [h', if_neg (by omega), if_neg (by omega), if_neg (by omega), if_neg (by omega), if_neg (by omega)]; exact x.2.2.1
      · show μ' 184 (31 + (4 + 4 * k)) = _
        rw [h', if_neg (by omega), if_neg (by omega), if_neg (by omega), if_neg (by omega), if_neg (by omega)]; exact x.2.2.2
  · show μ' 184 (31 + (33 + q)) = pCell P q
    rw [h', if_neg (by omega), if_neg (by omega), if_neg (by omega), if_neg (by omega), if_neg (by omega)]; exact h3 q q0 q1
  · show μ' 184 (31 + 39) = pWind P
    rw [h', if_neg (by omega), if_neg (by omega), if_neg (by omega), if_neg (by omega), if_neg (by omega)]; exact h4
theorem cb_tellsOne {d : Nat} {sc : SC} {μ : Mem} {A : StT} {a b t : Int} {R : Mem → Prop} (hd : 1 ≤ d) (h : RY μ A) (hw : tellW (aH A) (aP A) a b t = 0) (k : ∀ μ', FP μ μ' → RY μ' (setPL A (addN (aP A) a b t 10) (aPast A)) → R μ') : CAv mX10_tellsOne d sc [(2, 183), (0, a), (0, b), (0, t)] μ R := by
  obtain ⟨q1, q2⟩ := tellW_0 hw
  have hws := h.wfs
  have hn0 := hws.2.1.1.1
  have h0 : μ 184 31 = pN (aP A) := h.mp.1
  refine byV (d' := 0) (by omega) (Q := R) ?_ (fun _ z => z)
  refine CTv_of mp_X10_tellsOne (Nat.le_of_ble_eq_true rfl) ?_
  refine s_X10_tellsOne_0 ?_
  rw [h0]
  refine ⟨by omega, by omega, ?_⟩
  intro v4 e4
  refine ⟨by omega, ?_⟩
  intro μ6 e6
  refine ⟨by omega, by omega, ?_⟩
  intro μ9 e9
  refine ⟨by omega, by omega, ?_⟩
  intro μ12 e12
  refine ⟨by omega, by omega, ?_⟩
  intro μ15 e15
  have e31 : μ15 184 31 = pN (aP A) := by rw [e15, mup_ap, if_neg (by omega), e12, mup_ap, if_neg (by omega), e9, mup_ap, if_neg (by omega), e6, mup_ap, if_neg (by omega)]; exact h0
  rw [e31]
  refine ⟨by omega, ?_⟩
  intro μ19 e19
  have hA : ∀ i, μ19 184 i = if i = 31 then pN (aP A) + 1 else if i = 32 + 4 * pN (aP A) then a else if i = 33 + 4 * pN (aP A) then b else if i = 34 + 4 * pN (aP A) then t else if i = 35 + 4 * pN (aP A) then 10 else μ 184 i := fun i => by
    rw [e19, e15, e12, e9, e6]; simp only [mup_ap]; grind
  have hF : FP μ μ19 := fun b' j q => by
    rw [e19, e15, e12, e9, e6]; simp only [mup_ap]; grind
  exact k μ19 hF (h.setP hF (h.mp.add ⟨hn0, q2⟩ h.n6.2 hA) (hws.add hw))
theorem cb_drops {d : Nat} {sc : SC} {μ : Mem} {A : StT} {i : Int} {R : Mem → Prop} (hd : 1 ≤ d) (h : RY μ A) (hw : dropW (aP A) i = 0) (k : ∀ μ', FP μ μ' → RY μ' (setPL A (dropN (aP A) i) (aPast A)) → R μ') : CAv mX10_drops d sc [(2, 183), (0, i)] μ R := by
  have hi := dropW_0 hw
  have hws := h.wfs
  have h8 := hws.2.2.1
  have h0 : μ 184 31 = pN (aP A) := h.mp.1
  have h6 := h.n6.2
  refine byV (d' := 0) (by omega) (Q := R) ?_ (fun _ z => z)
  refine CTv_of mp_X10_drops (Nat.le_of_ble_eq_true rfl) ?_
  refine s_X10_drops_0 ⟨by omega, by omega, ?_⟩
  intro v3 e3
  have key : ∀ (r : Nat) (x : Int) (μ1 : Mem), x + r = 60 → v3 ≤ x → (∀ b j, (b = 184 → j < v3 ∨ 60 ≤ j) → μ1 b j = μ b j) → (∀ j, v3 ≤ j → j < x → μ1 184 j = μ 184 (j + 4)) → (∀ j, x ≤ j → μ1 184 j = μ 184 j) → WQ mX10_drops 0 sc (ZV sc R) 7 [(2, 183), (9, 0), (0, x)] [] μ1 := by
    intro r
    induction r with
    | zero =>
      intro x μ1 hx hx0 hf h1 h2
      have e31 : μ1 184 31 = pN (aP A) := by rw [hf _ _ (by omega)]; exact h0
      refine s_X10_drops_7 ⟨fun _ => ?_, fun z => by omega⟩
      rw [e31]
      refine ⟨by omega, ?_⟩
      intro μ5 e5
      have g : ∀ b j, (b = 184 → j ≠ 31) → μ5 b j = μ1 b j := fun b j q => by rw [e5, mup_ap, if_neg (fun y => q y.1 y.2)]
      have hF : FP μ μ5 := fun b j q => by rw [g b j (by omega)]; exact hf b j (by omega)
      refine k μ5 hF (h.setP hF ?_ (hws.drop hw))
      obtain ⟨m1, m2, m3, m4⟩ := h.mp
      refine ⟨by show μ5 184 (31 + 0) = pN (aP A) - 1; rw [e5]; exact mup_at _ _ _ _, fun j j0 j1 => ?_, fun q q0 q1 => ?_, ?_⟩
      · have j2 : j < pN (aP A) - 1 := j1
        by_cases hj : j < i
        · have u1 : pWho (dropN (aP A) i) j = pWho (aP A) j := if_pos hj
          have u2 : pWhom (dropN (aP A) i) j = pWhom (aP A) j := if_pos hj
          have u3 : pAt (dropN (aP A) i) j = pAt (aP A) j := if_pos hj
          have u4 : pSure (dropN (aP A) i) j = pSure (aP A) j := if_pos hj
          have x := m2 j j0 (by omega)
          have gg : ∀ s, 31 < s → s < v3 → μ5 184 s = μ 184 s := fun s s0 s1 => by rw [g _ _ (by omega)]; exact hf _ _ (by omega)
          rw [u1, u2, u3, u4]
          exact ⟨(gg _ (by omega) (by omega)).trans x.1, (gg _ (by omega) (by omega)).trans x.2.1, (gg _ (by omega) (by omega)).trans x.2.2.1, (gg _ (by omega) (by omega)).trans x.2.2.2⟩
        · have u1 : pWho (dropN (aP A) i) j = pWho (aP A) (j + 1) := if_neg hj
          have u2 : pWhom (dropN (aP A) i) j = pWhom (aP A) (j + 1) := if_neg hj
          have u3 : pAt (dropN (aP A) i) j = pAt (aP A) (j + 1) := if_neg hj
          have u4 : pSure (dropN (aP A) i) j = pSure (aP A) (j + 1) := if_neg hj
          have x := m2 (j + 1) (by omega) (by omega)
          have gg : ∀ s s', v3 ≤ s → s < 60 → s' = s + 4 → μ5 184 s = μ 184 s' := fun s s' s0 s1 s2 => by rw [g _ _ (by omega), s2]; exact h1 s s0 (by omega)
          rw [u1, u2, u3, u4]
          exact ⟨(gg _ _ (by omega) (by omega) (by omega)).trans x.1, (gg _ _ (by omega) (by omega) (by omega)).trans x.2.1, (gg _ _ (by omega) (by omega) (by omega)).trans x.2.2.1, (gg _ _ (by omega) (by omega) (by omega)).trans x.2.2.2⟩
      · exact ((g _ _ (by omega)).trans (hf _ _ (by omega))).trans (m3 q q0 q1)
      · exact ((g _ _ (by omega)).trans (hf _ _ (by omega))).trans m4
    | succ r ih =>
      intro x μ1 hx hx0 hf h1 h2
      refine s_X10_drops_7 ⟨fun z => by omega, fun _ => ⟨by omega, by omega, by omega, ?_⟩⟩
      intro μ9 e9
      refine ⟨by omega, ?_⟩
      rintro _ rfl
      have g : ∀ b j, (b = 184 → j ≠ x) → μ9 b j = μ1 b j := fun b j q => by rw [e9, mup_ap, if_neg (fun y => q y.1 y.2)]
      refine ih (x + 1) μ9 (by omega) (by omega) (fun b j q => by rw [g b j (by omega)]; exact hf b j q) (fun j j0 j1 => ?_) (fun j j0 => by rw [g _ _ (by omega)]; exact h2 j (by omega))
      by_cases q : j = x
      · rw [q, e9, mup_at]; exact h2 _ (by omega)
      · rw [g _ _ (by omega)]; exact h1 j j0 (by omega)
  exact key (60 - v3).toNat v3 μ (by omega) (Int.le_refl _) (fun _ _ _ => rfl) (fun j j0 j1 => by omega) (fun j _ => rfl)
theorem RY.move1 {μ μ' : Mem} {A : StT} {p c : Int} (h : RY μ A) (e : μ' = mup μ 184 (64 + p) c) (hw : moveW (aH A) p c = 0) : FP μ μ' ∧ RY μ' (setPL A (moveC (aP A) p c) (aPast A)) := by
  have hm := moveW_0 hw
  have h6 := h.n6
  have h8 := h.wfs.2.2.1
  have g : ∀ b j, (b = 184 → j ≠ 64 + p) → μ' b j = μ b j := fun b j q => by rw [e, mup_ap, if_neg (fun y => q y.1 y.2)]
  have hF : FP μ μ' := fun b j q => g b j (by omega)
  refine ⟨hF, h.setP hF ?_ (h.wfs.move hw)⟩
  obtain ⟨m1, m2, m3, m4⟩ := h.mp
  refine ⟨(g _ _ (by omega)).trans m1, fun k k0 k1 => ?_, fun q q0 q1 => ?_, (g _ _ (by omega)).trans m4⟩
  · have k2 : k < pN (aP A) := k1
    have x := m2 k k0 k2
    exact ⟨(g _ _ (by omega)).trans x.1, (g _ _ (by omega)).trans x.2.1, (g _ _ (by omega)).trans x.2.2.1, (g _ _ (by omega)).trans x.2.2.2⟩
  · by_cases hq : q = p
    · have u : pCell (moveC (aP A) p c) q = c := if_pos hq
      rw [u, e]
      show mup μ 184 (64 + p) c 184 (31 + (33 + q)) = c
      rw [mup_ap, if_pos ⟨rfl, by omega⟩]
    · have u : pCell (moveC (aP A) p c) q = pCell (aP A) q := if_neg hq
      rw [u]
      exact (g _ _ (by omega)).trans (m3 q q0 q1)
theorem RY.wind1 {μ μ' : Mem} {A : StT} {n : Int} (h : RY μ A) (e : μ' = mup μ 184 70 n) (hw : windW n = 0) : FP μ μ' ∧ RY μ' (setPL A (windP (aP A) n) (aPast A)) := by
  have h6 := h.n6
  have h8 := h.wfs.2.2.1
  have g : ∀ b j, (b = 184 → j ≠ 70) → μ' b j = μ b j := fun b j q => by rw [e, mup_ap, if_neg (fun y => q y.1 y.2)]
  have hF : FP μ μ' := fun b j q => g b j (by omega)
  refine ⟨hF, h.setP hF ?_ (h.wfs.wind hw)⟩
  obtain ⟨m1, m2, m3, m4⟩ := h.mp
  refine ⟨(g _ _ (by omega)).trans m1, fun k k0 k1 => ?_, fun q q0 q1 => (g _ _ (by omega)).trans (m3 q q0 q1), by rw [e]; exact mup_at _ _ _ _⟩
  have k2 : k < pN (aP A) := k1
  have x := m2 k k0 k2
  exact ⟨(g _ _ (by omega)).trans x.1, (g _ _ (by omega)).trans x.2.1, (g _ _ (by omega)).trans x.2.2.1, (g _ _ (by omega)).trans x.2.2.2⟩
/-! why not -/
theorem cb_whyTell {d : Nat} {sc : SC} {μ : Mem} {A : StT} {a b t : Int} {R : Int → Mem → Prop} (hd : 4 ≤ d) (h : RY μ A) (k : R (tellW (aH A) (aP A) a b t) μ) : CAi mX10_whyTell d sc [(2, 183), (1, a), (1, b), (1, t)] μ R := by
  have h0 : μ 184 31 = pN (aP A) := h.mp.1
  have h8 := h.wfs.2.2.1
  have bad : ¬ ((0 ≤ a ∧ a < hP (aH A)) ∧ (0 ≤ b ∧ b < hP (aH A)) ∧ a ≠ b ∧ (0 ≤ t ∧ t < 100)) → R 1 μ := fun z => by
    have e : tellW (aH A) (aP A) a b t = 1 := if_neg z
    rw [e] at k; exact k
  refine byI (d' := 3) (by omega) (Q := R) ?_ (fun _ _ z => z)
  refine CTi_of mp_X10_whyTell (Nat.le_of_ble_eq_true rfl) ?_
  refine s_X10_whyTell_0 (cb_areTwo (Nat.le_refl _) h.np h.n6 (fun z => ⟨fun _ => bad (fun y => z ⟨y.1, y.2.1, y.2.2.1⟩), fun q => absurd rfl q⟩) (fun z => ⟨fun q => absurd q (by decide), fun _ => ?_⟩))
  refine cb_within (by omega) (fun zt => ⟨fun q => absurd rfl q, fun _ => bad (fun y => by omega)⟩) (fun zt => ⟨fun _ => ?_, fun q => absurd q (by decide)⟩)
  have all : (0 ≤ a ∧ a < hP (aH A)) ∧ (0 ≤ b ∧ b < hP (aH A)) ∧ a ≠ b ∧ (0 ≤ t ∧ t < 100) := ⟨z.1, z.2.1, z.2.2, by omega, by omega⟩
  rw [h0]
  refine ⟨fun q => ?_, fun q => ?_⟩
  · have e : tellW (aH A) (aP A) a b t = 0 := by unfold tellW; rw [if_pos all, if_pos (by omega)]
    rw [e] at k; exact k
  · have e : tellW (aH A) (aP A) a b t = 2 := by unfold tellW; rw [if_pos all, if_neg (by omega)]
    rw [e] at k; exact k
theorem cb_isNaming {d : Nat} {sc : SC} {μ : Mem} {A : StT} {v : Int} {R : Int → Mem → Prop} (hd : 2 ≤ d) (h : RY μ A) (k0 : dropW (aP A) v = 1 → R 0 μ) (k1 : dropW (aP A) v = 0 → R 1 μ) : CAi mX10_isNaming d sc [(2, 183), (1, v)] μ R := by
  have h0 : μ 184 31 = pN (aP A) := h.mp.1
  have hws := h.wfs
  have h8 := hws.2.2.1
  have hn0 := hws.2.1.1.1
  refine byI (d' := 1) (by omega) (Q := R) ?_ (fun _ _ z => z)
  refine CTi_of mp_X10_isNaming (Nat.le_of_ble_eq_true rfl) ?_
  refine s_X10_isNaming_0 ?_
  rw [h0]
  exact ⟨by omega, cb_within (Nat.le_refl _) (fun z => ⟨by decide, k0 (if_neg (by omega))⟩) (fun z => ⟨by decide, k1 (if_pos (by omega))⟩)⟩
theorem cb_cellMany {d : Nat} {sc : SC} {μ : Mem} {A : StT} {R : Int → Mem → Prop} (hd : 1 ≤ d) (h : RY μ A) (k : R (hR (aH A) * hC (aH A)) μ) : CAi mX10_cellMany d sc [(2, 183)] μ R := by
  have hb := cells_b h.q.2.2.1
  obtain ⟨m1, m2, m3, _⟩ := h.q.1
  refine byI (d' := 0) (by omega) (Q := R) ?_ (fun _ _ z => z)
  refine CTi_of mp_X10_cellMany (Nat.le_of_ble_eq_true rfl) ?_
  refine s_X10_cellMany_0 ?_
  rw [m2, m3]
  exact ⟨by omega, k⟩
theorem cb_isCell {d : Nat} {sc : SC} {μ : Mem} {A : StT} {v : Int} {R : Int → Mem → Prop} (hd : 2 ≤ d) (h : RY μ A) (k0 : ¬ (0 ≤ v ∧ v < hR (aH A) * hC (aH A)) → R 0 μ) (k1 : 0 ≤ v ∧ v < hR (aH A) * hC (aH A) → R 1 μ) : CAi mX10_isCell d sc [(2, 183), (1, v)] μ R := by
  have hb := cells_b h.q.2.2.1
  refine byI (d' := 1) (by omega) (Q := R) ?_ (fun _ _ z => z)
  refine CTi_of mp_X10_isCell (Nat.le_of_ble_eq_true rfl) ?_
  refine s_X10_isCell_0 (cb_cellMany (Nat.le_refl _) h ⟨by omega, cb_within (Nat.le_refl _) (fun z => ⟨by decide, k0 (by omega)⟩) (fun z => ⟨by decide, k1 (by omega)⟩)⟩)
theorem cb_whyNot {d : Nat} {sc : SC} {μ : Mem} {A : StT} {v : Int} {R : Int → Mem → Prop} (hd : 5 ≤ d) (h : RY μ A) (k : R (deedW (aH A) (aP A) v) μ) : CAi mX10_whyNot d sc [(2, 183), (1, v)] μ R := by
  refine byI (d' := 4) (by omega) (Q := R) ?_ (fun _ _ z => z)
  refine CTi_of mp_X10_whyNot (Nat.le_of_ble_eq_true rfl) ?_
  refine s_X10_whyNot_0 (cb_within (by omega) (fun z1 => ⟨fun _ => ?_, fun q => absurd rfl q⟩) (fun z1 => ⟨fun q => absurd q (by decide), fun _ => ?_⟩))
  rotate_left
  · have eW : deedW (aH A) (aP A) v = tellW (aH A) (aP A) (v / 1000) (v / 100 % 10) (v % 100) := by unfold deedW; rw [if_neg (by omega), if_pos (by omega)]
    rw [eW] at k
    exact ⟨z1.1, z1.1, by omega, z1.1, cb_whyTell (Nat.le_refl _) h k⟩
  refine cb_within (by omega) (fun z2 => ⟨fun _ => ?_, fun q => absurd rfl q⟩) (fun z2 => ⟨fun q => absurd q (by decide), fun _ => ?_⟩)
  rotate_left
  · have eW : deedW (aH A) (aP A) v = dropW (aP A) (v - 8000) := by unfold deedW; rw [if_neg (by omega), if_neg (by omega), if_pos (by omega)]
    rw [eW] at k
    exact ⟨by omega, cb_isNaming (by omega) h (fun z => ⟨fun _ => by rw [z] at k; exact k, fun q => absurd rfl q⟩) (fun z => ⟨fun q => absurd q (by decide), fun _ => by rw [z] at k; exact k⟩)⟩
  refine cb_within (by omega) (fun z3 => ⟨fun _ => ?_, fun q => absurd rfl q⟩) (fun z3 => ⟨fun q => absurd q (by decide), fun _ => ?_⟩)
  rotate_left
  · have eW : deedW (aH A) (aP A) v = moveW (aH A) ((v - 8100) / 100) (v % 100) := by unfold deedW; rw [if_neg (by omega), if_neg (by omega), if_neg (by omega), if_neg (by omega), if_pos (by omega)]
    rw [eW] at k
    have k1 : ¬ ((0 ≤ (v - 8100) / 100 ∧ (v - 8100) / 100 < hP (aH A)) ∧ 0 ≤ v % 100 ∧ v % 100 < hR (aH A) * hC (aH A)) → R 1 μ := fun z => by
      have e : moveW (aH A) ((v - 8100) / 100) (v % 100) = 1 := if_neg z
      rw [e] at k; exact k
    refine ⟨by omega, by omega, cb_isPerson (by omega) h.np h.n6 (fun z => ⟨fun _ => k1 (fun y => z y.1), fun q => absurd rfl q⟩) (fun z => ⟨fun q => absurd q (by decide), fun _ => ⟨by omega, cb_isCell (by omega) h (fun zc => ⟨fun _ => k1 (fun y => zc y.2), fun q => absurd rfl q⟩) (fun zc => ⟨fun q => absurd q (by decide), fun _ => ?_⟩)⟩⟩)⟩
    have e : moveW (aH A) ((v - 8100) / 100) (v % 100) = 0 := if_pos ⟨z, zc⟩
    rw [e] at k; exact k
  refine cb_within (by omega) (fun z4 => ⟨fun _ => ?_, fun q => absurd rfl q⟩) (fun z4 => ⟨fun q => absurd q (by decide), fun _ => ?_⟩)
  · have eW : deedW (aH A) (aP A) v = 1 := by
      unfold deedW
      by_cases y : v < 0 ∨ 9009 < v
      · rw [if_pos y]
      · rw [if_neg y, if_neg (by omega), if_neg (by omega), if_pos (by omega)]
    rw [eW] at k; exact k
  · have eW : deedW (aH A) (aP A) v = 0 := by unfold deedW; rw [if_neg (by omega), if_neg (by omega), if_neg (by omega), if_neg (by omega), if_neg (by omega)]; exact if_pos (by omega)
    rw [eW] at k; exact k
theorem cb_does {d : Nat} {sc : SC} {μ : Mem} {A : StT} {v : Int} {R : Mem → Prop} (hd : 2 ≤ d) (h : RY μ A) (hw : deedW (aH A) (aP A) v = 0) (k : ∀ μ', FP μ μ' → RY μ' (setPL A (deedP (aP A) v) (aPast A)) → R μ') : CAv mX10_does d sc [(2, 183), (0, v)] μ R := by
  have hv : ¬ (v < 0 ∨ 9009 < v) := fun z => by unfold deedW at hw; rw [if_pos z] at hw; exact absurd hw (by decide)
  have h6 := h.n6
  refine byV (d' := 1) (by omega) (Q := R) ?_ (fun _ z => z)
  refine CTv_of mp_X10_does (Nat.le_of_ble_eq_true rfl) ?_
  refine s_X10_does_0 ⟨fun y1 => ⟨fun y2 => ⟨fun y3 => ?_, fun y3 => ?_⟩, fun y2 => ?_⟩, fun y1 => ?_⟩
  · have eW : deedW (aH A) (aP A) v = windW (v - 9000) := by unfold deedW; rw [if_neg hv, if_neg (by omega), if_neg (by omega), if_neg (by omega), if_neg (by omega)]
    have eP : deedP (aP A) v = windP (aP A) (v - 9000) := by unfold deedP; rw [if_neg (by omega), if_neg (by omega), if_neg (by omega)]
    rw [eW] at hw
    rw [eP] at k
    refine ⟨by omega, fun μ6 e6 => ?_⟩
    have := h.wind1 e6 hw
    exact k μ6 this.1 this.2
  · by_cases y4 : v < 8010
    · exact absurd y4 (by omega)
    have eW : deedW (aH A) (aP A) v = moveW (aH A) ((v - 8100) / 100) (v % 100) := by unfold deedW; rw [if_neg hv, if_neg (by omega), if_neg (by omega), if_neg (by omega), if_pos y3]
    have eP : deedP (aP A) v = moveC (aP A) ((v - 8100) / 100) (v % 100) := by unfold deedP; rw [if_neg (by omega), if_neg (by omega), if_pos y3]
    rw [eW] at hw
    rw [eP] at k
    have hm := moveW_0 hw
    refine ⟨by omega, by omega, by omega, by omega, by omega, fun μ6 e6 => ?_⟩
    have := h.move1 e6 hw
    exact k μ6 this.1 this.2
  · have y3 : v < 8010 := Decidable.of_not_not (fun z => by unfold deedW at hw; rw [if_neg hv, if_neg (by omega), if_neg z, if_pos y2] at hw; exact absurd hw (by decide))
    have eW : deedW (aH A) (aP A) v = dropW (aP A) (v - 8000) := by unfold deedW; rw [if_neg hv, if_neg (by omega), if_pos y3]
    have eP : deedP (aP A) v = dropN (aP A) (v - 8000) := by unfold deedP; rw [if_neg (by omega), if_pos y2]
    rw [eW] at hw
    rw [eP] at k
    exact ⟨by omega, cb_drops (Nat.le_refl _) h hw k⟩
  · have eW : deedW (aH A) (aP A) v = tellW (aH A) (aP A) (v / 1000) (v / 100 % 10) (v % 100) := by unfold deedW; rw [if_neg hv, if_pos y1]
    have eP : deedP (aP A) v = addN (aP A) (v / 1000) (v / 100 % 10) (v % 100) 10 := by unfold deedP; rw [if_pos y1]
    rw [eW] at hw
    rw [eP] at k
    exact ⟨by omega, by omega, by omega, by omega, cb_tellsOne (Nat.le_refl _) h hw k⟩

/-! THE CLASS'S DEEDS -/
def tellW (H : HillT) (P : PlanT) (a b t : Int) : Int := if (0 ≤ a ∧ a < hP H) ∧ (0 ≤ b ∧ b < hP H) ∧ a ≠ b ∧ (0 ≤ t ∧ t < 100) then (if pN P < 8 then 0 else 2) else 1
def dropW (P : PlanT) (k : Int) : Int := if 0 ≤ k ∧ k < pN P then 0 else 1
def moveW (H : HillT) (p c : Int) : Int := if (0 ≤ p ∧ p < hP H) ∧ 0 ≤ c ∧ c < hR H * hC H then 0 else 1
def windW (n : Int) : Int := if 0 ≤ n ∧ n < 10 then 0 else 1
theorem tellW_0 {H : HillT} {P : PlanT} {a b t : Int} (h : tellW H P a b t = 0) : ((0 ≤ a ∧ a < hP H) ∧ (0 ≤ b ∧ b < hP H) ∧ a ≠ b ∧ (0 ≤ t ∧ t < 100)) ∧ pN P < 8 := by
  unfold tellW at h
  split at h
  · rename_i q
    split at h
    · rename_i q2; exact ⟨q, q2⟩
    · exact absurd h (by decide)
  · exact absurd h (by decide)
theorem dropW_0 {P : PlanT} {k : Int} (h : dropW P k = 0) : 0 ≤ k ∧ k < pN P := by
  unfold dropW at h
  split at h
  · rename_i q; exact q
  · exact absurd h (by decide)
theorem moveW_0 {H : HillT} {p c : Int} (h : moveW H p c = 0) : (0 ≤ p ∧ p < hP H) ∧ 0 ≤ c ∧ c < hR H * hC H := by
  unfold moveW at h
  split at h
  · rename_i q; exact q
  · exact absurd h (by decide)
theorem windW_0 {n : Int} (h : windW n = 0) : 0 ≤ n ∧ n < 10 := by
  unfold windW at h
  split at h
  · rename_i q; exact q
  · exact absurd h (by decide)
theorem wfS.add {H : HillT} {P : PlanT} {a b t : Int} (h : wfS H P) (hw : tellW H P a b t = 0) : wfS H (addN P a b t 10) := by
  obtain ⟨⟨q1, q2, q3, q4⟩, q5⟩ := tellW_0 hw
  obtain ⟨h1, ⟨h2, h3⟩, h4, h5⟩ := h
  refine ⟨h1, ⟨⟨by show 0 ≤ pN P + 1; omega, by show pN P + 1 ≤ 10; omega⟩, fun k k0 k1 => ?_⟩, by show pN P + 1 ≤ 8; omega, fun k k0 k1 => ?_⟩
  · by_cases hk : k = pN P
    · have e := add_new P a b t 10
      rw [hk, e.1, e.2.1, e.2.2.1]; exact ⟨q1, q2, q3, q4⟩
    · have e := add_old P a b t 10 hk
      rw [e.1, e.2.1, e.2.2.1]; exact h3 k k0 (by have : k < pN P + 1 := k1; omega)
  · by_cases hk : k = pN P
    · have e := add_new P a b t 10
      rw [hk, e.2.2.2]; decide
    · have e := add_old P a b t 10 hk
      rw [e.2.2.2]; exact h5 k k0 (by have : k < pN P + 1 := k1; omega)
theorem wfS.drop {H : HillT} {P : PlanT} {i : Int} (h : wfS H P) (hw : dropW P i = 0) : wfS H (dropN P i) := by
  have hi := dropW_0 hw
  obtain ⟨h1, ⟨h2, h3⟩, h4, h5⟩ := h
  have hk2 : ∀ k : Int, k < pN (dropN P i) → k < pN P - 1 := fun k q => q
  refine ⟨h1, ⟨⟨by show 0 ≤ pN P - 1; omega, by show pN P - 1 ≤ 10; omega⟩, fun k k0 k1 => ?_⟩, by show pN P - 1 ≤ 8; omega, fun k k0 k1 => ?_⟩
  · have := hk2 k k1
    by_cases hk : k < i
    · have e1 : pWho (dropN P i) k = pWho P k := if_pos hk
      have e2 : pWhom (dropN P i) k = pWhom P k := if_pos hk
      have e3 : pAt (dropN P i) k = pAt P k := if_pos hk
      rw [e1, e2, e3]; exact h3 k k0 (by omega)
    · have e1 : pWho (dropN P i) k = pWho P (k + 1) := if_neg hk
      have e2 : pWhom (dropN P i) k = pWhom P (k + 1) := if_neg hk
      have e3 : pAt (dropN P i) k = pAt P (k + 1) := if_neg hk
      rw [e1, e2, e3]; exact h3 (k + 1) (by omega) (by omega)
  · have := hk2 k k1
    by_cases hk : k < i
    · have e1 : pSure (dropN P i) k = pSure P k := if_pos hk
      rw [e1]; exact h5 k k0 (by omega)
    · have e1 : pSure (dropN P i) k = pSure P (k + 1) := if_neg hk
      rw [e1]; exact h5 (k + 1) (by omega) (by omega)
theorem wfS.move {H : HillT} {P : PlanT} {p c : Int} (h : wfS H P) (hw : moveW H p c = 0) : wfS H (moveC P p c) := by
  have hi := moveW_0 hw
  obtain ⟨⟨h1, h0⟩, h2, h4⟩ := h
  refine ⟨⟨fun q q0 q1 => ?_, h0⟩, h2, h4⟩
  by_cases hq : q = p
  · have e : pCell (moveC P p c) q = c := if_pos hq
    rw [e]; exact hi.2
  · have e : pCell (moveC P p c) q = pCell P q := if_neg hq
    rw [e]; exact h1 q q0 q1
theorem wfS.wind {H : HillT} {P : PlanT} {n : Int} (h : wfS H P) (hw : windW n = 0) : wfS H (windP P n) := by
  have hi := windW_0 hw
  obtain ⟨⟨h1, h0⟩, h2, h4⟩ := h
  exact ⟨⟨h1, by have e : pWind (windP P n) = n := rfl; rw [e]; omega⟩, h2, h4⟩
/-- a deed tried on the trial -/
def DW (μ : Mem) (np W : Int) (P P' : PlanT) (x : Int) (μ' : Mem) : Prop := x = W ∧ (∀ b j, b < 121 ∨ 126 < b → μ' b j = μ b j) ∧ XP μ' 121 np (if W = 0 then P' else P)
theorem DW.no {μ : Mem} {np W x : Int} {P P' : PlanT} (hX : XP μ 121 np P) (hW : W = x) (hx : x ≠ 0) : DW μ np W P P' x μ := ⟨hW.symm, fun _ _ _ => rfl, by rw [if_neg (by omega)]; exact hX⟩
theorem ct_tellIn {d : Nat} {sc : SC} {μ : Mem} {A : StT} {P : PlanT} {a b t : Int} (hd : 1 ≤ d) (h : RXc μ A) (hX : XP μ 121 (hP (aH A)) P) (hn : 0 ≤ pN P) : CTi mX9_tellIn d sc [(2, 0), (2, 121), (0, a), (0, b), (0, t)] μ (DW μ (hP (aH A)) (tellW (aH A) P a b t) P (addN P a b t 10)) := by
  refine CTi_of mp_X9_tellIn (Nat.le_of_ble_eq_true rfl) ?_
  have bad : ¬ (ipS A a ∧ ipS A b ∧ a ≠ b ∧ (0 ≤ t ∧ t < 100)) → DW μ (hP (aH A)) (tellW (aH A) P a b t) P (addN P a b t 10) 1 μ := fun z => DW.no hX (if_neg z) (by decide)
  refine s_X9_tellIn_0 k_121 (ca_isPerson hd h (fun z => ⟨fun _ => bad (fun y => z y.1), fun q => absurd rfl q⟩) (fun za => ⟨fun q => absurd q (by decide), fun _ => ?_⟩))
  refine ca_isPerson hd h (fun z => ⟨fun _ => bad (fun y => z y.2.1), fun q => absurd rfl q⟩) (fun zb => ⟨fun q => absurd q (by decide), fun _ => ⟨fun z => bad (fun y => y.2.2.1 z), fun hab => ?_⟩⟩)
  refine ca_isMinute hd (fun z => ⟨fun q => absurd rfl q, fun _ => bad (fun y => z y.2.2.2)⟩) (fun zt => ⟨fun _ => ?_, fun q => absurd q (by decide)⟩)
  have all : ipS A a ∧ ipS A b ∧ a ≠ b ∧ (0 ≤ t ∧ t < 100) := ⟨za, zb, hab, zt⟩
  rw [hX.1]
  refine ⟨fun z => byV (d' := 0) (by omega) (ct_add k_121 (by rw [hX.1]; omega)) ?_, fun z => ?_⟩
  · rintro μ' ⟨f1, f2, f3, f4⟩
    have e : tellW (aH A) P a b t = 0 := by unfold tellW; rw [if_pos all, if_pos z]
    refine ⟨e.symm, fun c j q => f1 c j (by omega), ?_⟩
    rw [if_pos e]
    exact hX.add f1 f2 f3 f4
  · exact DW.no hX (by unfold tellW; rw [if_pos all, if_neg (by omega)]) (by decide)
theorem ct_dropIn {d : Nat} {sc : SC} {μ : Mem} {np : Int} {P : PlanT} {k : Int} (hd : 1 ≤ d) (hX : XP μ 121 np P) (hn : pN P ≤ 10) : CTi mX9_dropIn d sc [(2, 121), (0, k)] μ (DW μ np (dropW P k) P (dropN P k)) := by
  refine CTi_of mp_X9_dropIn (Nat.le_of_ble_eq_true rfl) ?_
  refine s_X9_dropIn_0 k_121 ⟨fun z => DW.no hX (if_neg (by omega)) (by decide), fun z => ?_⟩
  rw [hX.1]
  refine ⟨fun z2 => byV (d' := 0) (by omega) (ct_remove k_121 hX hn ⟨z, z2⟩) ?_, fun z2 => DW.no hX (if_neg (by omega)) (by decide)⟩
  rintro μ' ⟨f1, f2⟩
  have e : dropW P k = 0 := if_pos ⟨z, z2⟩
  exact ⟨e.symm, fun c j q => f1 c j (by omega), by rw [if_pos e]; exact f2⟩
theorem cells_b {H : HillT} (hw : wfH H) : 1 ≤ hR H * hC H ∧ hR H * hC H ≤ 64 := by
  have hw1 := hw.1
  have hw2 := hw.2.1
  have h1 : 1 ≤ hR H * hC H := Int.mul_pos (by omega) (by omega)
  have h2 : hR H * hC H ≤ 8 * 8 := Int.mul_le_mul hw1.2 hw2.2 (by omega) (by decide)
  omega
theorem ca_cells {d : Nat} {sc : SC} {μ : Mem} {A : StT} {R : Int → Mem → Prop} (hd : 1 ≤ d) (h : RXc μ A) (k : R (hR (aH A) * hC (aH A)) μ) : CAi mX1_cells d sc [(2, μ 0 2)] μ R := by
  refine byI (d' := 0) (by omega) (Q := R) ?_ (fun _ _ z => z)
  refine CTi_of mp_X1_cells (Nat.le_of_ble_eq_true rfl) ?_
  have hw := h.wfh
  have hb := cells_b hw
  refine s_X1_cells_0 h.now.1 ?_
  rw [← h.xh.1, ← h.xh.2.1]
  exact ⟨by omega, k⟩
theorem XP.move {μ : Mem} {np : Int} {P : PlanT} {p c : Int} (hX : XP μ 121 np P) : XP (mup μ 126 p c) 121 np (moveC P p c) := by
  have g : ∀ b j, b ≠ 126 → mup μ 126 p c b j = μ b j := fun b j z => by rw [mup_ap, if_neg (fun y => z y.1)]
  refine ⟨by rw [g _ _ (by omega)]; exact hX.1, fun k k0 k1 => by rw [g _ _ (by omega), g _ _ (by omega), g _ _ (by omega), g _ _ (by omega)]; exact hX.2.1 k k0 k1, fun q q0 q1 => ?_, by rw [g _ _ (by omega)]; exact hX.2.2.2⟩
  rw [mup_ap]
  by_cases hq : q = p
  · rw [if_pos ⟨rfl, hq⟩]
    exact (if_pos hq : pCell (moveC P p c) q = c).symm
  · rw [if_neg (fun y => hq y.2)]
    exact (hX.2.2.1 q q0 q1).trans (if_neg hq : pCell (moveC P p c) q = pCell P q).symm
theorem XP.wind {μ : Mem} {np : Int} {P : PlanT} {n : Int} (hX : XP μ 121 np P) : XP (mup μ 121 6 n) 121 np (windP P n) := by
  have g : ∀ b j, (b = 121 → j ≠ 6) → mup μ 121 6 n b j = μ b j := fun b j z => by rw [mup_ap, if_neg (fun y => z y.1 y.2)]
  exact ⟨by rw [g _ _ (by omega)]; exact hX.1, fun k k0 k1 => by rw [g _ _ (by omega), g _ _ (by omega), g _ _ (by omega), g _ _ (by omega)]; exact hX.2.1 k k0 k1, fun q q0 q1 => by rw [g _ _ (by omega)]; exact hX.2.2.1 q q0 q1, by rw [mup_ap, if_pos ⟨rfl, rfl⟩]; rfl⟩
theorem ct_moveIn {d : Nat} {sc : SC} {μ : Mem} {A : StT} {P : PlanT} {p c : Int} (hd : 1 ≤ d) (h : RXc μ A) (hX : XP μ 121 (hP (aH A)) P) : CTi mX9_moveIn d sc [(2, 0), (2, 121), (0, p), (0, c)] μ (DW μ (hP (aH A)) (moveW (aH A) p c) P (moveC P p c)) := by
  have h6 := h.wfh.2.2.1
  refine CTi_of mp_X9_moveIn (Nat.le_of_ble_eq_true rfl) ?_
  have bad : ¬ (ipS A p ∧ 0 ≤ c ∧ c < hR (aH A) * hC (aH A)) → DW μ (hP (aH A)) (moveW (aH A) p c) P (moveC P p c) 1 μ := fun z => DW.no hX (if_neg z) (by decide)
  refine s_X9_moveIn_0 k_121 (ca_isPerson hd h (fun z => ⟨fun _ => bad (fun y => z y.1), fun q => absurd rfl q⟩) (fun zp => ⟨fun q => absurd q (by decide), fun _ => ⟨fun z => bad (fun y => by omega), fun z => ⟨h.now.1, ca_cells hd h ⟨fun z2 => ⟨⟨zp.1, by have := zp.2; omega⟩, ?_⟩, fun z2 => bad (fun y => by omega)⟩⟩⟩⟩))
  rintro _ rfl
  have e : moveW (aH A) p c = 0 := if_pos ⟨zp, z, z2⟩
  exact ⟨e.symm, fun b j q => by rw [mup_ap, if_neg (fun y => by omega)], by rw [if_pos e]; exact hX.move⟩
theorem ct_windIn {d : Nat} {sc : SC} {μ : Mem} {np : Int} {P : PlanT} {n : Int} (hX : XP μ 121 np P) : CTi mX9_windIn d sc [(2, 121), (0, n)] μ (DW μ np (windW n) P (windP P n)) := by
  refine CTi_of mp_X9_windIn (Nat.le_of_ble_eq_true rfl) ?_
  refine s_X9_windIn_0 k_121 ⟨fun z => DW.no hX (if_neg (by omega)) (by decide), fun z => ⟨fun z2 => ?_, fun z2 => DW.no hX (if_neg (by omega)) (by decide)⟩⟩
  rintro _ rfl
  have e : windW n = 0 := if_pos ⟨z, z2⟩
  exact ⟨e.symm, fun b j q => by rw [mup_ap, if_neg (fun y => by omega)], by rw [if_pos e]; exact hX.wind⟩
/-- deeds told by a number -/
def deedW (H : HillT) (P : PlanT) (v : Int) : Int := if v < 0 ∨ 9009 < v then 1 else if v < 8000 then tellW H P (v / 1000) (v / 100 % 10) (v % 100) else if v < 8010 then dropW P (v - 8000) else if v < 8100 then 1 else if v < 9000 then moveW H ((v - 8100) / 100) (v % 100) else windW (v - 9000)
def deedP (P : PlanT) (v : Int) : PlanT := if v < 8000 then addN P (v / 1000) (v / 100 % 10) (v % 100) 10 else if v < 8100 then dropN P (v - 8000) else if v < 9000 then moveC P ((v - 8100) / 100) (v % 100) else windP P (v - 9000)
theorem wfS.deed {H : HillT} {P : PlanT} {v : Int} (h : wfS H P) (hw : deedW H P v = 0) : wfS H (deedP P v) := by
  unfold deedW at hw
  unfold deedP
  by_cases h0 : v < 0 ∨ 9009 < v
  · rw [if_pos h0] at hw; exact absurd hw (by decide)
  rw [if_neg h0] at hw
  by_cases h1 : v < 8000
  · rw [if_pos h1] at hw; rw [if_pos h1]; exact h.add hw
  rw [if_neg h1] at hw; rw [if_neg h1]
  by_cases h2 : v < 8010
  · rw [if_pos h2] at hw; rw [if_pos (by omega)]; exact h.drop hw
  rw [if_neg h2] at hw
  by_cases h3 : v < 8100
  · rw [if_pos h3] at hw; exact absurd hw (by decide)
  rw [if_neg h3] at hw; rw [if_neg h3]
  by_cases h4 : v < 9000
  · rw [if_pos h4] at hw; rw [if_pos h4]; exact h.move hw
  rw [if_neg h4] at hw; rw [if_neg h4]
  exact h.wind hw
theorem ct_deed {d : Nat} {sc : SC} {μ : Mem} {A : StT} {P : PlanT} {v : Int} (hd : 2 ≤ d) (h : RXc μ A) (hX : XP μ 121 (hP (aH A)) P) (hn : 0 ≤ pN P ∧ pN P ≤ 10) : CTi mX9_deed d sc [(2, 0), (2, 121), (1, v)] μ (DW μ (hP (aH A)) (deedW (aH A) P v) P (deedP P v)) := by
  refine CTi_of mp_X9_deed (Nat.le_of_ble_eq_true rfl) ?_
  refine s_X9_deed_0 k_121 ⟨fun z => DW.no hX (if_pos (Or.inl z)) (by decide), fun z => ⟨fun z2 => ?_, fun z2 => DW.no hX (if_pos (Or.inr z2)) (by decide)⟩⟩
  intro u hu
  have hv : u = v := by rw [hu, w32_id ⟨by omega, by omega⟩]
  rw [hv]
  clear hu hv u
  have e0 : ¬ (v < 0 ∨ 9009 < v) := by omega
  refine ⟨fun y1 => ⟨fun y2 => ⟨fun y3 => ⟨fun y4 => ?_, fun y4 => ?_⟩, fun y3 => ?_⟩, fun y2 => ?_⟩, fun y1 => ?_⟩
  · have eW : deedW (aH A) P v = windW (v - 9000) := by unfold deedW; rw [if_neg e0, if_neg (by omega), if_neg (by omega), if_neg (by omega), if_neg (by omega)]
    have eP : deedP P v = windP P (v - 9000) := by unfold deedP; rw [if_neg (by omega), if_neg (by omega), if_neg (by omega)]
    rw [eW, eP]
    exact ⟨by omega, byI (d' := 0) (by omega) (ct_windIn hX) (fun _ _ q => q)⟩
  · have eW : deedW (aH A) P v = moveW (aH A) ((v - 8100) / 100) (v % 100) := by unfold deedW; rw [if_neg e0, if_neg (by omega), if_neg (by omega), if_neg (by omega), if_pos y4]
    have eP : deedP P v = moveC P ((v - 8100) / 100) (v % 100) := by unfold deedP; rw [if_neg (by omega), if_neg (by omega), if_pos y4]
    rw [eW, eP]
    exact ⟨by omega, by omega, z, byI (d' := 1) (by omega) (ct_moveIn (Nat.le_refl _) h hX) (fun _ _ q => q)⟩
  · exact DW.no hX (by unfold deedW; rw [if_neg e0, if_neg (by omega), if_neg (by omega), if_pos y3]) (by decide)
  · have eW : deedW (aH A) P v = dropW P (v - 8000) := by unfold deedW; rw [if_neg e0, if_neg (by omega), if_pos y2]
    have eP : deedP P v = dropN P (v - 8000) := by unfold deedP; rw [if_neg (by omega), if_pos (by omega)]
    rw [eW, eP]
    exact ⟨by omega, byI (d' := 1) (by omega) (ct_dropIn (Nat.le_refl _) hX hn.2) (fun _ _ q => q)⟩
  · have eW : deedW (aH A) P v = tellW (aH A) P (v / 1000) (v / 100 % 10) (v % 100) := by unfold deedW; rw [if_neg e0, if_pos y1]
    have eP : deedP P v = addN P (v / 1000) (v / 100 % 10) (v % 100) 10 := by unfold deedP; rw [if_pos y1]
    rw [eW, eP]
    exact ⟨z, z, by omega, z, byI (d' := 1) (by omega) (ct_tellIn (Nat.le_refl _) h hX hn.1) (fun _ _ q => q)⟩

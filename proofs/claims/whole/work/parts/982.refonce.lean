/-! THE REFERENCE: at once -/
def FC2 (p : Int) (μ μ' : Mem) : Prop := ∀ b j, (b = 183 → j = 5 ∨ j = 13 ∨ j = 14 ∨ j = 19) → (b ≤ 186 ∨ 209 ≤ b) → (b = 184 → j ≠ 64 + p) → μ' b j = μ b j
theorem FC2.one {p : Int} {μ μ' : Mem} (h : FC2 p μ μ') : FC1 p μ μ' := fun b j q1 q2 q3 => h b j (fun y => by have := q1 y; omega) q2 q3
theorem FC2.of {p : Int} {μ μ' : Mem} (h : FW μ μ') : FC2 p μ μ' := fun b j q1 q2 _ => h b j q1 q2
theorem FC2.fw {p : Int} {μ μ1 μ' : Mem} (h : FC2 p μ μ1) (h' : FW μ1 μ') : FC2 p μ μ' := fun b j q1 q2 q3 => by rw [h' b j q1 q2]; exact h b j q1 q2 q3
theorem FC2.cell {p c : Int} {μ μ1 μ' : Mem} (h : FC2 p μ μ1) (e : μ' = mup μ1 184 (64 + p) c) : FC2 p μ μ' ∧ μ' 184 (64 + p) = c := ⟨fun b j q1 q2 q3 => by rw [e, mup_ap, if_neg (fun y => q3 y.1 y.2)]; exact h b j q1 q2 q3, by rw [e, mup_at]⟩
theorem FC2.back {p : Int} {μ μ1 μ' : Mem} {A : StT} (h0 : RY μ A) (hp : ipS A p) (h : FC2 p μ μ1) (e : μ' = mup μ1 184 (64 + p) (pCell (aP A) p)) : FW μ μ' := fun b j q1 q2 => by
  rw [e, mup_ap]
  split
  · rename_i y; rw [y.1, y.2]; exact (h0.cell hp).symm
  · rename_i y; exact h b j q1 q2 (fun z z2 => y ⟨z, z2⟩)
theorem FC2.cells {d : Nat} {sc : SC} {p : Int} {μ μ1 : Mem} {A : StT} {R : Int → Mem → Prop} (hd : 1 ≤ d) (h0 : RY μ A) (hp : ipS A p) (h : FC2 p μ μ1) (k : R (hR (aH A) * hC (aH A)) μ1) : CAi mX10_cellMany d sc [(2, 183)] μ1 R := by
  have := hp.1
  exact cells_at (P := aP A) hd ((h _ _ (by omega) (by omega) (by omega)).trans h0.q.1.2.1) ((h _ _ (by omega) (by omega) (by omega)).trans h0.q.1.2.2.1) h0.q.2.2.1 k
theorem cb_oneGap {d : Nat} {sc : SC} {μ : Mem} {H : HillT} {P : PlanT} {p o : Int} {R : Int → Mem → Prop} (hd : 5 ≤ d) (hY : MY μ H P) (hp : 0 ≤ p ∧ p < hP H) (ho : 0 ≤ o ∧ o < 256) (k : ∀ μ', FK μ μ' → R (if 0 < onceN (fun q => gapS H P p q) (fun q => decide (q ≠ p) && bitN o q) (hP H).toNat then onceN (fun q => gapS H P p q) (fun q => decide (q ≠ p) && bitN o q) (hP H).toNat else -1) μ') : CAi mX10_oneGap d sc [(2, 183), (0, p), (0, o)] μ R := by
  have h6 := hY.2.2.1.2.2.1
  have hg : ∀ q, 1 ≤ gapS H P p q ∧ gapS H P p q ≤ 20 := fun q => gapS_b _ _ _ _
  generalize hG : onceN (fun q => gapS H P p q) (fun q => decide (q ≠ p) && bitN o q) (hP H).toNat = G at *
  refine byI (d' := 4) (by omega) (Q := R) ?_ (fun _ _ z => z)
  refine CTi_of mp_X10_oneGap (Nat.le_of_ble_eq_true rfl) ?_
  refine s_X10_oneGap_0 ?_
  have key : ∀ (r q : Nat) (g : Int) (μ1 : Mem), (q : Int) + r = hP H → FK μ μ1 → onceN (fun q => gapS H P p q) (fun q => decide (q ≠ p) && bitN o q) q ≠ -1 → g = (if onceN (fun q => gapS H P p q) (fun q => decide (q ≠ p) && bitN o q) q = 0 then -1 else onceN (fun q => gapS H P p q) (fun q => decide (q ≠ p) && bitN o q) q) →
      WQ mX10_oneGap 4 sc (ZI sc R) 5 [(2, 183), (0, p), (0, o), (0, g), (0, (q : Int)), (9, 0)] [] μ1 := by
    intro r
    induction r with
    | zero =>
      intro q g μ1 hq hf hne hgv
      have e3 : μ1 184 3 = hP H := (hf _ _ (by omega) (by omega)).trans hY.1.2.2.2.1
      have hb := once_b (g := fun q => gapS H P p q) (b := fun q => decide (q ≠ p) && bitN o q) (fun q => (hg q).1) q
      refine s_X10_oneGap_5 ⟨fun _ => ?_, fun z => by omega⟩
      have hk := k μ1 hf
      rw [show (hP H).toNat = q by omega] at hG
      rw [← hG] at hk
      rw [hgv]
      split at hk
      · rename_i y; rw [if_neg (by omega)]; exact hk
      · rename_i y; rw [if_pos (by omega)]; exact hk
    | succ r ih =>
      intro q g μ1 hq hf hne hgv
      have e3 : μ1 184 3 = hP H := (hf _ _ (by omega) (by omega)).trans hY.1.2.2.2.1
      have hb := once_b (g := fun q => gapS H P p q) (b := fun q => decide (q ≠ p) && bitN o q) (fun q => (hg q).1) q
      have hstep : onceN (fun q => gapS H P p q) (fun q => decide (q ≠ p) && bitN o q) (q + 1) = if (decide ((q : Int) ≠ p) && bitN o q) = true then (if onceN (fun q => gapS H P p q) (fun q => decide (q ≠ p) && bitN o q) q = 0 ∨ onceN (fun q => gapS H P p q) (fun q => decide (q ≠ p) && bitN o q) q = gapS H P p q then gapS H P p q else -1) else onceN (fun q => gapS H P p q) (fun q => decide (q ≠ p) && bitN o q) q := rfl
      have no : ∀ μ2 : Mem, FK μ μ2 → (decide ((q : Int) ≠ p) && bitN o q) = false → WQ mX10_oneGap 4 sc (ZI sc R) 5 [(2, 183), (0, p), (0, o), (0, g), (0, (q : Int) + 1), (9, 0)] [] μ2 := fun μ2 f2 e => by
        rw [e, if_neg (by decide)] at hstep
        exact ih (q + 1) g μ2 (by omega) f2 (by rw [hstep]; exact hne) (by rw [hstep]; exact hgv)
      refine s_X10_oneGap_5 ⟨fun z => by omega, fun _ => ⟨fun z => ⟨by omega, ?_⟩, fun z => ?_⟩⟩
      · rintro _ rfl
        exact no μ1 hf (by rw [decide_eq_false (fun y => y z), Bool.false_and])
      refine cb_isIn (by omega) ho ⟨by omega, by omega⟩ (fun hb0 => ⟨fun y => absurd rfl y, fun _ => ⟨by omega, ?_⟩⟩) (fun hb1 => ⟨fun _ => ?_, fun y => absurd y (by decide)⟩)
      · rintro _ rfl
        exact no μ1 hf (by rw [hb0, Bool.and_false])
      have Y1 : MY μ1 H P := hY.same (fun j => hf _ _ (by omega) (by omega))
      have hbt : (decide ((q : Int) ≠ p) && bitN o q) = true := by rw [decide_eq_true z, hb1]; rfl
      rw [hbt, if_pos rfl] at hstep
      have hgq := hg (q : Int)
      refine cb_gapOf (by omega) Y1 hp ⟨by omega, by omega⟩ (fun μ10 f10 => ?_)
      have F10 : FK μ μ10 := fun b j q1 q2 => by rw [f10 b j q1 q2]; exact hf b j q1 q2
      generalize onceN (fun q => gapS H P p q) (fun q => decide (q ≠ p) && bitN o q) q = Gq at *
      refine ⟨fun y => ⟨by omega, ?_⟩, fun y => ⟨fun y2 => ⟨by omega, ?_⟩, fun y2 => ?_⟩⟩
      · rintro _ rfl
        have hz : Gq = 0 := by
          by_cases q2 : Gq = 0
          · exact q2
          · rw [if_neg q2] at hgv; omega
        rw [if_pos (Or.inl hz)] at hstep
        exact ih (q + 1) _ μ10 (by omega) F10 (by omega) (by rw [hstep, if_neg (by omega)])
      · rintro _ rfl
        have hz : Gq = gapS H P p q := by
          by_cases q2 : Gq = 0
          · rw [if_pos q2] at hgv; omega
          · rw [if_neg q2] at hgv; omega
        rw [if_pos (Or.inr hz)] at hstep
        exact ih (q + 1) _ μ10 (by omega) F10 (by omega) (by rw [hstep, if_neg (by omega)])
      · have hz : Gq ≠ 0 ∧ Gq ≠ gapS H P p q := by
          by_cases q2 : Gq = 0
          · rw [if_pos q2] at hgv; omega
          · rw [if_neg q2] at hgv; omega
        rw [if_neg (by omega)] at hstep
        have := once_f (fun q => (hg q).1) hstep r
        rw [show q + 1 + r = (hP H).toNat by omega, hG] at this
        have hk := k μ10 F10
        rw [this, if_neg (by decide)] at hk
        exact hk
  exact key (hP H).toNat 0 (-1) μ (by omega) (fun _ _ _ _ => rfl) (show (0 : Int) ≠ -1 by decide) rfl
theorem full_pow : ∀ n : Nat, n < 7 → iShl 1 (n : Int) - 1 = 2 ^ n - 1 ∧ (1 : Int) ≤ 2 ^ n ∧ (2 : Int) ^ n ≤ 64 := by decide +kernel
theorem cm_atOnce {d : Nat} {sc : SC} {μ : Mem} {A : StT} {p o : Int} (hd : 5 ≤ d) (h : RY μ A) : CTi mX10_atOnce d sc [(2, 183), (0, p), (0, o)] μ (AM μ A (fun x => x = atOnceS A p o)) := by
  have h6 := h.n6
  have hcb := cells_b h.q.2.2.1
  have hpw := full_pow (hP (aH A)).toNat (by omega)
  rw [show (((hP (aH A)).toNat : Nat) : Int) = hP (aH A) by omega] at hpw
  refine CTi_of mp_X10_atOnce (Nat.le_of_ble_eq_true rfl) ?_
  refine s_X10_atOnce_0 ?_
  intro μ1 e1
  have f1 := fw0 e1
  have r1 := h.same f1
  refine cb_isPerson (by omega) r1.np h6 (fun z => ⟨fun q => absurd rfl q, fun _ => AM.of h f1 (if_neg z).symm⟩) (fun zp => ⟨fun _ => ?_, fun q => absurd q (by decide)⟩)
  rw [r1.np, hpw.1]
  refine ⟨by omega, cb_within (by omega) (fun z => ⟨fun q => absurd rfl q, fun _ => AM.of h f1 ?_⟩) (fun zo => ⟨fun _ => ⟨by have := zp.2; have := zp.1; omega, by have := zp.2; have := zp.1; omega, ?_⟩, fun q => absurd q (by decide)⟩)⟩
  · show _ = _
    unfold atOnceS; rw [if_pos zp, if_neg (by omega)]
  rw [r1.cell zp]
  rintro _ rfl
  have zp0 := zp.1
  have zp1 := zp.2
  generalize hCe : hR (aH A) * hC (aH A) = ce at *
  have key : ∀ (r c : Nat) (μ1 : Mem), (c : Int) + r = ce → FC2 p μ μ1 → WQ mX10_atOnce d sc (ZI sc (AM μ A (fun x => x = atOnceS A p o))) 56 [(2, 183), (0, p), (0, o), (0, pCell (aP A) p), (0, cntF (atOnceB A p o) c), (0, (c : Int))] [] μ1 := by
    intro r
    induction r with
    | zero =>
      intro c μ1 hc hf
      refine s_X10_atOnce_56 (hf.cells (by omega) h zp ?_)
      rw [hCe]
      refine ⟨fun _ => ⟨by omega, by omega, ?_⟩, fun z => by omega⟩
      intro μ6 e6
      refine AM.of h (hf.back h zp e6) ?_
      show _ = _
      unfold atOnceS
      rw [if_pos zp, if_pos ⟨zo.1, by omega⟩, hCe, show ce.toNat = c by omega]
    | succ r ih =>
      intro c μ1 hc hf
      have hcf := cntF_b (atOnceB A p o) c
      refine s_X10_atOnce_56 (hf.cells (by omega) h zp ?_)
      rw [hCe]
      refine ⟨fun z => by omega, fun _ => ⟨by omega, by omega, ?_⟩⟩
      intro μ9 e9
      obtain ⟨f9, s9⟩ := hf.cell e9
      have Y9 := FC1.my (c := (c : Int)) h.q f9.one zp ⟨by omega, by rw [hCe]; omega⟩ s9
      refine cb_oneGap (by omega) Y9 zp ⟨zo.1, by omega⟩ (fun μ11 f11 => ?_)
      have F11 := f9.fw f11.w
      have hstep : cntF (atOnceB A p o) (c + 1) = cntF (atOnceB A p o) c + if atOnceB A p o c = true then 1 else 0 := rfl
      have hB : atOnceB A p o c = decide (0 < onceN (fun q => gapS (aH A) (moveC (aP A) p c) p q) (fun q => decide (q ≠ p) && bitN o q) (hP (aH A)).toNat) := rfl
      generalize onceN (fun q => gapS (aH A) (moveC (aP A) p c) p q) (fun q => decide (q ≠ p) && bitN o q) (hP (aH A)).toNat = G at *
      by_cases q : 0 < G
      · rw [if_pos q]
        rw [hB, decide_eq_true q, if_pos rfl] at hstep
        refine ⟨fun _ => ⟨by omega, ?_⟩, fun y => by omega⟩
        rintro _ rfl
        refine ⟨by omega, ?_⟩
        rintro _ rfl
        rw [← hstep]
        exact ih (c + 1) μ11 (by omega) F11
      · rw [if_neg q]
        rw [hB, decide_eq_false q, if_neg (by decide)] at hstep
        refine ⟨fun y => absurd rfl y, fun _ => ⟨by omega, ?_⟩⟩
        rintro _ rfl
        refine ⟨by omega, ?_⟩
        rintro _ rfl
        rw [← hstep]
        exact ih (c + 1) μ11 (by omega) F11
  exact key ce.toNat 0 μ1 (by omega) (FC2.of f1)

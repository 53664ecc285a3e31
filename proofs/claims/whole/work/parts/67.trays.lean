/-! THE CLASS: winds, trays, images, the tape -/
theorem or_up10 {x : Int} {n : Nat} (hx : 0 ≤ x ∧ x < 2 ^ n) (hn : n < 10) : iOr x (iShl 1 n) = x + 2 ^ n := by
  have H : ∀ m : Nat, m < 10 → ∀ y : Nat, y < 2 ^ m → iOr (y : Int) (iShl 1 (m : Int)) = (y : Int) + 2 ^ m := by decide +kernel
  have h2 : x.toNat < 2 ^ n := by
    have : ((2 ^ n : Nat) : Int) = 2 ^ n := Int.natCast_pow 2 n
    omega
  have h := H n hn x.toNat h2
  rwa [show ((x.toNat : Nat) : Int) = x by omega] at h
def timedB (M : List Int) (n : Int) (f : Int → Int) : Bool := decide ((M.length : Int) = n) && allN (fun i => decide (mAt M i = f i)) n.toNat
theorem allN_all {f : Int → Bool} {n : Nat} (h : ∀ i : Int, 0 ≤ i → i < n → f i = true) : allN f n = true := by
  induction n with
  | zero => rfl
  | succ n ih => rw [allN, ih (fun i i0 i1 => h i i0 (by omega)), h n (by omega) (by omega)]; rfl
theorem timedB_iff {M : List Int} {n : Int} {f : Int → Int} : timedB M n f = true ↔ timedP M n f := by
  unfold timedB timedP
  rw [Bool.and_eq_true, decide_eq_true_eq]
  refine ⟨fun ⟨h1, h2⟩ => ⟨h1, fun i i0 i1 => of_decide_eq_true (allN_at h2 i i0 (by omega))⟩, fun ⟨h1, h2⟩ => ⟨h1, allN_all (fun i i0 i1 => decide_eq_true (h2 i i0 (by omega)))⟩⟩
def minOk (v : Int) : Bool := decide (0 ≤ v ∧ v < 100)
def windsF (A : StT) (t p w : Int) : Bool := timedB (minsL (dayOf (aH A) (windP (aP A) w)) p) (tN (aTray A t)) (tNum (aTray A t))
def windsS (A : StT) (t p : Int) : Int := if (0 ≤ t ∧ t < 4) ∧ ipS A p then (if tThere (aTray A t) = 0 then -6 else if tN (aTray A t) < 1 ∨ 8 < tN (aTray A t) then -4 else if allN (fun i => minOk (tNum (aTray A t) i)) (tN (aTray A t)).toNat = true then bitsF (windsF A t p) 10 else -3) else -2
theorem windP_two (P : PlanT) (a b : Int) : windP (windP P a) b = windP P b := rfl
theorem cx_winds {d : Nat} {sc : SC} {μ : Mem} {A : StT} {t p : Int} (hd : 8 ≤ d) (h : RX μ A) : CTi mX9_winds d sc [(2, 0), (0, t), (0, p)] μ (AX μ A (fun x => x = windsS A t p)) := by
  have hws := h.1.wfs
  have h6 := h.1.wfh.2.2.1
  refine CTi_of mp_X9_winds (Nat.le_of_ble_eq_true rfl) ?_
  have bad : ¬ ((0 ≤ t ∧ t < 4) ∧ ipS A p) → AX μ A (fun x => x = windsS A t p) (-2) μ := fun z => AX.here h (if_neg z).symm
  refine s_X9_winds_0 (ca_isTray (by omega) (fun z => ⟨fun _ => bad (fun y => z y.1), fun q => absurd rfl q⟩) (fun ht => ⟨fun q => absurd q (by decide), fun _ => ?_⟩))
  refine ca_isPerson (by omega) h.1 (fun z => ⟨fun q => absurd rfl q, fun _ => bad (fun y => z y.2)⟩) (fun zp => ⟨fun _ => ?_, fun q => absurd q (by decide)⟩)
  have e96 := (h.1.tray t ht.1 ht.2).1
  have hk := k_tray ht
  have hxt := (h.1.tray t ht.1 ht.2).2
  obtain ⟨b1, b2⟩ := there_b h.1 ht
  have hin : (0 ≤ t ∧ t < 4) ∧ ipS A p := ⟨ht, zp⟩
  have hp0 := zp.1
  have hp1 := zp.2
  rw [e96, b1]
  refine ⟨ht, hk, fun z => ?_, fun z => AX.here h (by show _ = _; unfold windsS; rw [if_pos hin, if_pos z])⟩
  have hT : tThere (aTray A t) = 1 := by omega
  obtain ⟨q1, q2, q4, q5, q6⟩ := hxt.2.2 hT
  rw [q2]
  have hS : ∀ v : Int, ¬ (tN (aTray A t) < 1 ∨ 8 < tN (aTray A t)) → v = (if allN (fun i => minOk (tNum (aTray A t) i)) (tN (aTray A t)).toNat = true then bitsF (windsF A t p) 10 else -3) → v = windsS A t p := fun v z3 z4 => by
    unfold windsS; rw [if_pos hin, if_neg z, if_neg z3]; exact z4
  refine ⟨fun z2 => AX.here h (by show _ = _; unfold windsS; rw [if_pos hin, if_neg z, if_pos (Or.inl z2)]), fun z2 => ⟨fun z3 => ?_, fun z3 => AX.here h (by show _ = _; unfold windsS; rw [if_pos hin, if_neg z, if_pos (Or.inr z3)])⟩⟩
  -- the winds
  have winds : ∀ (r w : Nat) (P' : PlanT) (μ1 : Mem), w + r = 10 → (∀ b j, b < 121 ∨ 146 < b → μ1 b j = μ b j) → XP μ1 121 (hP (aH A)) P' → (∀ v, windP P' v = windP (aP A) v) → allN (fun i => minOk (tNum (aTray A t) i)) (tN (aTray A t)).toNat = true →
      WQ mX9_winds d sc (ZI sc (AX μ A (fun x => x = windsS A t p))) 122 [(2, 0), (9, 0), (0, p), (2, 175 + 2 * t), (0, bitsF (windsF A t p) w), (0, (w : Int))] [] μ1 := by
    intro r
    induction r with
    | zero =>
      intro w P' μ1 hw hf hX hm hall
      have h1 : RX μ1 A := h.trial2 (fun b j _ q => hf b j (by omega))
      refine s_X9_winds_122 hk ⟨fun _ => ⟨hS _ (by omega) ?_, h1, fun b j q => hf b j (by omega)⟩, fun q => by omega⟩
      rw [if_pos hall, show w = 10 by omega]
    | succ r ih =>
      intro w P' μ1 hw hf hX hm hall
      refine s_X9_winds_122 hk ⟨fun q => by omega, fun _ => ?_⟩
      intro μ2 e2
      have x2 : XP μ2 121 (hP (aH A)) (windP (aP A) w) := by rw [e2, ← hm]; exact hX.wind
      have f2 : ∀ b j, b < 121 ∨ 146 < b → μ2 b j = μ b j := fun b j q => by rw [e2, mup_ap, if_neg (fun y => by omega)]; exact hf b j q
      have h2 : RX μ2 A := h.trial2 (fun b j _ q => f2 b j (by omega))
      have hw2 : wfS (aH A) (windP (aP A) w) := hws.wind (if_pos ⟨by omega, by omega⟩)
      refine ca_trialDay hd h2.1 x2 hw2 ?_
      intro μ6 f6 D6
      have f6' : ∀ b j, b < 121 ∨ 146 < b → μ6 b j = μ b j := fun b j q => by rw [f6 b j (by omega)]; exact f2 b j q
      have x6 : XP μ6 121 (hP (aH A)) (windP (aP A) w) := x2.same (fun b j _ _ => f6 b j (by omega))
      have T6 : XT μ6 (175 + 2 * t) (aTray A t) := hxt.same (fun b j _ _ => f6' b j (by omega))
      have hlen : (dayOf (aH A) (windP (aP A) w)).length ≤ 500 := dh_len hw2.2.1
      refine byI (d' := 7) (by omega) (ct_isTimed k_135 hk ⟨hp0, by omega⟩ D6.1 (fun x hx => (dh_mem h6.2 hw2.2.1 hx).1.1) (by show (dayOf (aH A) (windP (aP A) w)).length ≤ 512; omega) T6 hT) ?_
      rintro y z0 ⟨hy1, hy2, ez⟩
      rw [ez]
      clear ez z0
      have hyF : y = 1 ↔ windsF A t p w = true := by rw [hy1]; exact timedB_iff.symm
      refine ⟨fun y0 => ⟨by omega, ?_⟩, fun y0 => ?_⟩
      · rintro _ rfl
        have := ih (w + 1) _ μ6 (by omega) f6' x6 (fun v => rfl) hall
        rw [bitsF, if_neg (fun y => by have := hyF.mpr y; omega), Int.add_zero] at this
        exact this
      · intro v hv
        refine ⟨by omega, ?_⟩
        rintro _ rfl
        have := ih (w + 1) _ μ6 (by omega) f6' x6 (fun v => rfl) hall
        rw [bitsF, if_pos (hyF.mp (by omega))] at this
        rw [hv, or_up10 (bitsF_b _ _) (by omega)]
        exact this
  have key : ∀ (r i : Nat), (i : Int) + r = tN (aTray A t) → allN (fun i => minOk (tNum (aTray A t) i)) i = true →
      WQ mX9_winds d sc (ZI sc (AX μ A (fun x => x = windsS A t p))) 58 [(2, 0), (9, 0), (0, p), (2, 175 + 2 * t), (0, (i : Int)), (9, 0)] [] μ := by
    intro r
    induction r with
    | zero =>
      intro i hi ha
      refine s_X9_winds_58 hk ⟨fun _ => ⟨h.1.now.1, ca_begin (by omega) h.1 ?_⟩, fun q => by rw [q2] at q; omega⟩
      intro μ4 f4 x4
      exact winds 10 0 (aP A) μ4 rfl (fun b j q => f4 b j (by omega)) x4 (fun _ => rfl) (by rw [show (tN (aTray A t)).toNat = i by omega]; exact ha)
    | succ r ih =>
      intro i hi ha
      have no : minOk (tNum (aTray A t) i) = false → AX μ A (fun x => x = windsS A t p) (-3) μ := fun e => by
        refine AX.here h (hS _ (by omega) ?_)
        have e1 : allN (fun i => minOk (tNum (aTray A t) i)) (i + 1) = false := by rw [allN, e, Bool.and_false]
        have := allN_f e1 r
        rw [show (tN (aTray A t)).toNat = i + 1 + r by omega, this, if_neg (by decide)]
      refine s_X9_winds_58 hk ⟨fun q => by rw [q2] at q; omega, fun _ => ⟨by omega, ?_⟩⟩
      rw [q6 i (by omega) (by omega)]
      refine ⟨fun v0 => no (decide_eq_false (by omega)), fun v0 => ⟨by omega, fun v1 => ⟨by omega, ?_⟩, fun v1 => no (decide_eq_false (by omega))⟩⟩
      rintro _ rfl
      refine ih (i + 1) (by omega) ?_
      rw [allN, ha, Bool.true_and]
      exact decide_eq_true ⟨v0, v1⟩
  exact key (tN (aTray A t)).toNat 0 (by omega) rfl
/-! trays -/
def setT (A : StT) (t : Int) (T : TrayT) : StT := (A.1, A.2.1, A.2.2.1, A.2.2.2.1, aImg A, fun i => if i = t then T else aTray A i)
theorem RX.putT {μ μ' : Mem} {A : StT} {t : Int} {T : TrayT} (h : RX μ A) (ht : 0 ≤ t ∧ t < 4) (hf : ∀ b j, b < 175 + 2 * t ∨ 175 + 2 * t + 1 < b → μ' b j = μ b j) (hT : XT μ' (175 + 2 * t) T) : RX μ' (setT A t T) := by
  obtain ⟨hc, k1, k2, k3⟩ := h
  have hn := hc.now
  obtain ⟨h1, h2, h3, h4, h5, h6, h7, h8, h9, h10, h11⟩ := hc
  have g : ∀ b j, b < 175 → μ' b j = μ b j := fun b j z => hf b j (by omega)
  have e2 : μ' 0 2 = μ 0 2 := g _ _ (by omega)
  refine ⟨⟨by rw [e2, g 0 3 (by omega)]; exact h1, by rw [g 0 1 (by omega)]; exact h2, fun i i0 i1 => by rw [g 1 i (by omega)]; exact h3 i i0 i1, by rw [g _ _ (by omega)]; exact h4, by rw [g _ _ (by omega)]; exact h5, ?_, ?_, ?_, ?_, ?_, h11⟩, ?_, ?_, ?_⟩
  · rw [e2]; exact h6.same (fun b j _ _ => g b j (by omega))
  · rw [e2]; exact h7.same (fun b j _ _ => g b j (by omega))
  · exact h8.same (fun b j _ _ => g b j (by omega))
  · intro i i0 i1
    obtain ⟨q1, q2, q3⟩ := h9 i i0 i1
    exact ⟨by rw [g _ _ (by omega)]; exact q1, by rw [g _ _ (by omega)]; exact q2, fun z => ⟨(q3 z).1.same (fun b j _ _ => g b j (by omega)), (q3 z).2.same (fun b j _ _ => g b j (by omega))⟩⟩
  · intro i i0 i1
    obtain ⟨q1, q2⟩ := h10 i i0 i1
    refine ⟨by rw [g _ _ (by omega)]; exact q1, ?_⟩
    by_cases z : i = t
    · have e : aTray (setT A t T) i = T := if_pos z
      rw [e, z]; exact hT
    · have e : aTray (setT A t T) i = aTray A i := if_neg z
      rw [e]; exact q2.same (fun b j _ _ => hf b j (by omega))
  · rw [g _ _ (by omega)]
    intro z
    have := k1 z
    exact ⟨by rw [e2]; exact this.1.same (fun b j q => g b j (by omega)), this.2.same (fun b j _ _ => g b j (by omega))⟩
  · rw [g _ _ (by omega)]
    intro z
    exact (k2 z).same (fun b j _ _ => g b j (by omega))
  · rw [g _ _ (by omega), g _ _ (by omega), g _ _ (by omega), g _ _ (by omega)]
    exact k3
def numbersS (t s n : Int) : Int := if (0 ≤ t ∧ t < 4) ∧ 0 ≤ s ∧ s ≤ 3 then (if 0 ≤ n ∧ n ≤ 40 then 0 else -3) else -2
def numbersA (A : StT) (t s n : Int) : StT := if ((0 ≤ t ∧ t < 4) ∧ 0 ≤ s ∧ s ≤ 3) ∧ 0 ≤ n ∧ n ≤ 40 then setT A t (1, s, n, fun _ => 0) else A
theorem cx_numbers {d : Nat} {sc : SC} {μ : Mem} {A : StT} {t s n : Int} (hd : 3 ≤ d) (h : RX μ A) : CTi mX9_numbers d sc [(2, 0), (0, t), (0, s), (0, n)] μ (AX μ (numbersA A t s n) (fun x => x = numbersS t s n)) := by
  refine CTi_of mp_X9_numbers (Nat.le_of_ble_eq_true rfl) ?_
  have bad : ¬ ((0 ≤ t ∧ t < 4) ∧ 0 ≤ s ∧ s ≤ 3) → AX μ (numbersA A t s n) (fun x => x = numbersS t s n) (-2) μ := fun z => AX.here (by unfold numbersA; rw [if_neg (fun y => z y.1)]; exact h) (if_neg z).symm
  refine s_X9_numbers_0 (ca_isTray (by omega) (fun z => ⟨fun _ => bad (fun y => z y.1), fun q => absurd rfl q⟩) (fun ht => ⟨fun q => absurd q (by decide), fun _ => ⟨fun z => bad (by omega), fun z => ⟨fun z2 => ?_, fun z2 => bad (by omega)⟩⟩⟩))
  have hin : (0 ≤ t ∧ t < 4) ∧ 0 ≤ s ∧ s ≤ 3 := ⟨ht, z, z2⟩
  have bad2 : ¬ (0 ≤ n ∧ n ≤ 40) → AX μ (numbersA A t s n) (fun x => x = numbersS t s n) (-3) μ := fun z => AX.here (by unfold numbersA; rw [if_neg (fun y => z y.2)]; exact h) (by show _ = _; unfold numbersS; rw [if_pos hin, if_neg z])
  have hk := k_tray ht
  rw [(h.1.tray t ht.1 ht.2).1]
  refine ⟨fun z3 => bad2 (by omega), fun z3 => ⟨fun z4 => ⟨ht, hk, byV (d' := 2) (by omega) (ct_lay (Nat.le_refl _) hk ⟨z, z2⟩ ⟨z3, z4⟩) ?_⟩, fun z4 => bad2 (by omega)⟩⟩
  rintro μ' ⟨f, T⟩
  refine ⟨?_, ?_, fun b j q => f b j (by omega)⟩
  · show _ = _
    unfold numbersS; rw [if_pos hin, if_pos ⟨z3, z4⟩]
  · unfold numbersA; rw [if_pos ⟨hin, z3, z4⟩]; exact h.putT ht f T
def putN (T : TrayT) (i v : Int) : TrayT := (1, tSort T, tN T, fun k => if k = i then v else tNum T k)
def writeS (A : StT) (t i v : Int) : Int := if 0 ≤ t ∧ t < 4 then (if tThere (aTray A t) = 0 then -6 else if 0 ≤ i ∧ i < tN (aTray A t) then cutS (tSort (aTray A t)) v else -7) else -2
def writeA (A : StT) (t i v : Int) : StT := if (0 ≤ t ∧ t < 4) ∧ tThere (aTray A t) ≠ 0 ∧ 0 ≤ i ∧ i < tN (aTray A t) then setT A t (putN (aTray A t) i (cutS (tSort (aTray A t)) v)) else A
theorem cx_write {d : Nat} {sc : SC} {μ : Mem} {A : StT} {t i v : Int} (hd : 1 ≤ d) (h : RX μ A) : CTl mX9_write d sc [(2, 0), (0, t), (0, i), (1, v)] μ (AX μ (writeA A t i v) (fun x => x = writeS A t i v)) := by
  refine CTl_of mp_X9_write (Nat.le_of_ble_eq_true rfl) ?_
  have hA : ¬ ((0 ≤ t ∧ t < 4) ∧ tThere (aTray A t) ≠ 0 ∧ 0 ≤ i ∧ i < tN (aTray A t)) → RX μ (writeA A t i v) := fun z => by unfold writeA; rw [if_neg z]; exact h
  refine s_X9_write_0 (ca_isTray (by omega) (fun z => ⟨fun q => absurd rfl q, fun _ => AX.here (hA (fun y => z y.1)) (if_neg z).symm⟩) (fun ht => ⟨fun _ => ?_, fun q => absurd q (by decide)⟩))
  have hk := k_tray ht
  have hxt := (h.1.tray t ht.1 ht.2).2
  obtain ⟨b1, b2⟩ := there_b h.1 ht
  rw [(h.1.tray t ht.1 ht.2).1, b1]
  refine ⟨ht, hk, fun z => ?_, fun z => AX.here (hA (fun y => y.2.1 z)) (by show _ = _; unfold writeS; rw [if_pos ht, if_pos z])⟩
  have hT : tThere (aTray A t) = 1 := by omega
  obtain ⟨q1, q2, q4, q5, q6⟩ := hxt.2.2 hT
  have bad : ¬ (0 ≤ i ∧ i < tN (aTray A t)) → AX μ (writeA A t i v) (fun x => x = writeS A t i v) (-7) μ := fun q => AX.here (hA (fun y => q y.2.2)) (by show _ = _; unfold writeS; rw [if_pos ht, if_neg z, if_neg q])
  rw [q2]
  refine ⟨fun z2 => bad (by omega), fun z2 => ⟨ht, fun z3 => ⟨ht, byL (d' := 0) (by omega) (ct_put hk hxt hT ⟨z2, z3⟩) ?_⟩, fun z3 => bad (by omega)⟩⟩
  rintro x μ' ⟨hx, hμ⟩
  have g : ∀ b j, b ≠ 175 + 2 * t + 1 → μ' b j = μ b j := fun b j y => by rw [hμ, mup_ap, if_neg (fun y2 => y y2.1)]
  refine ⟨?_, ?_, fun b j q => g b j (by omega)⟩
  · show _ = _
    unfold writeS; rw [if_pos ht, if_neg z, if_pos ⟨z2, z3⟩]; exact hx
  · unfold writeA; rw [if_pos ⟨ht, z, z2, z3⟩]
    refine h.putT ht (fun b j q => g b j (by omega)) ⟨by rw [g _ _ (by omega), b1, hT]; rfl, Or.inr rfl, fun _ => ⟨by rw [g _ _ (by omega)]; exact q1, by rw [g _ _ (by omega)]; exact q2, q4, q5, fun k k0 k1 => ?_⟩⟩
    rw [hμ, mup_ap]
    show _ = if k = i then cutS (tSort (aTray A t)) v else tNum (aTray A t) k
    by_cases y : k = i
    · rw [if_pos ⟨rfl, y⟩, if_pos y]; exact hx
    · rw [if_neg (fun y2 => y y2.2), if_neg y]; exact q6 k k0 k1
def listsN (A : StT) (t p : Int) : Int := min ((minsL (DH A) p).length : Int) (tN (aTray A t))
def listsS (A : StT) (t p : Int) : Int := if (0 ≤ t ∧ t < 4) ∧ ipS A p then (if tThere (aTray A t) = 0 then -6 else listsN A t p) else -2
def listsA (A : StT) (t p : Int) : StT := if ((0 ≤ t ∧ t < 4) ∧ ipS A p) ∧ tThere (aTray A t) ≠ 0 then setT A t (listS (aTray A t) (minsL (DH A) p) (listsN A t p)) else A
theorem cx_lists {d : Nat} {sc : SC} {μ : Mem} {A : StT} {t p : Int} (hd : 8 ≤ d) (h : RX μ A) : CTi mX9_lists d sc [(2, 0), (0, t), (0, p)] μ (AX μ (listsA A t p) (fun x => x = listsS A t p)) := by
  refine CTi_of mp_X9_lists (Nat.le_of_ble_eq_true rfl) ?_
  have hA : ¬ (((0 ≤ t ∧ t < 4) ∧ ipS A p) ∧ tThere (aTray A t) ≠ 0) → RX μ (listsA A t p) := fun z => by unfold listsA; rw [if_neg z]; exact h
  have bad : ¬ ((0 ≤ t ∧ t < 4) ∧ ipS A p) → AX μ (listsA A t p) (fun x => x = listsS A t p) (-2) μ := fun z => AX.here (hA (fun y => z y.1)) (if_neg z).symm
  refine s_X9_lists_0 (ca_isTray (by omega) (fun z => ⟨fun _ => bad (fun y => z y.1), fun q => absurd rfl q⟩) (fun ht => ⟨fun q => absurd q (by decide), fun _ => ?_⟩))
  refine ca_isPerson (by omega) h.1 (fun z => ⟨fun q => absurd rfl q, fun _ => bad (fun y => z y.2)⟩) (fun zp => ⟨fun _ => ?_, fun q => absurd q (by decide)⟩)
  have hk := k_tray ht
  obtain ⟨b1, b2⟩ := there_b h.1 ht
  have hin : (0 ≤ t ∧ t < 4) ∧ ipS A p := ⟨ht, zp⟩
  rw [(h.1.tray t ht.1 ht.2).1, b1]
  refine ⟨ht, hk, fun z => ca_know hd h (fun μ11 f11 r11 k11 => ⟨ht, ?_⟩), fun z => AX.here (hA (fun y => y.2 z)) (by show _ = _; unfold listsS; rw [if_pos hin, if_pos z])⟩
  have hT : tThere (aTray A t) = 1 := by omega
  have hxt := (r11.1.tray t ht.1 ht.2).2
  have hws := r11.1.wfs
  have hlen : (DH A).length ≤ 500 := dh_len hws.2.1
  rw [(r11.1.tray t ht.1 ht.2).1]
  refine byI (d' := 1) (by omega) (ct_listInto (Nat.le_refl _) k_105 hk k11.hr (fun x hx => ?_) (by omega) hxt hT) ?_
  · have := dh_mem r11.1.wfh.2.2.1.2 hws.2.1 hx
    exact ⟨this.1.1, this.2⟩
  · rintro x μ' ⟨rfl, f, T⟩
    refine ⟨?_, ?_, f11.x.tr (fun b j q => f b j (by omega))⟩
    · show _ = _
      unfold listsS; rw [if_pos hin, if_neg z]; rfl
    · unfold listsA; rw [if_pos ⟨hin, z⟩]; exact r11.putT ht f T
/-! images -/
def setI (A : StT) (i : Int) : StT := (A.1, A.2.1, A.2.2.1, A.2.2.2.1, (fun k => if k = i then (1, aH A, aP A) else aImg A k), aTray A)
def imageS (i : Int) : Int := if 0 ≤ i ∧ i < 2 then 0 else -2
def imageA (A : StT) (i : Int) : StT := if 0 ≤ i ∧ i < 2 then setI A i else A
theorem k_img {i : Int} (h : 0 ≤ i ∧ i < 2) : isK 1 (149 + 13 * i) := by
  have : i = 0 ∨ i = 1 := by omega
  rcases this with rfl | rfl
  · exact k_149
  · exact k_162
theorem cx_image {d : Nat} {sc : SC} {μ : Mem} {A : StT} {i : Int} (hd : 4 ≤ d) (h : RX μ A) : CTi mX9_image d sc [(2, 0), (0, i)] μ (AX μ (imageA A i) (fun x => x = imageS i)) := by
  have hn := h.1.now
  have h6 := h.1.wfh.2.2.1
  have hws := h.1.wfs
  refine CTi_of mp_X9_image (Nat.le_of_ble_eq_true rfl) ?_
  refine s_X9_image_0 (ca_isImage (by omega) (fun z => ⟨fun q => absurd rfl q, fun _ => AX.here (by unfold imageA; rw [if_neg z]; exact h) (if_neg z).symm⟩) (fun hi => ⟨fun _ => ?_, fun q => absurd q (by decide)⟩))
  have hk := k_img hi
  rw [(h.1.2.2.2.2.2.2.2.2.1 i hi.1 hi.2).1]
  refine ⟨hi, hk, byV (d' := 3) (by omega) (ct_copyHill (Nat.le_refl _) hk hn.1 (by omega)) ?_⟩
  rintro μ7 ⟨f7, cH, cP⟩
  have xH := cH _ h.1.xh h6.2
  have xP := cP _ _ h.1.xp (by have := hws.2.2.1; omega) h6.2
  refine ⟨hi, ?_⟩
  intro μ9 e9
  have g : ∀ b j, (b = 33 → j ≠ i) → b < 149 + 13 * i ∨ 149 + 13 * i + 12 < b → μ9 b j = μ b j := fun b j z1 z2 => by rw [e9, mup_ap, if_neg (fun y => z1 y.1 y.2), f7 b j z2]
  have g2 : ∀ b j, b ≠ 33 → μ9 b j = μ7 b j := fun b j z => by rw [e9, mup_ap, if_neg (fun y => z y.1)]
  refine ⟨(if_pos hi).symm, ?_, fun b j q => g b j (by omega) (by omega)⟩
  unfold imageA
  rw [if_pos hi]
  obtain ⟨⟨h1, h2, h3, h4, h5, h6', h7, h8, h9, h10, h11⟩, k1, k2, k3⟩ := h
  have e2 : μ9 0 2 = μ 0 2 := g _ _ (by omega) (by omega)
  have gl : ∀ b j, b < 149 → b ≠ 33 → μ9 b j = μ b j := fun b j z1 z2 => g b j (fun y => absurd y z2) (by omega)
  refine ⟨⟨by rw [e2, gl 0 3 (by omega) (by omega)]; exact h1, by rw [gl 0 1 (by omega) (by omega)]; exact h2, fun k i0 i1 => by rw [gl 1 k (by omega) (by omega)]; exact h3 k i0 i1, by rw [gl _ _ (by omega) (by omega)]; exact h4, by rw [gl _ _ (by omega) (by omega)]; exact h5, ?_, ?_, ?_, ?_, ?_, ?_⟩, ?_, ?_, ?_⟩
  · rw [e2]; exact h6'.same (fun b j _ _ => gl b j (by omega) (by omega))
  · rw [e2]; exact h7.same (fun b j _ _ => gl b j (by omega) (by omega))
  · exact h8.same (fun b j _ _ => gl b j (by omega) (by omega))
  · intro k k0 k1'
    obtain ⟨q1, q2, q3⟩ := h9 k k0 k1'
    refine ⟨by rw [gl _ _ (by omega) (by omega)]; exact q1, ?_⟩
    by_cases z : k = i
    · have e : aImg (setI A i) k = (1, aH A, aP A) := if_pos z
      rw [e, z]
      exact ⟨by rw [e9, mup_at], fun _ => ⟨xH.same (fun b j _ _ => g2 b j (by omega)), xP.same (fun b j _ _ => g2 b j (by omega))⟩⟩
    · have e : aImg (setI A i) k = aImg A k := if_neg z
      rw [e]
      exact ⟨by rw [g _ _ (fun _ => z) (by omega)]; exact q2, fun y => ⟨(q3 y).1.same (fun b j _ _ => g b j (by omega) (by omega)), (q3 y).2.same (fun b j _ _ => g b j (by omega) (by omega))⟩⟩
  · intro k k0 k1'
    obtain ⟨q1, q2⟩ := h10 k k0 k1'
    exact ⟨by rw [gl _ _ (by omega) (by omega)]; exact q1, q2.same (fun b j _ _ => g b j (by omega) (by omega))⟩
  · obtain ⟨w1, w2, w3, w4, w5, w6, w7⟩ := h11
    refine ⟨w1, w2, w3, w4, w5, w6, fun k k0 k1' => ?_⟩
    by_cases z : k = i
    · have e : aImg (setI A i) k = (1, aH A, aP A) := if_pos z
      rw [e]; exact ⟨Or.inr rfl, fun _ => ⟨w4, w5⟩⟩
    · have e : aImg (setI A i) k = aImg A k := if_neg z
      rw [e]; exact w7 k k0 k1'
  · rw [gl _ _ (by omega) (by omega)]
    intro z
    have := k1 z
    exact ⟨by rw [e2]; exact this.1.same (fun b j q => gl b j (by omega) (by omega)), this.2.same (fun b j _ _ => gl b j (by omega) (by omega))⟩
  · rw [gl _ _ (by omega) (by omega)]
    intro z
    exact (k2 z).same (fun b j _ _ => gl b j (by omega) (by omega))
  · rw [gl _ _ (by omega) (by omega), gl _ _ (by omega) (by omega), gl _ _ (by omega) (by omega), gl _ _ (by omega) (by omega)]
    exact k3
def setHP (A : StT) (H : HillT) (P : PlanT) : StT := (A.1, A.2.1, (H, P), [], A.2.2.2.2)
def restoreS (A : StT) (i : Int) : Int := if 0 ≤ i ∧ i < 2 then (if (aImg A i).1 = 0 then -5 else 0) else -2
def restoreA (A : StT) (i : Int) : StT := if (0 ≤ i ∧ i < 2) ∧ (aImg A i).1 ≠ 0 then setHP A (aImg A i).2.1 (aImg A i).2.2 else A
theorem cx_restore {d : Nat} {sc : SC} {μ : Mem} {A : StT} {i : Int} (hd : 4 ≤ d) (h : RX μ A) : CTi mX9_restore d sc [(2, 0), (0, i)] μ (AX μ (restoreA A i) (fun x => x = restoreS A i)) := by
  have hn := h.1.now
  refine CTi_of mp_X9_restore (Nat.le_of_ble_eq_true rfl) ?_
  have hA : ¬ ((0 ≤ i ∧ i < 2) ∧ (aImg A i).1 ≠ 0) → RX μ (restoreA A i) := fun z => by unfold restoreA; rw [if_neg z]; exact h
  refine s_X9_restore_0 (ca_isImage (by omega) (fun z => ⟨fun q => absurd rfl q, fun _ => AX.here (hA (fun y => z y.1)) (if_neg z).symm⟩) (fun hi => ⟨fun _ => ?_, fun q => absurd q (by decide)⟩))
  obtain ⟨q1, q2, q3⟩ := h.1.2.2.2.2.2.2.2.2.1 i hi.1 hi.2
  have hk := k_img hi
  have hw := h.1.wf.2.2.2.2.2.2 i hi.1 hi.2
  rw [q1, q2]
  refine ⟨hi, fun z => ⟨hi, hn.1, byV (d' := 3) (by omega) (ct_copyHill (Nat.le_refl _) hn.1 hk (by omega)) ?_⟩, fun z => AX.here (hA (fun y => y.2 z)) (by show _ = _; unfold restoreS; rw [if_pos hi, if_pos z])⟩
  rintro μ9 ⟨f9, cH, cP⟩
  have h1 : (aImg A i).1 = 1 := by omega
  have hw1 := hw.2 h1
  have xH := cH _ (q3 h1).1 hw1.1.2.2.1.2
  have xP := cP _ _ (q3 h1).2 (by have := hw1.2.2.2.1; omega) hw1.1.2.2.1.2
  refine byV (d' := 0) (by omega) (ct_forget (h.1.past.same (fun b j _ _ => f9 b j (by omega)))) ?_
  rintro μ11 ⟨f11, p11⟩
  refine byV (d' := 0) (by omega) ct_forgetA ?_
  rintro μ8 ⟨f8, k1, k2, k3⟩
  have fr : ∀ b j, (b = 0 → j ≠ 9) → (b = 34 → j ≠ 0) → (b < μ 0 2 ∨ μ 0 2 + 12 < b) → (b < 97 ∨ 148 < b) → μ8 b j = μ b j := fun b j z1 z2 z3 z4 => by rw [f8 b j z1 z4, f11 b j z2, f9 b j z3]
  refine ⟨by show _ = _; unfold restoreS; rw [if_pos hi, if_neg z], ?_, fun b j q => fr b j (by omega) (by omega) (by omega) (by omega)⟩
  unfold restoreA
  rw [if_pos ⟨hi, z⟩]
  refine RX.fresh ?_ k1 k2 k3
  obtain ⟨⟨h1', h2, h3, h4, h5, h6', h7, h8, h9, h10, h11⟩, _⟩ := h
  have e2 : μ8 0 2 = μ 0 2 := fr _ _ (by omega) (by omega) (by omega) (by omega)
  refine ⟨by rw [e2, fr 0 3 (by omega) (by omega) (by omega) (by omega)]; exact h1', by rw [fr 0 1 (by omega) (by omega) (by omega) (by omega)]; exact h2, fun k i0 i1 => by rw [fr 1 k (by omega) (by omega) (by omega) (by omega)]; exact h3 k i0 i1, by rw [fr _ _ (by omega) (by omega) (by omega) (by omega)]; exact h4, by rw [fr _ _ (by omega) (by omega) (by omega) (by omega)]; exact h5, ?_, ?_, ?_, ?_, ?_, ?_⟩
  · rw [e2]; exact xH.same (fun b j _ _ => by rw [f8 b j (by omega) (by omega), f11 b j (by omega)])
  · rw [e2]; exact xP.same (fun b j _ _ => by rw [f8 b j (by omega) (by omega), f11 b j (by omega)])
  · exact (p11 (hP (aImg A i).2.1)).same (fun b j _ _ => f8 b j (by omega) (by omega))
  · intro k k0 k1'
    obtain ⟨q1, q2, q3⟩ := h9 k k0 k1'
    exact ⟨by rw [fr _ _ (by omega) (by omega) (by omega) (by omega)]; exact q1, by rw [fr _ _ (by omega) (by omega) (by omega) (by omega)]; exact q2, fun y => ⟨(q3 y).1.same (fun b j _ _ => fr b j (by omega) (by omega) (by omega) (by omega)), (q3 y).2.same (fun b j _ _ => fr b j (by omega) (by omega) (by omega) (by omega))⟩⟩
  · intro k k0 k1'
    obtain ⟨q1, q2⟩ := h10 k k0 k1'
    exact ⟨by rw [fr _ _ (by omega) (by omega) (by omega) (by omega)]; exact q1, q2.same (fun b j _ _ => fr b j (by omega) (by omega) (by omega) (by omega))⟩
  · obtain ⟨w1, w2, w3, w4, w5, w6, w7⟩ := h11
    exact ⟨w1, w2, w3, hw1.1, hw1.2, fun P hP => absurd hP (by show ¬ P ∈ ([] : List PlanT); simp), w7⟩

/-! THE CLASS'S DEEDS: trays of them, weeks -/
def dayOf (H : HillT) (P : PlanT) : SayL := hicL (daySt (gapQ H P) (ansQ H P) P 100) 100
def tryD (H : HillT) (f : Int → Int) : Nat → Int → PlanT → Int × PlanT
  | 0, i, P => (i, P)
  | r + 1, i, P => if deedW H P (f i) = 0 then tryD H f r (i + 1) (deedP P (f i)) else (i, P)
def tryT (A : StT) (t : Int) : Int × PlanT := tryD (aH A) (tNum (aTray A t)) (tN (aTray A t)).toNat 0 (aP A)
theorem tryD_b {H : HillT} {f : Int → Int} : ∀ (r : Nat) (i : Int) (P : PlanT), wfS H P → (i ≤ (tryD H f r i P).1 ∧ (tryD H f r i P).1 ≤ i + r) ∧ wfS H (tryD H f r i P).2 := by
  intro r
  induction r with
  | zero => intro i P h; exact ⟨⟨Int.le_refl _, by show i ≤ i + ((0 : Nat) : Int); omega⟩, h⟩
  | succ r ih =>
    intro i P h
    rw [tryD]
    by_cases q : deedW H P (f i) = 0
    · rw [if_pos q]
      have := ih (i + 1) _ (h.deed q)
      exact ⟨⟨by omega, by omega⟩, this.2⟩
    · rw [if_neg q]
      exact ⟨⟨Int.le_refl _, by show i ≤ i + ((r + 1 : Nat) : Int); omega⟩, h⟩
theorem k_tray {t : Int} (h : 0 ≤ t ∧ t < 4) : isK 8 (175 + 2 * t) := by
  have : t = 0 ∨ t = 1 ∨ t = 2 ∨ t = 3 := by omega
  rcases this with rfl | rfl | rfl | rfl
  · exact k_175
  · exact k_177
  · exact k_179
  · exact k_181
theorem ca_tryDeeds {d : Nat} {sc : SC} {μ : Mem} {A : StT} {t : Int} {R : Int → Mem → Prop} (hd : 4 ≤ d) (h : RXc μ A) (ht : 0 ≤ t ∧ t < 4) (hT : tThere (aTray A t) = 1)
    (k : ∀ μ', (∀ b j, b < 121 ∨ 126 < b → μ' b j = μ b j) → XP μ' 121 (hP (aH A)) (tryT A t).2 → R (tryT A t).1 μ') : CAi mX9_tryDeeds d sc [(2, 0), (2, 175 + 2 * t)] μ R := by
  have hn := h.now
  have hws := h.wfs
  have hxt := (h.tray t ht.1 ht.2).2
  obtain ⟨_, _, q3⟩ := hxt
  obtain ⟨q1, q2, q4, q5, q6⟩ := q3 hT
  have hk := k_tray ht
  refine byI (d' := 3) (by omega) (Q := fun x μ' => x = (tryT A t).1 ∧ (∀ b j, b < 121 ∨ 126 < b → μ' b j = μ b j) ∧ XP μ' 121 (hP (aH A)) (tryT A t).2) ?_ (fun x μ' q => by rw [q.1]; exact k μ' q.2.1 q.2.2)
  refine CTi_of mp_X9_tryDeeds (Nat.le_of_ble_eq_true rfl) ?_
  refine s_X9_tryDeeds_0 hk ⟨hn.1, ca_begin (Nat.le_refl _) h ?_⟩
  intro μ3 f3 x3
  have key : ∀ (r : Nat) (i : Int) (P : PlanT) (μ1 : Mem), i + r = tN (aTray A t) → 0 ≤ i → wfS (aH A) P → (∀ b j, b < 121 ∨ 126 < b → μ1 b j = μ b j) → XP μ1 121 (hP (aH A)) P → tryT A t = tryD (aH A) (tNum (aTray A t)) r i P →
      WQ mX9_tryDeeds 3 sc (ZI sc (fun x μ' => x = (tryT A t).1 ∧ (∀ b j, b < 121 ∨ 126 < b → μ' b j = μ b j) ∧ XP μ' 121 (hP (aH A)) (tryT A t).2)) 16 [(2, 0), (2, 175 + 2 * t), (0, i)] [] μ1 := by
    intro r
    induction r with
    | zero =>
      intro i P μ1 hi hi0 hw hf hX he
      refine s_X9_tryDeeds_16 hk ⟨fun _ => ?_, fun z => ?_⟩
      · rw [he]; exact ⟨rfl, hf, hX⟩
      · rw [hf _ _ (by omega), q2] at z; omega
    | succ r ih =>
      intro i P μ1 hi hi0 hw hf hX he
      refine s_X9_tryDeeds_16 hk ⟨fun z => ?_, fun _ => ⟨by omega, ?_⟩⟩
      · rw [hf _ _ (by omega), q2] at z; omega
      · rw [hf _ _ (by omega), q6 i hi0 (by omega)]
        have hn0 := hw.2.1.1
        have h1 := h.same (ft_trial hf).c
        refine byI (d' := 2) (by omega) (ct_deed (Nat.le_refl _) h1 hX hn0) ?_
        rintro w μ4 ⟨rfl, f4, x4⟩
        rw [tryD] at he
        have F4 : ∀ b j, b < 121 ∨ 126 < b → μ4 b j = μ b j := fun b j q => by rw [f4 b j q]; exact hf b j q
        refine ⟨fun z => ?_, fun z => ⟨by omega, ?_⟩⟩
        · rw [if_neg z] at he x4
          rw [he]; exact ⟨rfl, F4, x4⟩
        · rintro _ rfl
          rw [if_pos z] at he x4
          exact ih (i + 1) _ μ4 (by omega) (by omega) (hw.deed z) F4 x4 he
  exact key (tN (aTray A t)).toNat 0 (aP A) μ3 (by omega) (Int.le_refl _) hws f3 x3 rfl
theorem there_b {μ : Mem} {A : StT} {t : Int} (h : RXc μ A) (ht : 0 ≤ t ∧ t < 4) : μ (175 + 2 * t) 0 = tThere (aTray A t) ∧ (tThere (aTray A t) = 0 ∨ tThere (aTray A t) = 1) := ⟨(h.tray t ht.1 ht.2).2.1, (h.tray t ht.1 ht.2).2.2.1⟩
def performS (A : StT) (t : Int) : Int := if 0 ≤ t ∧ t < 4 then (if tThere (aTray A t) = 0 then -6 else (tryT A t).1) else -2
def performA (A : StT) (t : Int) : StT := if (0 ≤ t ∧ t < 4) ∧ tThere (aTray A t) ≠ 0 ∧ 0 < (tryT A t).1 then accS A (tryT A t).2 else A
theorem cx_perform {d : Nat} {sc : SC} {μ : Mem} {A : StT} {t : Int} (hd : 5 ≤ d) (h : RX μ A) : CTi mX9_perform d sc [(2, 0), (0, t)] μ (AX μ (performA A t) (fun x => x = performS A t)) := by
  refine CTi_of mp_X9_perform (Nat.le_of_ble_eq_true rfl) ?_
  refine s_X9_perform_0 (ca_isTray (by omega) (fun z => ⟨fun q => absurd rfl q, fun _ => AX.here ?_ (if_neg z).symm⟩) (fun ht => ⟨fun _ => ?_, fun q => absurd q (by decide)⟩))
  · unfold performA; rw [if_neg (fun y => z y.1)]; exact h
  have e96 := (h.1.tray t ht.1 ht.2).1
  have hk := k_tray ht
  obtain ⟨b1, b2⟩ := there_b h.1 ht
  rw [e96, b1]
  refine ⟨ht, hk, fun z => ⟨ht, ?_⟩, fun z => AX.here ?_ ?_⟩
  · have hT : tThere (aTray A t) = 1 := by omega
    have hb := tryD_b (H := aH A) (f := tNum (aTray A t)) (tN (aTray A t)).toNat 0 (aP A) h.1.wfs
    refine ca_tryDeeds (by omega) h.1 ht hT ?_
    intro μ9 f9 x9
    have h9 := h.tr121 f9
    have F9 : FX μ μ9 := fun b j q => f9 b j (by omega)
    refine ⟨fun z2 => ⟨?_, ?_, F9⟩, fun z2 => ca_accept (by omega) h9.1 x9 hb.2 (fun μ8 r8 f8 _ => ⟨?_, ?_, F9.tr f8⟩)⟩
    · show _ = _
      unfold performS; rw [if_pos ht, if_neg z]
    · unfold performA; rw [if_neg (fun y => by have := y.2.2; omega)]; exact h9
    · show _ = _
      unfold performS; rw [if_pos ht, if_neg z]
    · unfold performA; rw [if_pos ⟨ht, z, z2⟩]; exact r8
  · unfold performA; rw [if_neg (fun y => y.2.1 z)]; exact h
  · show _ = _
    unfold performS; rw [if_pos ht, if_pos z]
def judgeS (A : StT) (t w : Int) : Int := if (0 ≤ t ∧ t < 4) ∧ 0 ≤ w ∧ w ≤ 3 then (if tThere (aTray A t) = 0 then -6 else if w = 0 then (if tN (aTray A t) ≤ (tryT A t).1 then -1 else (tryT A t).1) else if w = 1 then (if tN (aTray A t) ≤ (tryT A t).1 then 0 else deedW (aH A) (tryT A t).2 (tNum (aTray A t) (tryT A t).1)) else if w = 2 then (dayOf (aH A) (tryT A t).2).length else nobS (dayOf (aH A) (tryT A t).2) (hP (aH A))) else -2
/-- the laws of the trial are learned, its day goes -/
theorem ca_trialDay {d : Nat} {sc : SC} {μ : Mem} {A : StT} {P : PlanT} {R : Mem → Prop} (hd : 8 ≤ d) (h : RXc μ A) (hX : XP μ 121 (hP (aH A)) P) (hw : wfS (aH A) P)
    (k : ∀ μ', (∀ b j, b < 127 ∨ 146 < b → μ' b j = μ b j) → DayD μ' 135 (aH A) P P 100 → R μ') :
    CAv mX3_learn d sc [(2, 127), (2, μ 0 2), (2, 121)] μ (fun μ4 => CAi mX0_run d sc [(2, 135), (2, 121), (2, 127), (0, 99), (0, (-1))] μ4 (fun _ μ6 => R μ6)) := by
  have hn := h.now
  refine byV (d' := 5) (by omega) (ct_learn (Nat.le_refl _) k_127 hn.1 k_121 h.xh hX h.wfh hw.1) ?_
  rintro μ4 ⟨f4, L4⟩
  refine ca_day (by omega) k_135 k_121 L4 (hX.same (fun b j _ _ => f4 b j (by omega))).n hw.2.1 ?_
  intro μ6 f6 _ D6
  exact k μ6 (fun b j q => by rw [f6 b j (by omega) (by omega) (by omega) (by omega) (by omega), f4 b j (by omega)]) D6
theorem cx_judge {d : Nat} {sc : SC} {μ : Mem} {A : StT} {t w : Int} (hd : 8 ≤ d) (h : RX μ A) : CTi mX9_judge d sc [(2, 0), (0, t), (0, w)] μ (AX μ A (fun x => x = judgeS A t w)) := by
  have h6 := h.1.wfh.2.2.1
  refine CTi_of mp_X9_judge (Nat.le_of_ble_eq_true rfl) ?_
  have bad : ¬ ((0 ≤ t ∧ t < 4) ∧ 0 ≤ w ∧ w ≤ 3) → AX μ A (fun x => x = judgeS A t w) (-2) μ := fun z => AX.here h (if_neg z).symm
  refine s_X9_judge_0 (ca_isTray (by omega) (fun z => ⟨fun _ => bad (fun y => z y.1), fun q => absurd rfl q⟩) (fun ht => ⟨fun q => absurd q (by decide), fun _ => ⟨fun z => bad (fun y => by omega), fun zw => ⟨fun zw2 => ?_, fun z => bad (fun y => by omega)⟩⟩⟩))
  have e96 := (h.1.tray t ht.1 ht.2).1
  have hk := k_tray ht
  obtain ⟨b1, b2⟩ := there_b h.1 ht
  rw [e96, b1]
  have hin : (0 ≤ t ∧ t < 4) ∧ 0 ≤ w ∧ w ≤ 3 := ⟨ht, zw, zw2⟩
  refine ⟨ht, hk, fun z => ?_, fun z => AX.here h ?_⟩
  · have hT : tThere (aTray A t) = 1 := by omega
    have hxt := (h.1.tray t ht.1 ht.2).2
    obtain ⟨_, _, q3⟩ := hxt
    obtain ⟨q1, q2, q4, q5, q6⟩ := q3 hT
    have hb := tryD_b (H := aH A) (f := tNum (aTray A t)) (tN (aTray A t)).toNat 0 (aP A) h.1.wfs
    have hb1 : 0 ≤ (tryT A t).1 ∧ (tryT A t).1 ≤ 0 + ((tN (aTray A t)).toNat : Int) := hb.1
    have hb2 : wfS (aH A) (tryT A t).2 := hb.2
    refine ca_tryDeeds (by omega) h.1 ht hT ?_
    intro μ9 f9 x9
    have h9 := h.tr121 f9
    have F9 : FX μ μ9 := fun b j q => f9 b j (by omega)
    rw [f9 _ _ (by omega), q2]
    have fin : ∀ y : Int, (y = if tN (aTray A t) ≤ (tryT A t).1 then 1 else 0) → WQ mX9_judge d sc (ZI sc (AX μ A (fun x => x = judgeS A t w))) 57 [(2, 0), (9, 0), (0, w), (2, 175 + 2 * t), (0, (tryT A t).1), (9, 0)] [(0, y)] μ9 := by
      intro y hy
      refine s_X9_judge_57 hk ⟨fun w0 => ⟨fun w1 => ?_, fun w1 => ⟨fun y0 => ?_, fun y0 => ⟨?_, h9, F9⟩⟩⟩, fun w0 => ⟨fun y0 => ⟨?_, h9, F9⟩, fun y0 => ⟨?_, h9, F9⟩⟩⟩
      · refine ca_trialDay hd h9.1 x9 hb2 ?_
        intro μ6 f6 D6
        have h6' : RX μ6 A := h9.trial2 (fun b j _ q => f6 b j (by omega))
        have F6 : FX μ μ6 := F9.tr (fun b j q => f6 b j (by omega))
        refine ⟨fun w2 => ⟨h6'.1.now.1, ?_⟩, fun w2 => ⟨?_, h6', F6⟩⟩
        · rw [h6'.1.np]
          refine byI (d' := 7) (by omega) (ct_nobodies k_135 D6.1 h6) ?_
          rintro x _ ⟨rfl, rfl⟩
          refine ⟨?_, h6', F6⟩
          show _ = _
          unfold judgeS; rw [if_pos hin, if_neg z, if_neg w0, if_neg w1, if_neg w2]; rfl
        · show _ = _
          unfold judgeS; rw [if_pos hin, if_neg z, if_neg w0, if_neg w1, if_pos w2]; exact D6.1.1
      · have hlt : ¬ tN (aTray A t) ≤ (tryT A t).1 := fun q => by rw [if_pos q] at hy; omega
        refine ⟨by omega, ?_⟩
        rw [f9 _ _ (by omega), q6 _ (by omega) (by omega)]
        refine byI (d' := 2) (by omega) (ct_deed (Nat.le_refl _) h9.1 x9 hb2.2.1.1) ?_
        rintro x μ14 ⟨rfl, f14, x14⟩
        refine ⟨?_, h9.tr121 f14, F9.tr (fun b j q => f14 b j (by omega))⟩
        show _ = _
        unfold judgeS; rw [if_pos hin, if_neg z, if_neg w0, if_pos w1, if_neg hlt]
      · have hlt : tN (aTray A t) ≤ (tryT A t).1 := Decidable.of_not_not (fun q => by rw [if_neg q] at hy; exact y0 hy)
        show _ = _
        unfold judgeS; rw [if_pos hin, if_neg z, if_neg w0, if_pos w1, if_pos hlt]
      · have hlt : ¬ tN (aTray A t) ≤ (tryT A t).1 := fun q => by rw [if_pos q] at hy; omega
        show _ = _
        unfold judgeS; rw [if_pos hin, if_neg z, if_pos w0, if_neg hlt]
      · have hlt : tN (aTray A t) ≤ (tryT A t).1 := Decidable.of_not_not (fun q => by rw [if_neg q] at hy; exact y0 hy)
        show _ = _
        unfold judgeS; rw [if_pos hin, if_neg z, if_pos w0, if_pos hlt]
    exact ⟨fun q => fin 0 (by rw [if_neg (by omega)]), fun q => fin 1 (by rw [if_pos q])⟩
  · show _ = _
    unfold judgeS; rw [if_pos hin, if_pos z]
/-! draws -/
theorem ushr16 (x : Int) : 0 ≤ iUshr x 16 ∧ iUshr x 16 < 65536 := by
  unfold iUshr
  generalize (Int32.ofInt x).toUInt32 = u
  have e : ((Int32.ofInt 16).toUInt32 &&& Int32.toUInt32 31) = 16 := by decide
  rw [e]
  have h1 : (u >>> 16).toNat = u.toNat / 65536 := by rw [UInt32.toNat_shiftRight]; simp [Nat.shiftRight_eq_div_pow]
  have h2 : (u >>> 16).toNat < 65536 := by have := u.toNat_lt; omega
  have h3 : (u >>> 16).toInt32.toInt = ((u >>> 16).toNat : Int) := by
    show (u >>> 16).toBitVec.toInt = _
    rw [BitVec.toInt_eq_toNat_of_lt (by show 2 * (u >>> 16).toNat < _; omega)]; rfl
  omega
def lcg (x : Int) : Int := w32 (w32 (1103515245 * x) + 12345)
def drawS (x n : Int) : Int := iUshr (lcg x) 16 % n
def drawnS (x : Int) : Int × Int :=
  if drawS x 5 = 2 then (lcg (lcg x), 8000 + drawS (lcg x) 8)
  else if drawS x 5 = 3 then (lcg (lcg (lcg x)), 8100 + 100 * drawS (lcg x) 6 + drawS (lcg (lcg x)) 64)
  else if drawS x 5 = 4 then (lcg (lcg x), 9000 + drawS (lcg x) 10)
  else (lcg (lcg (lcg (lcg x))), 1000 * drawS (lcg x) 6 + 100 * drawS (lcg (lcg x)) 6 + drawS (lcg (lcg (lcg x))) 100)
theorem drawS_b (x : Int) {n : Int} (hn : 0 < n) : 0 ≤ drawS x n ∧ drawS x n < n := by
  unfold drawS
  exact ⟨Int.emod_nonneg _ (by omega), Int.emod_lt_of_pos _ hn⟩
theorem ca_draw {d : Nat} {sc : SC} {μ : Mem} {n : Int} {R : Int → Mem → Prop} (hd : 1 ≤ d) (hn : 0 < n) (k : R (drawS (μ 0 19) n) (mup μ 0 19 (lcg (μ 0 19)))) : CAi mX9_draw d sc [(2, 0), (0, n)] μ R := by
  refine byI (d' := 0) (by omega) (Q := R) ?_ (fun _ _ z => z)
  refine CTi_of mp_X9_draw (Nat.le_of_ble_eq_true rfl) ?_
  refine s_X9_draw_0 ?_
  intro μ1 e1
  have e : μ1 0 19 = lcg (μ 0 19) := by rw [e1, mup_ap, if_pos ⟨rfl, rfl⟩]; rfl
  rw [e]
  refine ⟨⟨(ushr16 _).1, hn⟩, ?_⟩
  rw [e1]
  exact k
theorem mup2 (μ : Mem) (b j v w : Int) : mup (mup μ b j v) b j w = mup μ b j w := by
  funext c i
  rw [mup_ap, mup_ap, mup_ap]
  split <;> rfl
theorem mup_at (μ : Mem) (b j v : Int) : mup μ b j v b j = v := by rw [mup_ap, if_pos ⟨rfl, rfl⟩]
theorem ca_drawDeed {d : Nat} {sc : SC} {μ : Mem} {R : Int → Mem → Prop} (hd : 2 ≤ d) (k : R (drawnS (μ 0 19)).2 (mup μ 0 19 (drawnS (μ 0 19)).1)) : CAi mX9_drawDeed d sc [(2, 0)] μ R := by
  refine byI (d' := 1) (by omega) (Q := R) ?_ (fun _ _ z => z)
  refine CTi_of mp_X9_drawDeed (Nat.le_of_ble_eq_true rfl) ?_
  refine s_X9_drawDeed_0 (ca_draw (Nat.le_refl _) (by decide) ?_)
  generalize μ 0 19 = x at *
  have b5 := drawS_b x (n := 5) (by decide)
  refine ⟨fun z => ca_draw (Nat.le_refl _) (by decide) ?_, fun z => ca_draw (Nat.le_refl _) (by decide) ?_, fun z => ca_draw (Nat.le_refl _) (by decide) ?_, fun z => ca_draw (Nat.le_refl _) (by decide) ?_⟩
  · rw [mup_at, mup2]
    have e : drawnS x = (lcg (lcg x), 8000 + drawS (lcg x) 8) := by unfold drawnS; rw [if_pos z]
    rw [e] at k
    have := drawS_b (lcg x) (n := 8) (by decide)
    exact ⟨by omega, k⟩
  · rw [mup_at, mup2]
    have e : drawnS x = (lcg (lcg (lcg x)), 8100 + 100 * drawS (lcg x) 6 + drawS (lcg (lcg x)) 64) := by unfold drawnS; rw [if_neg (by omega), if_pos z]
    rw [e] at k
    have b1 := drawS_b (lcg x) (n := 6) (by decide)
    have b2 := drawS_b (lcg (lcg x)) (n := 64) (by decide)
    refine ⟨by omega, by omega, ca_draw (Nat.le_refl _) (by decide) ?_⟩
    rw [mup_at, mup2]
    exact ⟨by omega, k⟩
  · rw [mup_at, mup2]
    have e : drawnS x = (lcg (lcg x), 9000 + drawS (lcg x) 10) := by unfold drawnS; rw [if_neg (by omega), if_neg (by omega), if_pos z]
    rw [e] at k
    have := drawS_b (lcg x) (n := 10) (by decide)
    exact ⟨by omega, k⟩
  · rw [mup_at, mup2]
    have e : drawnS x = (lcg (lcg (lcg (lcg x))), 1000 * drawS (lcg x) 6 + 100 * drawS (lcg (lcg x)) 6 + drawS (lcg (lcg (lcg x))) 100) := by unfold drawnS; rw [if_neg z.1, if_neg z.2.1, if_neg z.2.2]
    rw [e] at k
    have b1 := drawS_b (lcg x) (n := 6) (by decide)
    have b2 := drawS_b (lcg (lcg x)) (n := 6) (by decide)
    have b3 := drawS_b (lcg (lcg (lcg x))) (n := 100) (by decide)
    refine ⟨by omega, ca_draw (Nat.le_refl _) (by decide) ?_⟩
    rw [mup_at, mup2]
    refine ⟨by omega, by omega, ca_draw (Nat.le_refl _) (by decide) ?_⟩
    rw [mup_at, mup2]
    dsimp only at k
    exact ⟨by omega, k⟩
def weekN (H : HillT) : Nat → Int → PlanT → Int → Int × PlanT
  | 0, _, P, n => (n, P)
  | r + 1, x, P, n => if deedW H P (drawnS x).2 = 0 then weekN H r (drawnS x).1 (deedP P (drawnS x).2) (n + 1) else weekN H r (drawnS x).1 P n
def weekS (A : StT) (s n : Int) : Int := if 1 ≤ n ∧ n ≤ 40 then (weekN (aH A) n.toNat s (aP A) 0).1 else -3
def weekA (A : StT) (s n : Int) : StT := if (1 ≤ n ∧ n ≤ 40) ∧ 0 < (weekN (aH A) n.toNat s (aP A) 0).1 then accS A (weekN (aH A) n.toNat s (aP A) 0).2 else A
theorem RX.tr19 {μ μ' : Mem} {A : StT} (h : RX μ A) (hf : ∀ b j, (b = 0 → j ≠ 19) → b < 121 ∨ 126 < b → μ' b j = μ b j) : RX μ' A := h.trial2 (fun b j q1 q => hf b j q1 (by omega))
theorem cx_week {d : Nat} {sc : SC} {μ : Mem} {A : StT} {s n : Int} (hd : 5 ≤ d) (h : RX μ A) : CTi mX9_week d sc [(2, 0), (0, s), (0, n)] μ (AX μ (weekA A s n) (fun x => x = weekS A s n)) := by
  have bad : ¬ (1 ≤ n ∧ n ≤ 40) → AX μ (weekA A s n) (fun x => x = weekS A s n) (-3) μ := fun z => AX.here (by unfold weekA; rw [if_neg (fun y => z y.1)]; exact h) (if_neg z).symm
  refine CTi_of mp_X9_week (Nat.le_of_ble_eq_true rfl) ?_
  refine s_X9_week_0 ⟨fun z => bad (by omega), fun z => ⟨fun z2 => ?_, fun z2 => bad (by omega)⟩⟩
  intro μ3 e3
  have g3 : ∀ b j, (b = 0 → j ≠ 19) → μ3 b j = μ b j := fun b j q => by rw [e3, mup_ap, if_neg (fun y => q y.1 y.2)]
  have h3 : RX μ3 A := h.tr19 (fun b j q _ => g3 b j q)
  have hin : 1 ≤ n ∧ n ≤ 40 := ⟨z, z2⟩
  refine ⟨h3.1.now.1, ca_begin (by omega) h3.1 ?_⟩
  intro μ6 f6 x6
  generalize hG : weekN (aH A) n.toNat s (aP A) 0 = G at *
  have key : ∀ (r : Nat) (i c : Int) (P : PlanT) (μ1 : Mem), i + r = n → 0 ≤ i → 0 ≤ c → c ≤ i → wfS (aH A) P → (∀ b j, (b = 0 → j ≠ 19) → b < 121 ∨ 126 < b → μ1 b j = μ b j) → XP μ1 121 (hP (aH A)) P → weekN (aH A) r (μ1 0 19) P c = G →
      WQ mX9_week d sc (ZI sc (AX μ (weekA A s n) (fun x => x = weekS A s n))) 38 [(2, 0), (9, 0), (0, n), (0, c), (0, i)] [] μ1 := by
    intro r
    induction r with
    | zero =>
      intro i c P μ1 hi hi0 hc hci hw hf hX he
      have h1 := h.tr19 hf
      have F1 : FX μ μ1 := fun b j q => hf b j (by omega) (by omega)
      rw [weekN] at he
      refine s_X9_week_38 ⟨fun _ => ⟨fun z3 => ⟨?_, ?_, F1⟩, fun z3 => ?_⟩, fun z3 => by omega⟩
      · show _ = _
        unfold weekS; rw [if_pos hin, hG, ← he]
      · unfold weekA; rw [if_neg (fun y => by have := y.2; rw [hG, ← he] at this; have : 0 < c := this; omega)]; exact h1
      · refine ca_accept (by omega) h1.1 hX hw ?_
        intro μ8 r8 f8 _
        refine ⟨?_, ?_, F1.tr f8⟩
        · show _ = _
          unfold weekS; rw [if_pos hin, hG, ← he]
        · unfold weekA; rw [if_pos ⟨hin, by rw [hG, ← he]; exact z3⟩, hG, ← he]; exact r8
    | succ r ih =>
      intro i c P μ1 hi hi0 hc hci hw hf hX he
      refine s_X9_week_38 ⟨fun z3 => by omega, fun _ => ca_drawDeed (by omega) ?_⟩
      have g6 : ∀ b j, (b = 0 → j ≠ 19) → mup μ1 0 19 (drawnS (μ1 0 19)).1 b j = μ1 b j := fun b j q => by rw [mup_ap, if_neg (fun y => q y.1 y.2)]
      have a6 := mup_at μ1 0 19 (drawnS (μ1 0 19)).1
      generalize mup μ1 0 19 (drawnS (μ1 0 19)).1 = μ5 at *
      have hf5 : ∀ b j, (b = 0 → j ≠ 19) → b < 121 ∨ 126 < b → μ5 b j = μ b j := fun b j q1 q2 => by rw [g6 b j q1]; exact hf b j q1 q2
      have h5 := h.tr19 hf5
      refine byI (d' := 2) (by omega) (ct_deed (Nat.le_refl _) h5.1 (hX.same (fun b j _ _ => g6 b j (by omega))) hw.2.1.1) ?_
      rintro w μ8 ⟨rfl, f8, x8⟩
      have F8 : ∀ b j, (b = 0 → j ≠ 19) → b < 121 ∨ 126 < b → μ8 b j = μ b j := fun b j q1 q2 => by rw [f8 b j q2]; exact hf5 b j q1 q2
      have e8 : μ8 0 19 = (drawnS (μ1 0 19)).1 := by rw [f8 _ _ (by omega), a6]
      rw [weekN] at he
      refine ⟨fun z3 => ⟨by omega, ?_⟩, fun z3 => ⟨by omega, ?_⟩⟩
      · rintro _ rfl
        rw [if_neg z3] at he x8
        exact ih (i + 1) c P μ8 (by omega) (by omega) hc (by omega) hw F8 x8 (by rw [e8]; exact he)
      · rintro _ rfl
        refine ⟨by omega, ?_⟩
        rintro _ rfl
        rw [if_pos z3] at he x8
        exact ih (i + 1) (c + 1) _ μ8 (by omega) (by omega) (by omega) (by omega) (hw.deed z3) F8 x8 (by rw [e8]; exact he)
  refine key n.toNat 0 0 (aP A) μ6 (by omega) (Int.le_refl _) (Int.le_refl _) (Int.le_refl _) h.1.wfs (fun b j q1 q2 => by rw [f6 b j q2, g3 b j q1]) x6 ?_
  rw [f6 _ _ (by omega), e3, mup_at]
  exact hG

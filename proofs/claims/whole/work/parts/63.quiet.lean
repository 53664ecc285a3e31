/-! THE CLASS ASKED OTHERWISE: silence -/
theorem ct_seekOneN {d : Nat} {sc : SC} {μ : Mem} (h : μ 120 1 ≠ -1) : CTv mX2_seekOne d sc [(2, 120)] μ (fun μ' => μ' = μ) := by
  refine CTv_of mp_X2_seekOne (Nat.le_of_ble_eq_true rfl) ?_
  exact s_X2_seekOne_0 (s_X2_seekOne_2 ⟨fun _ => rfl, fun _ => ⟨fun _ => rfl, fun z => absurd z h⟩⟩)
theorem ct_seekTwoN {d : Nat} {sc : SC} {μ : Mem} (h : μ 120 1 ≠ -1) : CTv mX2_seekTwo d sc [(2, 120)] μ (fun μ' => μ' = μ) := by
  refine CTv_of mp_X2_seekTwo (Nat.le_of_ble_eq_true rfl) ?_
  exact s_X2_seekTwo_0 (s_X2_seekTwo_2 ⟨fun _ => rfl, fun _ => ⟨fun _ => rfl, fun z => absurd z h⟩⟩)
/-- all of it, for one person -/
theorem ca_seek {d : Nat} {sc : SC} {μ : Mem} {p h : Int} {H : HillT} {P : PlanT} {R : Mem → Prop} (hd : 9 ≤ d) (hL : LRep μ 97 h (h + 7) H P) (hw : wfNp (hP H) P) (hn : pN P ≤ 8) (hp : 0 ≤ p ∧ p < hP H)
    (k : ∀ μ', FRh μ μ' → LRep μ' 97 h (h + 7) H P → μ' 120 0 = p → SilR H P p (μ' 120 1) (μ' 120 2) (μ' 120 3) → R μ') :
    CAv mX2_start d sc [(2, 120), (0, p), (2, h), (2, 97), (2, 121), (2, 135)] μ (fun μ12 => CAv mX2_seekOne d sc [(2, 120)] μ12 (fun μ14 => CAv mX2_seekTwo d sc [(2, 120)] μ14 R)) := by
  refine byV (d' := 8) (by omega) (ct_hstart (by omega) hL hw) ?_
  rintro μ12 ⟨f12, last, hS, hE, ho, hl, h2, h3, hc⟩
  have hS0 : μ12 120 0 = p := hS.1
  have hLR : LRep μ12 97 h (h + 7) H P := hS.2.2.2.2.2.2.2
  rcases hc with ⟨c1, c2⟩ | ⟨c1, c2, u, u1, u2, u3⟩
  · refine byV (d' := 8) (by omega) (ct_seekOneN (by omega)) ?_
    rintro _ rfl
    refine byV (d' := 8) (by omega) (ct_seekTwoN (by omega)) ?_
    rintro _ rfl
    exact k _ f12 hLR hS0 (Or.inl ⟨c1, c2, h2, h3⟩)
  · refine byV (d' := 8) (by omega) (ct_seekOne (Nat.le_refl _) hw hn hp ⟨FRh.refl _, hS, h3, rfl⟩ hE ho hl c2 h2 u3 u2 u1) ?_
    rintro μ14 ⟨⟨f14, hS14, h314, h1014⟩, hE14, hc14⟩
    have hLR14 : LRep μ14 97 h (h + 7) H P := hS14.2.2.2.2.2.2.2
    rcases hc14 with ⟨a, a1, a2, a3, a4, a5, a6⟩ | ⟨a1, a2, a3⟩
    · refine byV (d' := 8) (by omega) (ct_seekTwoN (by omega)) ?_
      rintro _ rfl
      refine k _ (f12.tr f14) hLR14 hS14.1 (Or.inr (Or.inl ⟨c1, a, a1, a2, a3, a4, a5, a6, h314⟩))
    · refine byV (d' := 8) (by omega) (ct_seekTwo (Nat.le_refl _) hw hn hp ⟨FRh.refl _, hS14, h314, rfl⟩ hE14 ho hl a2 a3 (h1014.trans u3) u2 u1 a1) ?_
      rintro μ16 ⟨f16, L16, p16, hc16⟩
      refine k μ16 ((f12.tr f14).tr f16) L16 p16 ?_
      rcases hc16 with ⟨x, y, b1, b2, b3, b4, b5, b6, b7, b8⟩ | ⟨b1, b2, b3, b4⟩
      · exact Or.inr (Or.inr (Or.inl ⟨c1, a1, x, y, b1, b2, b3, b4, b5, b6, b7, b8⟩))
      · exact Or.inr (Or.inr (Or.inr ⟨c1, a1, fun c e q1 q2 q3 => b1 c e q1 q2 q3 (by omega), b2, b3, b4⟩))
def silenceR (A : StT) (p w x : Int) : Prop := if ipS A p ∧ 0 ≤ w ∧ w ≤ 2 then ∃ f y z, SilR (aH A) (aP A) p f y z ∧ x = (if w = 0 then f else if w = 1 then y else z) else x = -2
theorem silenceR.one {A : StT} {p w x y : Int} (h : silenceR A p w x) (h' : silenceR A p w y) : x = y := by
  unfold silenceR at h h'
  by_cases q : ipS A p ∧ 0 ≤ w ∧ w ≤ 2
  · rw [if_pos q] at h h'
    obtain ⟨f, a, b, h1, h2⟩ := h
    obtain ⟨f', a', b', h1', h2'⟩ := h'
    obtain ⟨e1, e2, e3⟩ := h1.one h1'
    rw [h2, h2', e1, e2, e3]
  · rw [if_neg q] at h h'
    rw [h, h']
theorem cx_silence {d : Nat} {sc : SC} {μ : Mem} {A : StT} {p w : Int} (hd : 9 ≤ d) (h : RX μ A) : CTi mX9_silence d sc [(2, 0), (0, p), (0, w)] μ (AX μ A (silenceR A p w)) := by
  refine CTi_of mp_X9_silence (Nat.le_of_ble_eq_true rfl) ?_
  have bad : ¬ (ipS A p ∧ 0 ≤ w ∧ w ≤ 2) → AX μ A (silenceR A p w) (-2) μ := fun z => AX.here h (by unfold silenceR; rw [if_neg z])
  refine s_X9_silence_0 (ca_isPerson (by omega) h.1 (fun zp => ⟨fun _ => bad (fun y => zp y.1), fun q => absurd rfl q⟩) (fun zp => ⟨fun q => absurd q (by decide), fun _ => ⟨fun z => bad (fun y => by omega), fun z => ⟨fun z2 => ?_, fun z => bad (fun y => by omega)⟩⟩⟩))
  refine ca_know (by omega) h (fun μ7 f7 r7 k7 => ?_)
  have hin : ipS A p ∧ 0 ≤ w ∧ w ≤ 2 := ⟨zp, z, z2⟩
  have fin : ∀ μ9 : Mem, RX μ9 A → FX μ μ9 → SilR (aH A) (aP A) p (μ9 120 1) (μ9 120 2) (μ9 120 3) → (w ≠ 0 → (w ≠ 1 → AX μ A (silenceR A p w) (μ9 120 3) μ9) ∧ (w = 1 → AX μ A (silenceR A p w) (μ9 120 2) μ9)) ∧ (w = 0 → AX μ A (silenceR A p w) (μ9 120 1) μ9) := by
    intro μ9 r9 f9 s9
    refine ⟨fun w0 => ⟨fun w1 => ⟨?_, r9, f9⟩, fun w1 => ⟨?_, r9, f9⟩⟩, fun w0 => ⟨?_, r9, f9⟩⟩
    · unfold silenceR; rw [if_pos hin]; exact ⟨_, _, _, s9, by rw [if_neg w0, if_neg w1]⟩
    · unfold silenceR; rw [if_pos hin]; exact ⟨_, _, _, s9, by rw [if_neg w0, if_pos w1]⟩
    · unfold silenceR; rw [if_pos hin]; exact ⟨_, _, _, s9, by rw [if_pos w0]⟩
  have hws := r7.1.wfs
  refine ⟨fun q => fin μ7 r7 f7.x ?_, fun q => ca_seek hd k7.1 hws.2.1 hws.2.2.1 zp ?_⟩
  · have := r7.2.2.2 (by rw [q]; have := zp.1; omega)
    rw [q] at this
    exact this
  · intro μ16 f16 L16 p16 s16
    have F16 : FC μ7 μ16 := fun b j q1 q2 => f16 b j (by omega) (by omega) (by omega)
    have e2 : μ16 0 2 = μ7 0 2 := f16 _ _ (by omega) (by omega) (by omega)
    refine fin μ16 ⟨r7.1.same F16, fun _ => ⟨by rw [e2]; exact L16, k7.2.same (fun b j _ _ => f16 b j (by omega) (by omega) (by omega))⟩, fun q3 => ?_, fun _ => by rw [p16]; exact s16⟩ (f7.x.tr F16.x) s16
    have g : ∀ b j, 117 ≤ b → b ≤ 119 → μ16 b j = μ7 b j := fun b j _ _ => f16 b j (by omega) (by omega) (by omega)
    rw [g _ _ (by omega) (by omega)] at q3
    exact (r7.2.2.1 q3).same g
/-! quiet -/
theorem moveC_two (P : PlanT) (p a b : Int) : moveC (moveC P p a) p b = moveC P p b := by
  unfold moveC
  refine congrArg (fun f => (pN P, pWho P, pWhom P, pAt P, pSure P, f, pWind P)) ?_
  funext q
  show (if q = p then b else if q = p then a else pCell P q) = if q = p then b else pCell P q
  split <;> rfl
def quietF (A : StT) (p c : Int) : Int := hicN (dayOf (aH A) (moveC (aP A) p c)) p
def quietN (A : StT) (p : Int) : Nat → Int × Int
  | 0 => (0, quietF A p 0)
  | n + 1 => if quietF A p ((n + 1 : Nat) : Int) < (quietN A p n).2 then (((n + 1 : Nat) : Int), quietF A p ((n + 1 : Nat) : Int)) else quietN A p n
def quietS (A : StT) (p w : Int) : Int := if ipS A p ∧ 0 ≤ w ∧ w ≤ 1 then (if w = 0 then (quietN A p (hR (aH A) * hC (aH A) - 1).toNat).1 else (quietN A p (hR (aH A) * hC (aH A) - 1).toNat).2) else -2
theorem cx_quiet {d : Nat} {sc : SC} {μ : Mem} {A : StT} {p w : Int} (hd : 8 ≤ d) (h : RX μ A) : CTi mX9_quiet d sc [(2, 0), (0, p), (0, w)] μ (AX μ A (fun x => x = quietS A p w)) := by
  have hws := h.1.wfs
  have h6 := h.1.wfh.2.2.1
  have hcb := cells_b h.1.wfh
  refine CTi_of mp_X9_quiet (Nat.le_of_ble_eq_true rfl) ?_
  have bad : ¬ (ipS A p ∧ 0 ≤ w ∧ w ≤ 1) → AX μ A (fun x => x = quietS A p w) (-2) μ := fun z => AX.here h (if_neg z).symm
  refine s_X9_quiet_0 (ca_isPerson (by omega) h.1 (fun zp => ⟨fun _ => bad (fun y => zp y.1), fun q => absurd rfl q⟩) (fun zp => ⟨fun q => absurd q (by decide), fun _ => ⟨fun z => bad (fun y => by omega), fun z => ⟨fun z2 => ⟨h.1.now.1, ?_⟩, fun z => bad (fun y => by omega)⟩⟩⟩))
  refine ca_begin (by omega) h.1 ?_
  intro μ8 f8 x8
  have hin : ipS A p ∧ 0 ≤ w ∧ w ≤ 1 := ⟨zp, z, z2⟩
  have hp0 := zp.1
  have hp1 := zp.2
  generalize hCe : hR (aH A) * hC (aH A) = ce at *
  have key : ∀ (r : Nat) (c : Int) (PT : PlanT) (μ1 : Mem) (b f : Int), c + r = ce → 0 ≤ c → (∀ b j, b < 121 ∨ 146 < b → μ1 b j = μ b j) → XP μ1 121 (hP (aH A)) PT → (∀ e, moveC PT p e = moveC (aP A) p e) → ((c = 0 ∧ b = 0 ∧ f = 513) ∨ (0 < c ∧ (b, f) = quietN A p (c - 1).toNat)) →
      WQ mX9_quiet d sc (ZI sc (AX μ A (fun x => x = quietS A p w))) 44 [(2, 0), (0, p), (0, w), (0, b), (0, f), (0, c)] [] μ1 := by
    intro r
    induction r with
    | zero =>
      intro c PT μ1 b f hc hc0 hf hX hm hbf
      have h1 : RX μ1 A := h.trial2 (fun b j _ q => hf b j (by omega))
      refine s_X9_quiet_44 ⟨h1.1.now.1, ca_cells (by omega) h1.1 ?_⟩
      rw [hCe]
      refine ⟨fun _ => ?_, fun q => by omega⟩
      have e : (b, f) = quietN A p (ce - 1).toNat := by
        rcases hbf with q | q
        · omega
        · rw [q.2, show c = ce by omega]
      refine ⟨fun w0 => ⟨?_, h1, fun b j q => hf b j (by omega)⟩, fun w0 => ⟨?_, h1, fun b j q => hf b j (by omega)⟩⟩
      · show _ = _
        unfold quietS; rw [if_pos hin, if_neg w0, hCe, ← e]
      · show _ = _
        unfold quietS; rw [if_pos hin, if_pos w0, hCe, ← e]
    | succ r ih =>
      intro c PT μ1 b f hc hc0 hf hX hm hbf
      have h1 : RX μ1 A := h.trial2 (fun b j _ q => hf b j (by omega))
      refine s_X9_quiet_44 ⟨h1.1.now.1, ca_cells (by omega) h1.1 ?_⟩
      rw [hCe]
      refine ⟨fun q => by omega, fun _ => ⟨by omega, ?_⟩⟩
      intro μ7 e7
      have x7 : XP μ7 121 (hP (aH A)) (moveC (aP A) p c) := by rw [e7, ← hm c]; exact hX.move
      have f7 : ∀ b j, b < 121 ∨ 146 < b → μ7 b j = μ b j := fun b j q => by rw [e7, mup_ap, if_neg (fun y => by omega)]; exact hf b j q
      have h7 : RX μ7 A := h.trial2 (fun b j _ q => f7 b j (by omega))
      have hw7 : wfS (aH A) (moveC (aP A) p c) := hws.move (if_pos ⟨⟨hp0, hp1⟩, hc0, by omega⟩)
      refine ca_trialDay hd h7.1 x7 hw7 ?_
      intro μ11 f11 D11
      have f11' : ∀ b j, b < 121 ∨ 146 < b → μ11 b j = μ b j := fun b j q => by rw [f11 b j (by omega)]; exact f7 b j q
      have x11 : XP μ11 121 (hP (aH A)) (moveC (aP A) p c) := x7.same (fun b j _ _ => f11 b j (by omega))
      have hq : μ11 138 p = quietF A p c := D11.1.2.2 p hp0 (by omega)
      have hqb : 0 ≤ quietF A p c ∧ quietF A p c ≤ 500 := by
        have l := dh_len (H := aH A) (P := moveC (aP A) p c) (PN := moveC (aP A) p c) hw7.2.1
        have b := hicN_b (dayOf (aH A) (moveC (aP A) p c)) p
        have e : (dayOf (aH A) (moveC (aP A) p c)).length ≤ 500 := l
        unfold quietF
        omega
      have hm' : ∀ e, moveC (moveC (aP A) p c) p e = moveC (aP A) p e := fun e => moveC_two _ _ _ _
      rw [hq]
      refine ⟨by omega, fun q => ⟨by omega, ?_⟩, fun q => ⟨by omega, ?_⟩⟩
      · rintro _ rfl
        refine ih (c + 1) _ μ11 b f (by omega) (by omega) f11' x11 hm' (Or.inr ⟨by omega, ?_⟩)
        rcases hbf with q2 | q2
        · omega
        · have e : (c + 1 - 1).toNat = (c - 1).toNat + 1 := by omega
          rw [e, quietN, show (((c - 1).toNat + 1 : Nat) : Int) = c by omega, ← q2.2, if_neg (by show ¬ quietF A p c < f; omega)]
      · intro v hv
        refine ⟨by omega, ?_⟩
        rintro _ rfl
        refine ih (c + 1) _ μ11 c v (by omega) (by omega) f11' x11 hm' (Or.inr ⟨by omega, ?_⟩)
        rw [hv]
        rcases hbf with q2 | q2
        · rw [q2.1]; rfl
        · have e : (c + 1 - 1).toNat = (c - 1).toNat + 1 := by omega
          rw [e, quietN, show (((c - 1).toNat + 1 : Nat) : Int) = c by omega, ← q2.2, if_pos (by show quietF A p c < f; omega)]
  exact key ce.toNat 0 (aP A) μ8 0 513 (by omega) (Int.le_refl _) (fun b j q => f8 b j (by omega)) x8 (fun _ => rfl) (Or.inl ⟨rfl, rfl, rfl⟩)

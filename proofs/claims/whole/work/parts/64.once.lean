/-! THE CLASS ASKED OTHERWISE: at once, heard -/
theorem wfP.move {H : HillT} {P : PlanT} {p c : Int} (h : wfP H P) (hc : 0 ≤ c ∧ c < hR H * hC H) : wfP H (moveC P p c) := by
  refine ⟨fun q q0 q1 => ?_, h.2⟩
  by_cases hq : q = p
  · have e : pCell (moveC P p c) q = c := if_pos hq
    rw [e]; exact hc
  · have e : pCell (moveC P p c) q = pCell P q := if_neg hq
    rw [e]; exact h.1 q q0 q1
theorem LC.move {μ : Mem} {h p c : Int} {H : HillT} {P : PlanT} (hX : LC μ 127 h 121 H P) (hc : 0 ≤ c ∧ c < hR H * hC H) : LC (mup μ 126 p c) 127 h 121 H (moveC P p c) := by
  obtain ⟨q1, q2, q3, q4, q5, q6, q7, q8, q9⟩ := hX
  have hh := ik_1 q2
  have g : ∀ b j, b ≠ 126 → mup μ 126 p c b j = μ b j := fun b j z => by rw [mup_ap, if_neg (fun y => z y.1)]
  exact ⟨q1, q2, q3, by rw [g _ _ (by omega)]; exact q4, by rw [g _ _ (by omega)]; exact q5, q6.same (fun b j _ _ => g b j (by omega)), q7.move, q8, q9.move hc⟩
theorem LC.near {μ μ' : Mem} {L h p : Int} {H : HillT} {P : PlanT} (hX : LC μ L h p H P) (hs : ∀ b j, b = L ∨ (h ≤ b ∧ b ≤ h + 6) ∨ (p ≤ b ∧ b ≤ p + 5) → μ' b j = μ b j) : LC μ' L h p H P := by
  obtain ⟨q1, q2, q3, q4, q5, q6, q7, q8, q9⟩ := hX
  exact ⟨q1, q2, q3, by rw [hs _ _ (Or.inl rfl)]; exact q4, by rw [hs _ _ (Or.inl rfl)]; exact q5, q6.same (fun b j z1 z2 => hs b j (by omega)), q7.same (fun b j z1 z2 => hs b j (by omega)), q8, q9⟩
theorem ca_startTL {d : Nat} {sc : SC} {μ : Mem} {A : StT} {R : Mem → Prop} (hd : 4 ≤ d) (h : RXc μ A) (k : ∀ μ', (∀ b j, b < 121 ∨ 134 < b → μ' b j = μ b j) → LC μ' 127 (μ 0 2) 121 (aH A) (aP A) → R μ') : CAv mX9_startTrialLaws d sc [(2, 0)] μ R := by
  have hn := h.now
  refine byV (d' := 3) (by omega) (Q := fun μ' => (∀ b j, b < 121 ∨ 134 < b → μ' b j = μ b j) ∧ LC μ' 127 (μ 0 2) 121 (aH A) (aP A)) ?_ (fun μ' q => k μ' q.1 q.2)
  refine CTv_of mp_X9_startTrialLaws (Nat.le_of_ble_eq_true rfl) ?_
  refine s_X9_startTrialLaws_0 ⟨hn.1, ca_begin (Nat.le_refl _) h ?_⟩
  intro μ3 f3 x3
  rw [f3 0 2 (by omega)]
  refine byV (d' := 2) (by omega) (ct_take (Nat.le_refl _) k_127 hn.1 k_121) ?_
  rintro μ5 ⟨f5, t3, t4, _⟩
  refine ⟨fun b j q => by rw [f5 b j (by omega) (by omega) (by omega), f3 b j (by omega)], k_127, hn.1, k_121, t3, t4, ?_, ?_, h.wfh, h.wfs.1⟩
  · exact h.xh.same (fun b j _ _ => by rw [f5 b j (by omega) (by omega) (by omega), f3 b j (by omega)])
  · exact x3.same (fun b j _ _ => f5 b j (by omega) (by omega) (by omega))
theorem ca_gap {d : Nat} {sc : SC} {μ : Mem} {h p q : Int} {H : HillT} {P : PlanT} {R : Int → Mem → Prop} (hd : 4 ≤ d) (hX : LC μ 127 h 121 H P) (hp : 0 ≤ p ∧ p < hP H) (hq : 0 ≤ q ∧ q < hP H)
    (k : ∀ μ', (∀ b j, b ≠ 131 → b ≠ 132 → μ' b j = μ b j) → LC μ' 127 h 121 H P → R (gapS H P p q) μ') : CAi mX3_gapOf d sc [(2, 127), (0, p), (0, q)] μ R := by
  refine byI (d' := 3) (by omega) (ct_gapOf (Nat.le_refl _) hX hp hq) ?_
  rintro x μ' ⟨rfl, f, _, _⟩
  exact k μ' f (hX.same (fun b j _ _ _ z1 z2 _ _ => f b j z1 z2))
def onceN (g : Int → Int) (b : Int → Bool) : Nat → Int
  | 0 => 0
  | q + 1 => if b q = true then (if onceN g b q = 0 ∨ onceN g b q = g q then g q else -1) else onceN g b q
theorem once_f {g : Int → Int} {b : Int → Bool} (hg : ∀ q, 1 ≤ g q) {n : Nat} (h : onceN g b n = -1) : ∀ r : Nat, onceN g b (n + r) = -1 := by
  intro r
  induction r with
  | zero => exact h
  | succ r ih =>
    rw [← Nat.add_assoc, onceN, ih]
    have := hg ((n + r : Nat) : Int)
    split
    · rw [if_neg (by omega)]
    · rfl
theorem once_n {g : Int → Int} {b : Int → Bool} (hg : ∀ q, 1 ≤ g q) {n : Nat} (h : onceN g b n ≠ 0) : ∀ r : Nat, onceN g b (n + r) ≠ 0 := by
  intro r
  induction r with
  | zero => exact h
  | succ r ih =>
    rw [← Nat.add_assoc, onceN]
    have := hg ((n + r : Nat) : Int)
    split
    · split <;> omega
    · exact ih
theorem once_some {g : Int → Int} {b : Int → Bool} (hg : ∀ q, 1 ≤ g q) {n q : Nat} (hq : q < n) (h : b q = true) : onceN g b n ≠ 0 := by
  have h1 : onceN g b (q + 1) ≠ 0 := by
    rw [onceN, if_pos h]
    have := hg (q : Int)
    split <;> omega
  have := once_n hg h1 (n - (q + 1))
  rwa [show q + 1 + (n - (q + 1)) = n by omega] at this
theorem once_none {g : Int → Int} {b : Int → Bool} {n : Nat} (h : ∀ q : Nat, q < n → b q = false) : onceN g b n = 0 := by
  induction n with
  | zero => rfl
  | succ n ih => rw [onceN, h n (by omega), if_neg (by decide)]; exact ih (fun q hq => h q (by omega))
theorem once_b {g : Int → Int} {b : Int → Bool} (hg : ∀ q, 1 ≤ g q) (n : Nat) : -1 ≤ onceN g b n := by
  induction n with
  | zero => exact (by decide : (-1 : Int) ≤ 0)
  | succ n ih =>
    rw [onceN]
    have := hg (n : Int)
    split
    · split <;> omega
    · exact ih
theorem once_congr {g : Int → Int} {b b' : Int → Bool} {n : Nat} (h : ∀ q : Nat, q < n → b q = b' q) : onceN g b n = onceN g b' n := by
  induction n with
  | zero => rfl
  | succ n ih => rw [onceN, onceN, ih (fun q hq => h q (by omega)), h n (by omega)]
def oneGapN (H : HillT) (P : PlanT) (p o : Int) (n : Nat) : Int := onceN (fun q => gapS H P p q) (fun q => bitN o q) n
theorem bitN_f {x k : Int} : bitN x k = false ↔ iAnd (iShr x k) 1 = 0 := by unfold bitN; simp
theorem bitN_t {x k : Int} : bitN x k = true ↔ iAnd (iShr x k) 1 ≠ 0 := by unfold bitN; simp
theorem ct_namesAtOnce {d : Nat} {sc : SC} {μ : Mem} {A : StT} {P : PlanT} {h p o : Int} (hd : 4 ≤ d) (hc : RXc μ A) (hX : LC μ 127 h 121 (aH A) P) (hp : ipS A p) :
    CTi mX9_namesAtOnce d sc [(2, 0), (0, p), (0, o)] μ (fun x μ' => x = (if oneGapN (aH A) P p o (hP (aH A)).toNat = -1 then 0 else 1) ∧ (∀ b j, b ≠ 131 → b ≠ 132 → μ' b j = μ b j) ∧ LC μ' 127 h 121 (aH A) P) := by
  have h6 := hc.wfh.2.2.1
  have hg : ∀ q, 1 ≤ gapS (aH A) P p q := fun q => (gapS_b _ _ _ _).1
  refine CTi_of mp_X9_namesAtOnce (Nat.le_of_ble_eq_true rfl) ?_
  refine s_X9_namesAtOnce_0 ?_
  generalize hG : oneGapN (aH A) P p o (hP (aH A)).toNat = G
  have key : ∀ (r q : Nat) (g : Int) (μ1 : Mem), (q : Int) + r = hP (aH A) → g = oneGapN (aH A) P p o q → g ≠ -1 → (∀ b j, b ≠ 131 → b ≠ 132 → μ1 b j = μ b j) → LC μ1 127 h 121 (aH A) P →
      WQ mX9_namesAtOnce d sc (ZI sc (fun x μ' => x = (if G = -1 then 0 else 1) ∧ (∀ b j, b ≠ 131 → b ≠ 132 → μ' b j = μ b j) ∧ LC μ' 127 h 121 (aH A) P)) 5 [(2, 0), (0, p), (0, o), (0, g), (0, (q : Int)), (9, 0)] [] μ1 := by
    intro r
    induction r with
    | zero =>
      intro q g μ1 hq he hne hf hL
      have h1 : RXc μ1 A := hc.same (fun b j z1 z2 => hf b j (by omega) (by omega))
      refine s_X9_namesAtOnce_5 ⟨h1.now.1, ?_⟩
      rw [h1.np]
      refine ⟨fun _ => ⟨?_, hf, hL⟩, fun z => by omega⟩
      rw [← hG, show (hP (aH A)).toNat = q by omega, ← he, if_neg hne]
    | succ r ih =>
      intro q g μ1 hq he hne hf hL
      have h1 : RXc μ1 A := hc.same (fun b j z1 z2 => hf b j (by omega) (by omega))
      refine s_X9_namesAtOnce_5 ⟨h1.now.1, ?_⟩
      rw [h1.np]
      have en : oneGapN (aH A) P p o (q + 1) = if bitN o q = true then (if g = 0 ∨ g = gapS (aH A) P p q then gapS (aH A) P p q else -1) else g := by rw [he]; rfl
      have hgq := hg q
      refine ⟨fun z => by omega, fun _ => ⟨fun hb => ⟨by omega, ?_⟩, fun hb => ca_gap hd hL hp ⟨by omega, by omega⟩ ?_⟩⟩
      · rintro _ rfl
        have := ih (q + 1) g μ1 (by omega) (by rw [en, bitN_f.mpr hb, if_neg (by decide)]) hne hf hL
        exact this
      · rw [bitN_t.mpr hb, if_pos rfl] at en
        intro μ7 f7 L7
        have F7 : ∀ b j, b ≠ 131 → b ≠ 132 → μ7 b j = μ b j := fun b j z1 z2 => by rw [f7 b j z1 z2]; exact hf b j z1 z2
        refine ⟨fun z => ⟨by omega, ?_⟩, fun z => ⟨fun z2 => ⟨by omega, ?_⟩, fun z2 => ⟨?_, F7, L7⟩⟩⟩
        · rintro _ rfl
          have := ih (q + 1) (gapS (aH A) P p q) μ7 (by omega) (by rw [en, if_pos (Or.inl z)]) (by omega) F7 L7
          exact this
        · rintro _ rfl
          have := ih (q + 1) (gapS (aH A) P p q) μ7 (by omega) (by rw [en, if_pos (Or.inr z2.symm)]) (by omega) F7 L7
          exact this
        · have e1 : oneGapN (aH A) P p o (q + 1) = -1 := by rw [en, if_neg (by omega)]
          have e2 := once_f hg e1 r
          have e3 : G = -1 := by
            rw [← hG, show (hP (aH A)).toNat = q + 1 + r by omega]
            exact e2
          rw [if_pos e3]
  exact key (hP (aH A)).toNat 0 0 μ (by omega) rfl (by decide) (fun _ _ _ _ => rfl) hX
def cntF (f : Int → Bool) : Nat → Int
  | 0 => 0
  | n + 1 => cntF f n + if f n = true then 1 else 0
theorem cntF_b (f : Int → Bool) : ∀ n : Nat, 0 ≤ cntF f n ∧ cntF f n ≤ n := by
  intro n
  induction n with
  | zero => exact ⟨Int.le_refl _, Int.le_refl _⟩
  | succ n ih => rw [cntF]; split <;> omega
def atOnceB (A : StT) (p o c : Int) : Bool := decide (0 < onceN (fun q => gapS (aH A) (moveC (aP A) p c) p q) (fun q => decide (q ≠ p) && bitN o q) (hP (aH A)).toNat)
def atOnceS (A : StT) (p o : Int) : Int := if ipS A p then (if 0 ≤ o ∧ o < 2 ^ (hP (aH A)).toNat then cntF (atOnceB A p o) (hR (aH A) * hC (aH A)).toNat else -3) else -2
theorem others_bit : ∀ i : Nat, i < 2304 → bitN (iAnd ((i / 36 : Nat) : Int) (iXor (iShl 1 ((i / 6 % 6 : Nat) : Int)) (-1))) ((i % 6 : Nat) : Int) = (decide (((i % 6 : Nat) : Int) ≠ ((i / 6 % 6 : Nat) : Int)) && bitN ((i / 36 : Nat) : Int) ((i % 6 : Nat) : Int)) := by decide +kernel
theorem others_0 : ∀ i : Nat, i < 384 → iAnd ((i / 6 : Nat) : Int) (iXor (iShl 1 ((i % 6 : Nat) : Int)) (-1)) ≠ 0 → ∃ q, q < 6 ∧ q ≠ i % 6 ∧ bitN ((i / 6 : Nat) : Int) ((q : Nat) : Int) = true := by decide +kernel
theorem high_bit : ∀ i : Nat, i < 384 → ((i / 6 : Nat) : Int) < 2 ^ (i % 6) → ∀ q : Nat, q < 6 → i % 6 ≤ q → bitN ((i / 6 : Nat) : Int) ((q : Nat) : Int) = false := by decide +kernel
theorem cx_atOnce {d : Nat} {sc : SC} {μ : Mem} {A : StT} {p o : Int} (hd : 5 ≤ d) (h : RX μ A) : CTi mX9_atOnce d sc [(2, 0), (0, p), (0, o)] μ (AX μ A (fun x => x = atOnceS A p o)) := by
  have hws := h.1.wfs
  have h6 := h.1.wfh.2.2.1
  have hcb := cells_b h.1.wfh
  generalize hN : (hP (aH A)).toNat = N at *
  have hsh : iShl 1 (hP (aH A)) = 2 ^ N := by
    have := shl2 N (by omega)
    rw [show ((N : Nat) : Int) = hP (aH A) by omega] at this
    rw [this]; exact Int.natCast_pow 2 N
  have hpow : (2 : Int) ^ N ≤ 64 := by
    have H : ∀ m : Nat, m < 7 → (2 : Int) ^ m ≤ 64 := by decide +kernel
    exact H N (by omega)
  refine CTi_of mp_X9_atOnce (Nat.le_of_ble_eq_true rfl) ?_
  have bad : ipS A p → ¬ (0 ≤ o ∧ o < 2 ^ N) → AX μ A (fun x => x = atOnceS A p o) (-3) μ := fun zp z => AX.here h (by show _ = _; unfold atOnceS; rw [if_pos zp, hN, if_neg z])
  refine s_X9_atOnce_0 (ca_isPerson (by omega) h.1 (fun zp => ⟨fun q => absurd rfl q, fun _ => AX.here h (if_neg zp).symm⟩) (fun zp => ⟨fun _ => ⟨fun z => bad zp (by omega), fun z => ⟨h.1.now.1, ?_⟩⟩, fun q => absurd q (by decide)⟩))
  rw [h.1.np, hsh]
  refine ⟨fun z2 => ?_, fun z2 => bad zp (by omega)⟩
  intro v hv
  have hp0 := zp.1
  have hp1 := zp.2
  have hin : 0 ≤ o ∧ o < 2 ^ N := ⟨z, z2⟩
  have ob : ∀ q : Nat, q < N → bitN v q = (decide ((q : Int) ≠ p) && bitN o q) := by
    intro q hq
    have := others_bit (o.toNat * 36 + p.toNat * 6 + q) (by omega)
    rw [show (o.toNat * 36 + p.toNat * 6 + q) / 36 = o.toNat by omega, show (o.toNat * 36 + p.toNat * 6 + q) / 6 % 6 = p.toNat by omega, show (o.toNat * 36 + p.toNat * 6 + q) % 6 = q by omega, show ((o.toNat : Nat) : Int) = o by omega, show ((p.toNat : Nat) : Int) = p by omega, ← hv] at this
    exact this
  refine ⟨fun zv => ca_startTL (by omega) h.1 ?_, fun zv => AX.here h ?_⟩
  · intro μ10 f10 L10
    have hsome : ∃ q : Nat, q < N ∧ bitN v q = true := by
      have := others_0 (o.toNat * 6 + p.toNat) (by omega)
      rw [show (o.toNat * 6 + p.toNat) / 6 = o.toNat by omega, show (o.toNat * 6 + p.toNat) % 6 = p.toNat by omega, show ((o.toNat : Nat) : Int) = o by omega, show ((p.toNat : Nat) : Int) = p by omega, ← hv] at this
      obtain ⟨q, q1, q2, q3⟩ := this zv
      have hqN : q < N := by
        by_cases hh : q < N
        · exact hh
        · have := high_bit (o.toNat * 6 + N) (by omega)
          rw [show (o.toNat * 6 + N) / 6 = o.toNat by omega, show (o.toNat * 6 + N) % 6 = N by omega, show ((o.toNat : Nat) : Int) = o by omega] at this
          have := this z2 q q1 (by omega)
          rw [this] at q3; exact absurd q3 (by decide)
      refine ⟨q, hqN, ?_⟩
      rw [ob q hqN, q3, Bool.and_true]
      exact decide_eq_true (by omega)
    generalize hCe : hR (aH A) * hC (aH A) = ce at *
    have key : ∀ (r c : Nat) (PT : PlanT) (μ1 : Mem), (c : Int) + r = ce → (∀ b j, b < 121 ∨ 134 < b → μ1 b j = μ b j) → LC μ1 127 (μ 0 2) 121 (aH A) PT → (∀ e, moveC PT p e = moveC (aP A) p e) →
        WQ mX9_atOnce d sc (ZI sc (AX μ A (fun x => x = atOnceS A p o))) 55 [(2, 0), (0, p), (9, 0), (0, v), (0, cntF (atOnceB A p o) c), (0, (c : Int))] [] μ1 := by
      intro r
      induction r with
      | zero =>
        intro c PT μ1 hc hf hL hm
        have h1 : RX μ1 A := h.trial2 (fun b j _ q => hf b j (by omega))
        refine s_X9_atOnce_55 ⟨h1.1.now.1, ca_cells (by omega) h1.1 ?_⟩
        rw [hCe]
        refine ⟨fun _ => ⟨?_, h1, fun b j q => hf b j (by omega)⟩, fun q => by omega⟩
        show _ = _
        unfold atOnceS; rw [if_pos zp, hN, if_pos hin, hCe, show ce.toNat = c by omega]
      | succ r ih =>
        intro c PT μ1 hc hf hL hm
        have h1 : RX μ1 A := h.trial2 (fun b j _ q => hf b j (by omega))
        have hcb2 := cntF_b (atOnceB A p o) c
        refine s_X9_atOnce_55 ⟨h1.1.now.1, ca_cells (by omega) h1.1 ?_⟩
        rw [hCe]
        refine ⟨fun q => by omega, fun _ => ⟨by omega, ?_⟩⟩
        intro μ6 e6
        have f6 : ∀ b j, b < 121 ∨ 134 < b → μ6 b j = μ b j := fun b j q => by rw [e6, mup_ap, if_neg (fun y => by omega)]; exact hf b j q
        have h6' : RX μ6 A := h.trial2 (fun b j _ q => f6 b j (by omega))
        have L6 : LC μ6 127 (μ 0 2) 121 (aH A) (moveC (aP A) p c) := by
          rw [← hm, e6]; exact hL.move ⟨by omega, by rw [hCe]; omega⟩
        refine byI (d' := 4) (by omega) (ct_namesAtOnce (Nat.le_refl _) h6'.1 L6 zp) ?_
        rintro y μ8 ⟨hy, f8, L8⟩
        have F8 : ∀ b j, b < 121 ∨ 134 < b → μ8 b j = μ b j := fun b j q => by rw [f8 b j (by omega) (by omega)]; exact f6 b j q
        have hm' : ∀ e, moveC (moveC (aP A) p c) p e = moveC (aP A) p e := fun e => moveC_two _ _ _ _
        have hg : ∀ q, 1 ≤ gapS (aH A) (moveC (aP A) p c) p q := fun q => (gapS_b _ _ _ _).1
        have eO : oneGapN (aH A) (moveC (aP A) p c) p v N = onceN (fun q => gapS (aH A) (moveC (aP A) p c) p q) (fun q => decide (q ≠ p) && bitN o q) N := once_congr ob
        have hne : onceN (fun q => gapS (aH A) (moveC (aP A) p c) p q) (fun q => decide (q ≠ p) && bitN o q) N ≠ 0 := by
          obtain ⟨q, q1, q2⟩ := hsome
          rw [← eO]; exact once_some hg q1 q2
        have hge : -1 ≤ onceN (fun q => gapS (aH A) (moveC (aP A) p c) p q) (fun q => decide (q ≠ p) && bitN o q) N := once_b (b := fun q => decide (q ≠ p) && bitN o q) hg N
        rw [hN, eO] at hy
        refine ⟨fun y0 => ⟨by omega, ?_⟩, fun y0 => ⟨by omega, ?_⟩⟩
        · rintro _ rfl
          have e : atOnceB A p o c = false := by
            unfold atOnceB
            refine decide_eq_false (fun q => ?_)
            rw [hN] at q
            rw [if_neg (by omega)] at hy
            omega
          have := ih (c + 1) _ μ8 (by omega) F8 L8 hm'
          rw [cntF, e, if_neg (by decide), Int.add_zero] at this
          exact this
        · rintro _ rfl
          refine ⟨by omega, ?_⟩
          rintro _ rfl
          have e : atOnceB A p o c = true := by
            unfold atOnceB
            refine decide_eq_true ?_
            rw [hN]
            have : ¬ onceN (fun q => gapS (aH A) (moveC (aP A) p c) p q) (fun q => decide (q ≠ p) && bitN o q) N = -1 := fun q => by rw [if_pos q] at hy; omega
            omega
          have := ih (c + 1) _ μ8 (by omega) F8 L8 hm'
          rw [cntF, e, if_pos rfl] at this
          exact this
    exact key ce.toNat 0 (aP A) μ10 (by omega) f10 L10 (fun _ => rfl)
  · show _ = _
    have hz : ∀ c : Nat, atOnceB A p o c = false := by
      intro c
      unfold atOnceB
      rw [hN]
      refine decide_eq_false (fun q => ?_)
      have e : onceN (fun q => gapS (aH A) (moveC (aP A) p c) p q) (fun q => decide (q ≠ p) && bitN o q) N = 0 := once_none (fun q hq => by
        rw [← ob q hq, zv]
        have H : ∀ m : Nat, m < 6 → bitN 0 (m : Int) = false := by decide +kernel
        exact H q (by omega))
      rw [e] at q
      exact absurd q (by decide)
    have hc0 : ∀ n : Nat, cntF (atOnceB A p o) n = 0 := by
      intro n
      induction n with
      | zero => rfl
      | succ n ih => rw [cntF, ih, hz n, if_neg (by decide)]; rfl
    unfold atOnceS; rw [if_pos zp, hN, if_pos hin, hc0]

/-! THE CLASS ASKED OTHERWISE: heard, attempt, winds -/
def cellsS (A : StT) : Nat := (hR (aH A) * hC (aH A)).toNat
def heardS (A : StT) (t p : Int) : Int := if refS A t p = 0 then ((heardL A t p (cellsS A)).length : Int) else refS A t p
def heardAtS (A : StT) (t p i : Int) : Int := if refS A t p = 0 then (if i < 0 then -3 else mAt (heardL A t p (cellsS A)) i) else refS A t p
theorem cx_heard {d : Nat} {sc : SC} {μ : Mem} {A : StT} {t p : Int} (hd : 6 ≤ d) (h : RX μ A) : CTi mX9_heard d sc [(2, 0), (0, t), (0, p)] μ (AX μ A (fun x => x = heardS A t p)) := by
  refine CTi_of mp_X9_heard (Nat.le_of_ble_eq_true rfl) ?_
  refine s_X9_heard_0 (ca_refuse (by omega) h.1 ⟨fun z => ?_, fun z => AX.here h (if_neg z).symm⟩)
  have ht := (refS_0 z).1.1
  rw [(h.1.tray t ht.1 ht.2).1]
  refine ⟨ht, ca_findHeard hd h z ?_⟩
  intro μ' PT f F L m
  exact ⟨(if_pos z).symm, h.trial2 (fun b j _ q => f b j (by omega) (by omega)), fun b j q => f b j (by omega) (by omega)⟩
theorem cx_heardAt {d : Nat} {sc : SC} {μ : Mem} {A : StT} {t p i : Int} (hd : 6 ≤ d) (h : RX μ A) : CTi mX9_heardAt d sc [(2, 0), (0, t), (0, p), (0, i)] μ (AX μ A (fun x => x = heardAtS A t p i)) := by
  refine CTi_of mp_X9_heardAt (Nat.le_of_ble_eq_true rfl) ?_
  have hcb := cells_b h.1.wfh
  refine s_X9_heardAt_0 (ca_refuse (by omega) h.1 ⟨fun z => ⟨fun zi => ?_, fun zi => AX.here h ?_⟩, fun z => AX.here h (if_neg z).symm⟩)
  · have ht := (refS_0 z).1.1
    rw [(h.1.tray t ht.1 ht.2).1]
    refine ⟨ht, ca_findHeard hd h z ?_⟩
    intro μ' PT f F L m
    have hl := heardL_len A t p (hR (aH A) * hC (aH A)).toNat
    have fin : ∀ x : Int, x = mAt (heardL A t p (cellsS A)) i → AX μ A (fun x => x = heardAtS A t p i) x μ' := fun x hx => ⟨by show _ = _; unfold heardAtS; rw [if_pos z, if_neg (by omega)]; exact hx, h.trial2 (fun b j _ q => f b j (by omega) (by omega)), fun b j q => f b j (by omega) (by omega)⟩
    refine ⟨fun q => fin _ (mAt_out q).symm, fun q => ⟨by omega, fin _ ?_⟩⟩
    have hlt : i.toNat < (heardL A t p (hR (aH A) * hC (aH A)).toNat).length := by omega
    have := F i.toNat hlt
    rw [show ((i.toNat : Nat) : Int) = i by omega] at this
    rw [this]
    unfold mAt cellsS
    rw [List.getElem?_eq_getElem hlt]; rfl
  · show _ = _
    unfold heardAtS; rw [if_pos z, if_pos zi]
/-- the greatest of some -/
def maxN (f : Int → Int) : Nat → Int
  | 0 => 0
  | n + 1 => max (maxN f n) (f n)
theorem maxN_b {f : Int → Int} {m : Int} (h0 : 0 ≤ m) (h : ∀ i, f i ≤ m) : ∀ n : Nat, 0 ≤ maxN f n ∧ maxN f n ≤ m := by
  intro n
  induction n with
  | zero => exact ⟨Int.le_refl _, h0⟩
  | succ n ih => have := h (n : Int); rw [maxN]; omega
theorem maxN_up {f f' : Int → Int} {g : Int} (h1 : f' g = f g + 1) (h2 : ∀ i, i ≠ g → f' i = f i) (h0 : 0 ≤ g) : ∀ n : Nat, maxN f' n = if g < n then max (maxN f n) (f g + 1) else maxN f n := by
  intro n
  induction n with
  | zero => rw [if_neg (by omega)]; rfl
  | succ n ih =>
    rw [maxN, maxN, ih]
    by_cases q : g = n
    · rw [if_neg (by omega), if_pos (by omega), ← q, h1]; omega
    · rw [h2 n (fun e => q e.symm)]
      by_cases q2 : g < n
      · rw [if_pos q2, if_pos (by omega)]; omega
      · rw [if_neg q2, if_neg (by omega)]
def cntG (L : List Int) (f : Int → Int) (g : Int) : Int := (L.countP (fun c => f c == g) : Nat)
theorem cntG_snoc (L : List Int) (f : Int → Int) (c g : Int) : cntG (L ++ [c]) f g = cntG L f g + if f c = g then 1 else 0 := by
  unfold cntG
  rw [List.countP_append, List.countP_cons, List.countP_nil]
  by_cases h : f c = g <;> simp [h]
theorem cntG_b (L : List Int) (f : Int → Int) (g : Int) : 0 ≤ cntG L f g ∧ cntG L f g ≤ L.length := by
  unfold cntG
  have := List.countP_le_length (p := fun c => f c == g) (l := L)
  omega
def alikeS (A : StT) (p q : Int) (L : List Int) : Int := maxN (cntG L (fun c => gapS (aH A) (moveC (aP A) p c) p q)) 21
theorem alikeS_b (A : StT) (p q : Int) (L : List Int) : 0 ≤ alikeS A p q L ∧ alikeS A p q L ≤ L.length := maxN_b (by omega) (fun i => (cntG_b L _ i).2) 21
theorem ca_mostAlike {d : Nat} {sc : SC} {μ : Mem} {A : StT} {PT : PlanT} {p q : Int} {L : List Int} {R : Int → Mem → Prop} (hd : 6 ≤ d) (h : RXc μ A) (hp : ipS A p) (hq : ipS A q) (hL : LC μ 127 (μ 0 2) 121 (aH A) PT) (hm : ∀ e, moveC PT p e = moveC (aP A) p e) (hF : FD μ L) (hl : L.length ≤ 64) (hb : ∀ c ∈ L, 0 ≤ c ∧ c < hR (aH A) * hC (aH A))
    (k : ∀ μ' PT, (∀ b j, b < 121 ∨ 134 < b → b ≠ 148 → μ' b j = μ b j) → LC μ' 127 (μ 0 2) 121 (aH A) PT → (∀ e, moveC PT p e = moveC (aP A) p e) → R (alikeS A p q L) μ') :
    CAi mX9_mostAlike d sc [(2, 0), (0, p), (0, q), (0, (L.length : Int))] μ R := by
  have hp0 := hp.1
  have hp1 := hp.2
  have h6 := h.wfh.2.2.1
  refine byI (d' := 5) (by omega) (Q := fun x μ' => x = alikeS A p q L ∧ ∃ PT, (∀ b j, b < 121 ∨ 134 < b → b ≠ 148 → μ' b j = μ b j) ∧ LC μ' 127 (μ 0 2) 121 (aH A) PT ∧ (∀ e, moveC PT p e = moveC (aP A) p e)) ?_ (fun x μ' z => by
    obtain ⟨rfl, PT, a1, a2, a3⟩ := z
    exact k μ' PT a1 a2 a3)
  refine CTi_of mp_X9_mostAlike (Nat.le_of_ble_eq_true rfl) ?_
  refine s_X9_mostAlike_0 (byV (d' := 1) (by omega) (ct_fillI k_148 (by decide)) ?_)
  intro μ2 h2
  have key : ∀ (Y X : List Int) (PT : PlanT) (μ1 : Mem), L = X ++ Y → (∀ b j, b < 121 ∨ 134 < b → b ≠ 148 → μ1 b j = μ b j) → LC μ1 127 (μ 0 2) 121 (aH A) PT → (∀ e, moveC PT p e = moveC (aP A) p e) → (∀ g, 0 ≤ g → g < 21 → μ1 148 g = cntG X (fun c => gapS (aH A) (moveC (aP A) p c) p q) g) →
      WQ mX9_mostAlike 5 sc (ZI sc (fun x μ' => x = alikeS A p q L ∧ ∃ PT, (∀ b j, b < 121 ∨ 134 < b → b ≠ 148 → μ' b j = μ b j) ∧ LC μ' 127 (μ 0 2) 121 (aH A) PT ∧ (∀ e, moveC PT p e = moveC (aP A) p e))) 14 [(2, 0), (0, p), (0, q), (0, (L.length : Int)), (0, alikeS A p q X), (0, (X.length : Int)), (9, 0)] [] μ1 := by
    intro Y
    induction Y with
    | nil =>
      intro X PT μ1 hX hf hL hm hc
      rw [List.append_nil] at hX
      refine s_X9_mostAlike_14 (by omega) ⟨fun _ => ⟨by rw [hX], PT, hf, hL, hm⟩, fun z => by rw [hX] at z; omega⟩
    | cons c Y ih =>
      intro X PT μ1 hX hf hL1 hm hc
      have hlen : L.length = X.length + (Y.length + 1) := by rw [hX]; simp
      have hcL : c ∈ L := by rw [hX]; simp
      have hcb := hb c hcL
      have hfc : μ1 147 (X.length : Int) = c := by
        rw [hf _ _ (by omega) (by omega)]
        have := hF X.length (by omega)
        rw [this]
        simp [hX]
      refine s_X9_mostAlike_14 (by omega) ⟨fun z => by omega, fun _ => ⟨by omega, by omega, ?_⟩⟩
      intro μ4 e4
      rw [hfc] at e4
      have L4 : LC μ4 127 (μ 0 2) 121 (aH A) (moveC (aP A) p c) := by rw [← hm, e4]; exact hL1.move hcb
      refine ca_gap (by omega) L4 ⟨hp0, hp1⟩ hq ?_
      intro μ6 f6 L6
      have hgb := gapS_b (aH A) (moveC (aP A) p c) p q
      generalize hG : gapS (aH A) (moveC (aP A) p c) p q = g at *
      have f6' : ∀ b j, b < 121 ∨ 134 < b → μ6 b j = μ1 b j := fun b j z => by rw [f6 b j (by omega) (by omega), e4, mup_ap, if_neg (fun y => by omega)]
      have hcg : μ6 148 g = cntG X (fun c => gapS (aH A) (moveC (aP A) p c) p q) g := by rw [f6' _ _ (by omega)]; exact hc g (by omega) (by omega)
      have hcgb := cntG_b X (fun c => gapS (aH A) (moveC (aP A) p c) p q) g
      rw [hcg]
      refine ⟨by omega, by omega, by omega, ?_⟩
      intro μ10 e10
      rw [e10, mup_at, ← e10]
      refine ⟨by omega, ?_⟩
      intro v12 h12
      refine ⟨by omega, ?_⟩
      rintro _ rfl
      have f10 : ∀ b j, b < 121 ∨ 134 < b → b ≠ 148 → μ10 b j = μ b j := fun b j z1 z2 => by rw [e10, mup_ap, if_neg (fun y => z2 y.1), f6' b j z1]; exact hf b j z1 z2
      have L10 : LC μ10 127 (μ 0 2) 121 (aH A) (moveC (aP A) p c) := by
        have hh := ik_1 L6.2.1
        exact L6.near (fun b j z => by rw [e10, mup_ap, if_neg (fun y => by omega)])
      have hal : alikeS A p q (X ++ [c]) = v12 := by
        rw [h12]
        unfold alikeS
        rw [maxN_up (f := cntG X (fun c => gapS (aH A) (moveC (aP A) p c) p q)) (g := g) (by rw [cntG_snoc, if_pos hG]) (fun i hi => by rw [cntG_snoc, if_neg (fun y => hi (by rw [← y]; exact hG)), Int.add_zero]) (by omega) 21, if_pos (by omega)]
      have := ih (X ++ [c]) _ μ10 (by rw [hX]; simp) f10 L10 (fun e => moveC_two _ _ _ _) (fun g' g0 g1 => by
        rw [cntG_snoc, e10, mup_ap]
        by_cases z : g' = g
        · rw [if_pos ⟨rfl, z⟩, if_pos (by rw [z]; exact hG), z]
        · rw [if_neg (fun y => z y.2), if_neg (fun y => z (by rw [← y]; exact hG)), f6' _ _ (by omega), hc g' g0 g1, Int.add_zero])
      rw [hal, List.length_append] at this
      exact this
  have hh := ik_1 hL.2.1
  exact key L [] PT μ2 rfl (fun b j z1 z2 => by rw [h2, if_neg (fun y => z2 y.1)]) (hL.near (fun b j z => by rw [h2, if_neg (fun y => by omega)])) hm (fun g g0 g1 => by rw [h2, if_pos ⟨rfl, g0, g1⟩]; rfl)
def attN (f : Int → Int) (p : Int) : Nat → Int × Int
  | 0 => (-1, 65)
  | q + 1 => if (q : Int) ≠ p ∧ f q < (attN f p q).2 then ((q : Int), f q) else attN f p q
def attemptS (A : StT) (t p : Int) : Int := if refS A t p = 0 then (if heardL A t p (cellsS A) = [] then -1 else (attN (fun q => alikeS A p q (heardL A t p (cellsS A))) p (hP (aH A)).toNat).1) else refS A t p
theorem cx_attempt {d : Nat} {sc : SC} {μ : Mem} {A : StT} {t p : Int} (hd : 6 ≤ d) (h : RX μ A) : CTi mX9_attempt d sc [(2, 0), (0, t), (0, p)] μ (AX μ A (fun x => x = attemptS A t p)) := by
  refine CTi_of mp_X9_attempt (Nat.le_of_ble_eq_true rfl) ?_
  have hcb := cells_b h.1.wfh
  have h6 := h.1.wfh.2.2.1
  refine s_X9_attempt_0 (ca_refuse (by omega) h.1 ⟨fun z => ?_, fun z => AX.here h (if_neg z).symm⟩)
  obtain ⟨⟨ht, zp⟩, _⟩ := refS_0 z
  rw [(h.1.tray t ht.1 ht.2).1]
  refine ⟨ht, ca_findHeard hd h z ?_⟩
  intro μ2 PT f2 F2 L2 m2
  have hl := heardL_len A t p (hR (aH A) * hC (aH A)).toNat
  have hmem := heardL_mem A t p (hR (aH A) * hC (aH A)).toNat
  have hS : ∀ x : Int, x = (if heardL A t p (hR (aH A) * hC (aH A)).toNat = [] then -1 else (attN (fun q => alikeS A p q (heardL A t p (hR (aH A) * hC (aH A)).toNat)) p (hP (aH A)).toNat).1) → x = attemptS A t p := fun x hx => by unfold attemptS cellsS; rw [if_pos z]; exact hx
  generalize heardL A t p (hR (aH A) * hC (aH A)).toNat = L at *
  have key : ∀ (r q : Nat) (b m : Int) (PT : PlanT) (μ1 : Mem), (q : Int) + r = hP (aH A) → (∀ b j, b < 121 ∨ 134 < b → b ≠ 147 → b ≠ 148 → μ1 b j = μ b j) → FD μ1 L → LC μ1 127 (μ 0 2) 121 (aH A) PT → (∀ e, moveC PT p e = moveC (aP A) p e) → ((L = [] ∧ b = -1) ∨ (L ≠ [] ∧ (b, m) = attN (fun q => alikeS A p q L) p q)) →
      WQ mX9_attempt d sc (ZI sc (AX μ A (fun x => x = attemptS A t p))) 36 [(2, 0), (9, 0), (0, p), (9, 0), (0, (L.length : Int)), (0, b), (0, m), (0, (q : Int)), (9, 0)] [] μ1 := by
    intro r
    induction r with
    | zero =>
      intro q b m PT μ1 hq hf hF hL hm hb
      have h1 : RX μ1 A := h.trial2 (fun b j _ z => hf b j (by omega) (by omega) (by omega))
      refine s_X9_attempt_36 ⟨h1.1.now.1, ?_⟩
      rw [h1.1.np]
      refine ⟨fun _ => ⟨hS _ ?_, h1, fun b j z => hf b j (by omega) (by omega) (by omega)⟩, fun z => by omega⟩
      rcases hb with ⟨b1, b2⟩ | ⟨b1, b2⟩
      · rw [if_pos b1]; exact b2
      · rw [if_neg b1, show (hP (aH A)).toNat = q by omega, ← b2]
    | succ r ih =>
      intro q b m PT μ1 hq hf hF hL hm hb
      have h1 : RX μ1 A := h.trial2 (fun b j _ z => hf b j (by omega) (by omega) (by omega))
      have e2 : μ1 0 2 = μ 0 2 := hf _ _ (by omega) (by omega) (by omega)
      refine s_X9_attempt_36 ⟨h1.1.now.1, ?_⟩
      rw [h1.1.np]
      refine ⟨fun z => by omega, fun _ => ⟨fun z0 => ⟨hS _ ?_, h1, fun b j z => hf b j (by omega) (by omega) (by omega)⟩, fun z0 => ⟨fun zq => ⟨by omega, ?_⟩, fun zq => ?_⟩⟩⟩
      · have hL0 : L = [] := List.length_eq_zero_iff.mp (by omega)
        rw [if_pos hL0]
        rcases hb with ⟨b1, b2⟩ | ⟨b1, b2⟩
        · exact b2
        · exact absurd hL0 b1
      · rintro _ rfl
        refine ih (q + 1) b m PT μ1 (by omega) hf hF hL hm ?_
        rcases hb with b1 | ⟨b1, b2⟩
        · exact Or.inl b1
        · refine Or.inr ⟨b1, ?_⟩
          rw [attN, if_neg (fun y => y.1 zq)]; exact b2
      · have hLne : L ≠ [] := fun y => by rw [y] at z0; exact absurd z0 (by decide)
        rw [← e2] at hL
        refine ca_mostAlike hd h1.1 zp ⟨by omega, by omega⟩ hL hm hF (by omega) (fun c hc => by have := hmem c hc; omega) ?_
        intro μ8 PT8 f8 L8 m8
        rw [e2] at L8
        have F8 : ∀ b j, b < 121 ∨ 134 < b → b ≠ 147 → b ≠ 148 → μ8 b j = μ b j := fun b j z1 z2 z3 => by rw [f8 b j z1 z3]; exact hf b j z1 z2 z3
        have D8 : FD μ8 L := fun k hk => by rw [f8 _ _ (by omega) (by omega)]; exact hF k hk
        rcases hb with b1 | ⟨b1, b2⟩
        · exact absurd b1.1 hLne
        · refine ⟨fun z => ⟨by omega, ?_⟩, fun z => ⟨by omega, ?_⟩⟩
          · rintro _ rfl
            refine ih (q + 1) b m PT8 μ8 (by omega) F8 D8 L8 m8 (Or.inr ⟨b1, ?_⟩)
            rw [attN, ← b2, if_neg (fun y => by have : alikeS A p q L < m := y.2; omega)]
          · rintro _ rfl
            refine ih (q + 1) _ _ PT8 μ8 (by omega) F8 D8 L8 m8 (Or.inr ⟨b1, ?_⟩)
            rw [attN, ← b2, if_pos ⟨zq, z⟩]
  refine key (hP (aH A)).toNat 0 (-1) 65 PT μ2 (by omega) (fun b j z1 z2 _ => f2 b j z1 z2) F2 L2 m2 ?_
  by_cases z : L = []
  · exact Or.inl ⟨z, rfl⟩
  · exact Or.inr ⟨z, rfl⟩

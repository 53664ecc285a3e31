/-! THE CLASS'S QUERIES: minutes, crowds -/
def minuteS (A : StT) (p i : Int) : Int := if ipS A p then (if i < 0 then -3 else mAt (minsL (DH A) p) i) else -2
theorem cx_minute {d : Nat} {sc : SC} {μ : Mem} {A : StT} {p i : Int} (hd : 8 ≤ d) (hi : i < 2147483648) (h : RX μ A) : CTi mX9_minute d sc [(2, 0), (0, p), (0, i)] μ (AX μ A (fun x => x = minuteS A p i)) := by
  refine CTi_of mp_X9_minute (Nat.le_of_ble_eq_true rfl) ?_
  refine s_X9_minute_0 (ca_isPerson (by omega) h.1 (fun zp => ⟨fun q => absurd rfl q, fun _ => AX.here h (if_neg zp).symm⟩) (fun zp => ⟨fun _ => ⟨fun zi => ?_, fun zi => AX.here h ?_⟩, fun q => absurd q (by decide)⟩))
  · refine ca_know hd h (fun μ' f r ka => ?_)
    have hlen : (DH A).length ≤ 500 := dh_len r.1.wfs.2.1
    have key : ∀ (Y X : SayL) (v : Int), DH A = X ++ Y → v = i - (minsL X p).length → 0 ≤ v → WQ mX9_minute d sc (ZI sc (AX μ A (fun x => x = minuteS A p i))) 27 [(2, 0), (0, p), (9, 0), (0, v), (0, (X.length : Int))] [] μ' := by
      intro Y
      induction Y with
      | nil =>
        intro X v hX hv v0
        rw [List.append_nil] at hX
        refine s_X9_minute_27 ⟨fun _ => ⟨?_, r, f.x⟩, fun z => by rw [ka.hr.1, hX] at z; omega⟩
        show _ = _
        unfold minuteS; rw [if_pos zp, if_neg (by omega), mAt_out (by rw [hX]; omega)]
      | cons x Y ih =>
        intro X v hX hv v0
        have hat : μ' 106 (X.length : Int) = x.2 ∧ μ' 107 (X.length : Int) = x.1 := HR.at (by rw [← hX]; exact ka.hr : HR μ' 105 (X ++ x :: Y))
        have hx : x ∈ DH A := by rw [hX]; simp
        have hm := dh_mem r.1.wfh.2.2.1.2 r.1.wfs.2.1 hx
        have hl : (DH A).length = X.length + (Y.length + 1) := by rw [hX]; simp
        refine s_X9_minute_27 ⟨fun z => by rw [ka.hr.1] at z; omega, fun _ => ⟨by omega, ?_, fun z => ⟨by omega, ?_⟩, fun z => ⟨fun zv => ⟨by omega, ?_⟩, fun zv => ⟨by omega, ?_, r, f.x⟩⟩⟩⟩
        · rw [hat.1]; exact hm.1.1
        · rintro _ rfl
          rw [hat.1] at z
          have := ih (X ++ [x]) v (by rw [hX]; simp) (by rw [minsL_app, show minsL [x] p = [] by simp [minsL, z], List.append_nil]; exact hv) v0
          rw [List.length_append] at this
          exact this
        · rintro _ rfl
          refine ⟨by omega, ?_⟩
          rintro _ rfl
          rw [hat.1] at z
          have := ih (X ++ [x]) (v - 1) (by rw [hX]; simp) (by rw [minsL_app, show minsL [x] p = [x.1] by simp [minsL, z], List.length_append]; simp; omega) (by omega)
          rw [List.length_append] at this
          exact this
        · show _ = _
          rw [hat.1] at z
          unfold minuteS; rw [if_pos zp, if_neg (by omega), hX, minsL_app, show minsL (x :: Y) p = x.1 :: minsL Y p by simp [minsL, z], show i = ((minsL X p).length : Int) by omega, mAt_mid]
          exact hat.2
    exact key (DH A) [] i (List.nil_append _).symm (by simp [minsL]) zi
  · show _ = _
    unfold minuteS; rw [if_pos zp, if_pos zi]
def crowdN (Hc : SayL) (m : Int) : Int := (Hc.countP (fun x => x.1 == m) : Nat)
theorem crowdN_snoc (X : SayL) (x : Int × Int) (m : Int) : crowdN (X ++ [x]) m = crowdN X m + if x.1 = m then 1 else 0 := by
  unfold crowdN
  rw [List.countP_append, List.countP_cons, List.countP_nil]
  by_cases h : x.1 = m <;> simp [h]
def crowdS (A : StT) (m : Int) : Int := if 0 ≤ m ∧ m < 100 then crowdN (DH A) m else -3
theorem cx_crowd {d : Nat} {sc : SC} {μ : Mem} {A : StT} {m : Int} (hd : 8 ≤ d) (h : RX μ A) : CTi mX9_crowd d sc [(2, 0), (0, m)] μ (AX μ A (fun x => x = crowdS A m)) := by
  refine CTi_of mp_X9_crowd (Nat.le_of_ble_eq_true rfl) ?_
  refine s_X9_crowd_0 (ca_isMinute (by omega) (fun zp => ⟨fun q => absurd rfl q, fun _ => AX.here h (if_neg zp).symm⟩) (fun zp => ⟨fun _ => ?_, fun q => absurd q (by decide)⟩))
  refine ca_know hd h (fun μ' f r ka => ?_)
  have hlen : (DH A).length ≤ 500 := dh_len r.1.wfs.2.1
  have key : ∀ (Y X : SayL) (v : Int), DH A = X ++ Y → v = crowdN X m → WQ mX9_crowd d sc (ZI sc (AX μ A (fun x => x = crowdS A m))) 18 [(2, 0), (0, m), (0, v), (0, (X.length : Int))] [] μ' := by
    intro Y
    induction Y with
    | nil =>
      intro X v hX hv
      rw [List.append_nil] at hX
      refine s_X9_crowd_18 ⟨fun _ => ⟨?_, r, f.x⟩, fun z => by rw [ka.hr.1, hX] at z; omega⟩
      show _ = _
      unfold crowdS; rw [if_pos zp, hX]; exact hv
    | cons x Y ih =>
      intro X v hX hv
      have hat : μ' 106 (X.length : Int) = x.2 ∧ μ' 107 (X.length : Int) = x.1 := HR.at (by rw [← hX]; exact ka.hr : HR μ' 105 (X ++ x :: Y))
      have hl : (DH A).length = X.length + (Y.length + 1) := by rw [hX]; simp
      have hv2 : crowdN X m ≤ X.length := by
        unfold crowdN
        have := List.countP_le_length (p := fun x : Int × Int => x.1 == m) (l := X)
        omega
      have hv3 : 0 ≤ crowdN X m := by unfold crowdN; omega
      refine s_X9_crowd_18 ⟨fun z => by rw [ka.hr.1] at z; omega, fun _ => ⟨by omega, fun z => ⟨by omega, ?_⟩, fun z => ⟨by omega, ?_⟩⟩⟩
      · rintro _ rfl
        rw [hat.2] at z
        have := ih (X ++ [x]) v (by rw [hX]; simp) (by rw [crowdN_snoc, if_neg z]; omega)
        rw [List.length_append] at this
        exact this
      · rintro _ rfl
        refine ⟨by omega, ?_⟩
        rintro _ rfl
        rw [hat.2] at z
        have := ih (X ++ [x]) (v + 1) (by rw [hX]; simp) (by rw [crowdN_snoc, if_pos z]; omega)
        rw [List.length_append] at this
        exact this
  exact key (DH A) [] 0 (List.nil_append _).symm rfl
/-- the minute in which most have one, the earliest -/
def worstR (Hc : SayL) (b : Int) : Prop := ((∀ m, crowdN Hc m ≤ 0) ∧ b = -1) ∨ (0 < crowdN Hc b ∧ (∀ m, crowdN Hc m ≤ crowdN Hc b) ∧ ∀ m, m < b → crowdN Hc m < crowdN Hc b)
theorem worstR.one {Hc : SayL} {b c : Int} (h : worstR Hc b) (h' : worstR Hc c) : b = c := by
  rcases h with ⟨h1, h2⟩ | ⟨h1, h2, h3⟩ <;> rcases h' with ⟨g1, g2⟩ | ⟨g1, g2, g3⟩
  · omega
  · have := h1 c; omega
  · have := g1 b; omega
  · have := h2 c
    have := g2 b
    by_cases q1 : b < c
    · have := g3 b q1; omega
    · by_cases q2 : c < b
      · have := h3 c q2; omega
      · omega
/-- so far: the most, the earliest with it -/
def wst (X : SayL) (most at_ : Int) : Prop := (∀ m, crowdN X m ≤ most) ∧ ((most = 0 ∧ at_ = -1) ∨ (0 < most ∧ crowdN X at_ = most ∧ ∀ m, m < at_ → crowdN X m < most))
theorem wst.up {X : SayL} {x : Int × Int} {most at_ : Int} (h : wst X most at_) (hs : ∀ y ∈ X, y.1 ≤ x.1) : (most ≤ crowdN X x.1 → wst (X ++ [x]) (crowdN X x.1 + 1) x.1) ∧ (crowdN X x.1 < most → wst (X ++ [x]) most at_) := by
  obtain ⟨h1, h2⟩ := h
  have c0 : ∀ m, 0 ≤ crowdN X m := fun m => by unfold crowdN; omega
  refine ⟨fun z => ⟨fun m => ?_, Or.inr ⟨by have := c0 x.1; omega, ?_, fun m hm => ?_⟩⟩, fun z => ⟨fun m => ?_, ?_⟩⟩
  · rw [crowdN_snoc]
    have := h1 m
    split <;> omega
  · rw [crowdN_snoc, if_pos rfl]
  · rw [crowdN_snoc, if_neg (by omega)]
    have := h1 m
    omega
  · rw [crowdN_snoc]
    have := h1 m
    split
    · rename_i q; rw [← q]; omega
    · omega
  · have := c0 x.1
    rcases h2 with ⟨q1, _⟩ | ⟨q1, q2, q3⟩
    · omega
    · have hle : at_ ≤ x.1 := by
        have : 0 < X.countP (fun y => y.1 == at_) := by unfold crowdN at q2; omega
        obtain ⟨y, hy, hy2⟩ := List.countP_pos_iff.mp this
        have := hs y hy
        have : y.1 = at_ := by simpa using hy2
        omega
      have hne : x.1 ≠ at_ := fun q => by rw [q] at z; omega
      refine Or.inr ⟨q1, by rw [crowdN_snoc, if_neg hne]; omega, fun m hm => ?_⟩
      rw [crowdN_snoc, if_neg (by omega)]
      have := q3 m hm
      omega
theorem cx_worst {d : Nat} {sc : SC} {μ : Mem} {A : StT} (hd : 8 ≤ d) (h : RX μ A) : CTi mX9_worst d sc [(2, 0)] μ (AX μ A (worstR (DH A))) := by
  refine CTi_of mp_X9_worst (Nat.le_of_ble_eq_true rfl) ?_
  refine s_X9_worst_0 (ca_know hd h (fun μ' f r ka => ?_))
  have hlen : (DH A).length ≤ 500 := dh_len r.1.wfs.2.1
  have key : ∀ (Y X : SayL) (most at_ from_ : Int), DH A = X ++ Y → wst X most at_ → (0 ≤ most ∧ most ≤ X.length) → ((X = [] ∧ from_ = 0) ∨ (∃ u, (∀ y ∈ X, y.1 ≤ u) ∧ μ' 107 from_ = u ∧ crowdN X u = X.length - from_ ∧ 0 ≤ from_ ∧ from_ < X.length)) →
      WQ mX9_worst d sc (ZI sc (AX μ A (worstR (DH A)))) 13 [(2, 0), (0, most), (0, at_), (0, from_), (0, (X.length : Int))] [] μ' := by
    intro Y
    induction Y with
    | nil =>
      intro X most at_ from_ hX hW hb hJ
      rw [List.append_nil] at hX
      refine s_X9_worst_13 ⟨fun _ => ⟨?_, r, f.x⟩, fun z => by rw [ka.hr.1, hX] at z; omega⟩
      rw [hX]
      rcases hW with ⟨w1, ⟨w2, w3⟩ | ⟨w2, w3, w4⟩⟩
      · exact Or.inl ⟨fun m => by have := w1 m; omega, w3⟩
      · exact Or.inr ⟨by omega, fun m => by have := w1 m; omega, fun m hm => by have := w4 m hm; omega⟩
    | cons x Y ih =>
      intro X most at_ from_ hX hW hb hJ
      have hat : μ' 106 (X.length : Int) = x.2 ∧ μ' 107 (X.length : Int) = x.1 := HR.at (by rw [← hX]; exact ka.hr : HR μ' 105 (X ++ x :: Y))
      have hl : (DH A).length = X.length + (Y.length + 1) := by rw [hX]; simp
      have hsort : ∀ y ∈ X, y.1 ≤ x.1 := by
        have := hicL_sorted (daySt (gapQ (aH A) (aP A)) (ansQ (aH A) (aP A)) (aP A) 100) 100
        have hX' : hicL (daySt (gapQ (aH A) (aP A)) (ansQ (aH A) (aP A)) (aP A) 100) 100 = X ++ x :: Y := hX
        rw [hX', List.pairwise_append] at this
        exact fun y hy => this.2.2 y hy x (by simp)
      have hup := hW.up (x := x) hsort
      have hc0 : ∀ m, 0 ≤ crowdN X m ∧ crowdN X m ≤ X.length := fun m => by
        unfold crowdN
        have := List.countP_le_length (p := fun x : Int × Int => x.1 == m) (l := X)
        omega
      -- with the run's first place
      have step : ∀ fr : Int, 0 ≤ fr → fr ≤ X.length → μ' 107 fr = x.1 → crowdN X x.1 = X.length - fr → ∀ most' at' : Int, ((most ≤ X.length - fr ∧ most' = X.length - fr + 1 ∧ at' = x.1) ∨ (X.length - fr < most ∧ most' = most ∧ at' = at_)) →
          WQ mX9_worst d sc (ZI sc (AX μ A (worstR (DH A)))) 13 [(2, 0), (0, most'), (0, at'), (0, fr), (0, (X.length : Int) + 1)] [] μ' := by
        intro fr f0 f1 f2 f3 most' at' hc
        have hJ' : ∃ u, (∀ y ∈ X ++ [x], y.1 ≤ u) ∧ μ' 107 fr = u ∧ crowdN (X ++ [x]) u = (X ++ [x]).length - fr ∧ 0 ≤ fr ∧ fr < (X ++ [x]).length := by
          refine ⟨x.1, fun y hy => ?_, f2, ?_, f0, by simp; omega⟩
          · rw [List.mem_append] at hy
            rcases hy with hy | hy
            · exact hsort y hy
            · rw [List.mem_singleton.mp hy]; exact Int.le_refl _
          · rw [crowdN_snoc, if_pos rfl]; simp; omega
        rcases hc with ⟨c1, c2, c3⟩ | ⟨c1, c2, c3⟩
        · have := ih (X ++ [x]) most' at' fr (by rw [hX]; simp) (by rw [c2, c3, ← f3]; exact hup.1 (by omega)) (by simp; omega) (Or.inr hJ')
          rw [List.length_append] at this
          exact this
        · have := ih (X ++ [x]) most' at' fr (by rw [hX]; simp) (by rw [c2, c3]; exact hup.2 (by omega)) (by simp; omega) (Or.inr hJ')
          rw [List.length_append] at this
          exact this
      have hfr : 0 ≤ from_ ∧ from_ ≤ X.length := by
        rcases hJ with ⟨j1, j2⟩ | ⟨u, j1, j2, j3, j4, j5⟩
        · omega
        · omega
      refine s_X9_worst_13 ⟨fun z => by rw [ka.hr.1] at z; omega, fun _ => ⟨by omega, by omega, fun z => ?_, fun z => ?_⟩⟩
      · -- the run goes on
        rw [hat.2] at z
        have hcn : crowdN X x.1 = X.length - from_ := by
          rcases hJ with ⟨j1, j2⟩ | ⟨u, j1, j2, j3, j4, j5⟩
          · rw [j1, j2]; rfl
          · rw [z, j2]; exact j3
        have st := step from_ hfr.1 hfr.2 z.symm hcn
        refine ⟨by omega, fun c => ⟨by omega, ?_⟩, fun c => ⟨by omega, by omega, ?_⟩⟩
        · rintro _ rfl
          exact st most at_ (Or.inr ⟨c, rfl, rfl⟩)
        · intro v hv
          refine ⟨by omega, ?_⟩
          intro w hw
          refine ⟨by omega, ?_⟩
          rintro _ rfl
          exact st v w (Or.inl ⟨c, hv, by rw [hw]; exact hat.2⟩)
      · -- a new run
        rw [hat.2] at z
        have hcn : crowdN X x.1 = X.length - (X.length : Int) := by
          rcases hJ with ⟨j1, j2⟩ | ⟨u, j1, j2, j3, j4, j5⟩
          · rw [j1]; rfl
          · rw [Int.sub_self]
            have : ¬ 0 < X.countP (fun y => y.1 == x.1) := fun q => by
              obtain ⟨y, hy, hy2⟩ := List.countP_pos_iff.mp q
              have h1 := j1 y hy
              have h3 : y.1 = x.1 := by simpa using hy2
              have hu : 0 < X.countP (fun y => y.1 == u) := by unfold crowdN at j3; omega
              obtain ⟨y2, hy3, hy4⟩ := List.countP_pos_iff.mp hu
              have h4 := hsort y2 hy3
              have h5 : y2.1 = u := by simpa using hy4
              exact z (by rw [j2]; omega)
            unfold crowdN; omega
        have st := step X.length (by omega) (by omega) hat.2 hcn
        refine ⟨by omega, fun c => ⟨by omega, ?_⟩, fun c => ⟨by omega, by omega, ?_⟩⟩
        · rintro _ rfl
          exact st most at_ (Or.inr ⟨c, rfl, rfl⟩)
        · intro v hv
          refine ⟨by omega, ?_⟩
          intro w hw
          refine ⟨by omega, ?_⟩
          rintro _ rfl
          exact st v w (Or.inl ⟨c, hv, by rw [hw]; exact hat.2⟩)
  exact key (DH A) [] 0 (-1) 0 (List.nil_append _).symm ⟨fun m => Int.le_refl 0, Or.inl ⟨rfl, rfl⟩⟩ ⟨by decide, by decide⟩ (Or.inl ⟨rfl, rfl⟩)
def whoS (A : StT) (p g t : Int) : Int := if ipS A p then (if (1 ≤ g ∧ g ≤ 20) ∧ 0 ≤ t ∧ t ≤ 9 then bitsF (fun q => decide (q ≠ p ∧ gapS (aH A) (aP A) q p = g ∧ pitchS (aH A) (aP A) q p = t)) (hP (aH A)).toNat else -3) else -2
theorem cx_who {d : Nat} {sc : SC} {μ : Mem} {A : StT} {p g t : Int} (hd : 8 ≤ d) (h : RX μ A) : CTi mX9_who d sc [(2, 0), (0, p), (0, g), (0, t)] μ (AX μ A (fun x => x = whoS A p g t)) := by
  have h6 := h.1.wfh.2.2.1
  refine CTi_of mp_X9_who (Nat.le_of_ble_eq_true rfl) ?_
  have bad : ¬ ((1 ≤ g ∧ g ≤ 20) ∧ 0 ≤ t ∧ t ≤ 9) → ipS A p → AX μ A (fun x => x = whoS A p g t) (-3) μ := fun z zp => AX.here h (by show _ = _; unfold whoS; rw [if_pos zp, if_neg z])
  refine s_X9_who_0 (ca_isPerson (by omega) h.1 (fun zp => ⟨fun q => absurd rfl q, fun _ => AX.here h (if_neg zp).symm⟩) (fun zp => ⟨fun _ => ?_, fun q => absurd q (by decide)⟩))
  refine ca_isGap (by omega) (fun z => ⟨fun _ => bad (by omega) zp, fun q => absurd rfl q⟩) (fun zg => ⟨fun q => absurd q (by decide), fun _ => ⟨fun z => bad (by omega) zp, fun z1 => ⟨fun z2 => ?_, fun z => bad (by omega) zp⟩⟩⟩)
  refine ca_know hd h (fun μ' f r ka => ?_)
  have hp0 := zp.1
  have hp1 := zp.2
  generalize hF : (fun q : Int => decide (q ≠ p ∧ gapS (aH A) (aP A) q p = g ∧ pitchS (aH A) (aP A) q p = t)) = F
  have key : ∀ (n q : Nat), (q : Int) + n = hP (aH A) → WQ mX9_who d sc (ZI sc (AX μ A (fun x => x = whoS A p g t))) 42 [(2, 0), (0, p), (0, g), (0, t), (0, bitsF F q), (0, (q : Int)), (9, 0)] [] μ' := by
    intro n
    induction n with
    | zero =>
      intro q hq
      refine s_X9_who_42 ⟨r.1.now.1, ?_⟩
      rw [r.1.np]
      refine ⟨fun _ => ⟨?_, r, f.x⟩, fun z => by omega⟩
      show _ = _
      unfold whoS; rw [if_pos zp, if_pos ⟨zg, z1, z2⟩, hF, show (hP (aH A)).toNat = q by omega]
    | succ n ih =>
      intro q hq
      refine s_X9_who_42 ⟨r.1.now.1, ?_⟩
      rw [r.1.np]
      refine ⟨fun z => by omega, fun _ => ⟨by omega, by omega, ?_⟩⟩
      have no : F q = false → WQ mX9_who d sc (ZI sc (AX μ A (fun x => x = whoS A p g t))) 42 [(2, 0), (0, p), (0, g), (0, t), (0, bitsF F q), (0, (q : Int) + 1), (9, 0)] [] μ' := fun e => by
        have := ih (q + 1) (by omega)
        rw [bitsF, e, if_neg (by decide), Int.add_zero] at this
        exact this
      rintro _ rfl
      refine ⟨fun z => ⟨by omega, ?_⟩, fun zq => ?_⟩
      · rintro _ rfl
        exact no (by rw [← hF]; simp [z])
      have G : μ' 99 ((q : Int) * 6 + p) = gapS (aH A) (aP A) q p ∧ μ' 100 ((q : Int) * 6 + p) = pitchS (aH A) (aP A) q p ∧ μ' 98 ((q : Int) * 6 + p) = farOf (aH A) (aP A) q p := ka.1.2.1 q p (by omega) (by omega) hp0 hp1 zq
      rw [G.1, G.2.1]
      refine ⟨by omega, fun z => ⟨by omega, ?_⟩, fun zg2 => ⟨by omega, fun z => ⟨by omega, ?_⟩, fun zt => ?_⟩⟩
      · rintro _ rfl
        exact no (by rw [← hF]; simp [z])
      · rintro _ rfl
        exact no (by rw [← hF]; simp [z])
      · intro v hv
        refine ⟨by omega, ?_⟩
        rintro _ rfl
        have e : F q = true := by rw [← hF]; simp [zq, zg2, zt]
        have := ih (q + 1) (by omega)
        rw [bitsF, if_pos e] at this
        rw [hv, or_up (bitsF_b _ _) (by omega)]
        exact this
  exact key (hP (aH A)).toNat 0 (by omega)

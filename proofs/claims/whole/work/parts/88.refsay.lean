/-! THE REFERENCE: saying, hiccups of a minute -/
def DRm (μ : Mem) (S : SayL) (t0 : Int) : Prop := DueRep (μ 195) (μ 196) (μ 199) (fun j => μ 197 j * 6 + μ 198 j) S t0 ∧ μ 183 35 = S.length ∧ ∀ i : Nat, ∀ h : i < S.length, μ 197 i = (S[i]).2 / 6 ∧ μ 198 i = (S[i]).2 % 6
def FS (μ μ' : Mem) : Prop := ∀ b j, (b = 183 → j ≠ 35) → (b < 195 ∨ 199 < b) → μ' b j = μ b j
theorem FS.refl (μ : Mem) : FS μ μ := fun _ _ _ _ => rfl
theorem FS.tr {μ1 μ2 μ3 : Mem} (h : FS μ1 μ2) (h' : FS μ2 μ3) : FS μ1 μ3 := fun b j q1 q2 => by rw [h' b j q1 q2]; exact h b j q1 q2
theorem DRm.same {μ μ' : Mem} {S : SayL} {t0 : Int} (h : DRm μ S t0) (ht : 0 ≤ t0) (h35 : μ' 183 35 = μ 183 35) (hs : ∀ b j, 195 ≤ b → b ≤ 199 → μ' b j = μ b j) : DRm μ' S t0 := by
  obtain ⟨q1, q2, q3⟩ := h
  refine ⟨q1.congr (fun u _ _ => ⟨hs _ _ (by omega) (by omega), hs _ _ (by omega) (by omega)⟩) (fun j _ _ => ⟨hs _ _ (by omega) (by omega), by show μ' 197 j * 6 + μ' 198 j = _; rw [hs 197 _ (by omega) (by omega), hs 198 _ (by omega) (by omega)]⟩) ht, by rw [h35]; exact q2, fun i hi => by rw [hs _ _ (by omega) (by omega), hs _ _ (by omega) (by omega)]; exact q3 i hi⟩
theorem cb_says {d : Nat} {sc : SC} {μ : Mem} {H : HillT} {P : PlanT} {S : SayL} {a b t t0 : Int} {R : Mem → Prop} (hd : 1 ≤ d) (hG : GG μ H P) (h6 : hP H ≤ 6) (ha : 0 ≤ a ∧ a < hP H) (hb : 0 ≤ b ∧ b < hP H) (hab : a ≠ b) (ht : 0 ≤ t ∧ t < 100) (hD : DRm μ S t0) (ht0 : 0 ≤ t0 ∧ t0 ≤ t + 1) (hS : S.length < 640) (k : ∀ μ', FS μ μ' → DRm μ' (S ++ dueL (gapQ H P) t [a * 6 + b]) t0 → R μ') : CAv mX10_says d sc [(2, 183), (0, a), (0, b), (0, t)] μ R := by
  have hg := hG a b ha.1 ha.2 hb.1 hb.2 hab
  have hgb := gapS_b H P a b
  have q1 : (a * 6 + b) / 6 = a := by omega
  have q2 : (a * 6 + b) % 6 = b := by omega
  have hgq : gapQ H P (a * 6 + b) = gapS H P a b := by unfold gapQ; rw [q1, q2]
  refine byV (d' := 0) (by omega) (Q := R) ?_ (fun _ z => z)
  refine CTv_of mp_X10_says (Nat.le_of_ble_eq_true rfl) ?_
  refine s_X10_says_0 ?_
  rw [show 6 * a + b = a * 6 + b by omega, hg]
  refine ⟨by omega, by omega, by omega, by omega, ?_⟩
  intro v5 h5
  obtain ⟨hD1, hN, hD3⟩ := hD
  refine ⟨fun hlt => ?_, fun hge => ?_⟩
  rotate_left
  · have e : dueL (gapQ H P) t [a * 6 + b] = [] := by simp [dueL, hgq]; omega
    rw [e, List.append_nil] at k
    exact k μ (FS.refl μ) ⟨hD1, hN, hD3⟩
  have e : dueL (gapQ H P) t [a * 6 + b] = [(v5, a * 6 + b)] := by simp [dueL, hgq, h5]; omega
  rw [e] at k
  have hch := chain_nil (fun x hx => (idxF_b _ _ _ _ hx).1) (hD1.2 v5 (by omega) (by omega)).1
  have hlast : 0 ≤ μ 195 v5 → 0 ≤ μ 196 v5 ∧ μ 196 v5 < S.length := by
    intro h0
    have hne : idxF 0 S v5 ≠ [] := fun z => by have := hch.1.mp z; omega
    obtain ⟨z, hz⟩ : ∃ z, (idxF 0 S v5).getLast? = some z := by
      cases hx : (idxF 0 S v5).getLast? with
      | none => rw [List.getLast?_eq_none_iff] at hx; exact absurd hx hne
      | some z => exact ⟨z, rfl⟩
    rw [(hD1.2 v5 (by omega) (by omega)).2 z hz]
    have := idxF_b _ _ _ _ (List.mem_of_getLast? hz)
    omega
  have hm1 : μ 195 v5 < 0 → μ 195 v5 = -1 := hch.2
  generalize hNN : (S.length : Int) = N at *
  have fin : ∀ μ' : Mem, (∀ c j, μ' c j = if c = 183 ∧ j = 35 then N + 1 else if c = 195 ∧ j = v5 ∧ μ 195 v5 < 0 then N else if c = 196 ∧ j = v5 then N else if c = 197 ∧ j = N then a else if c = 198 ∧ j = N then b else if c = 199 ∧ 0 ≤ μ 195 v5 ∧ j = μ 196 v5 then N else if c = 199 ∧ j = N then -1 else μ c j) → R μ' := by
    intro μ' h'
    refine k μ' (fun c j y1 y2 => by rw [h']; grind) ⟨?_, ?_, fun i hi => ?_⟩
    · refine hD1.say (N := N) hNN.symm ⟨by omega, by omega⟩ (fun i _ _ => ?_) (fun u _ _ => ?_) (fun u _ _ => ?_) (fun i _ _ => ?_)
      · show μ' 197 i * 6 + μ' 198 i = _
        rw [h', h']; grind
      · rw [h']; grind
      · rw [h']; grind
      · rw [h']; grind
    · rw [h', if_pos ⟨rfl, rfl⟩, List.length_append, List.length_singleton]; omega
    · rw [List.length_append, List.length_singleton] at hi
      by_cases y : i = S.length
      · subst y
        rw [h', h']
        have : ((S.length : Nat) : Int) = N := hNN
        simp [this, q1, q2]
      · have h3 := hD3 i (by omega)
        rw [h', h', List.getElem_append_left (by omega)]
        have : ¬ (i : Int) = N := by omega
        simp [this, h3]
  rw [hN]
  refine ⟨by omega, ?_⟩
  intro μ8 e8
  have a8 : μ8 183 35 = N := by rw [e8, mup_ap, if_neg (fun y => by omega)]; exact hN
  rw [a8]
  refine ⟨by omega, ?_⟩
  intro μ10 e10
  have a10 : μ10 183 35 = N := by rw [e10, mup_ap, if_neg (fun y => by omega)]; exact a8
  rw [a10]
  refine ⟨by omega, ?_⟩
  intro μ12 e12
  have g12 : ∀ c j : Int, c ≠ 197 → c ≠ 198 → c ≠ 199 → μ12 c j = μ c j := fun c j y1 y2 y3 => by rw [e12, mup_ap, if_neg (fun y => y3 y.1), e10, mup_ap, if_neg (fun y => y2 y.1), e8, mup_ap, if_neg (fun y => y1 y.1)]
  rw [g12 195 v5 (by omega) (by omega) (by omega), g12 196 v5 (by omega) (by omega) (by omega), g12 183 35 (by omega) (by omega) (by omega), hN]
  refine ⟨by omega, fun h0 => ?_, fun h0 => ?_⟩
  · have hl := hlast (by omega)
    refine ⟨by omega, by omega, ?_⟩
    intro μ17 e17
    have a17 : μ17 183 35 = N := by rw [e17, mup_ap, if_neg (fun y => by omega), g12 _ _ (by omega) (by omega) (by omega)]; exact hN
    rw [a17]
    refine ⟨by omega, ?_⟩
    intro μ19 e19
    have a19 : μ19 183 35 = N := by rw [e19, mup_ap, if_neg (fun y => by omega)]; exact a17
    rw [a19]
    refine ⟨by omega, ?_⟩
    intro μ21 e21
    refine fin μ21 (fun c j => ?_)
    have : 0 ≤ μ 195 v5 := by omega
    rw [e21, mup_ap, e19, mup_ap, e17, mup_ap, e12, mup_ap, e10, mup_ap, e8, mup_ap]
    grind
  · refine ⟨by omega, ?_⟩
    intro μ23 e23
    have a23 : μ23 183 35 = N := by rw [e23, mup_ap, if_neg (fun y => by omega), g12 _ _ (by omega) (by omega) (by omega)]; exact hN
    rw [a23]
    refine ⟨by omega, ?_⟩
    intro μ25 e25
    have a25 : μ25 183 35 = N := by rw [e25, mup_ap, if_neg (fun y => by omega)]; exact a23
    rw [a25]
    refine ⟨by omega, ?_⟩
    intro μ27 e27
    refine fin μ27 (fun c j => ?_)
    rw [e27, mup_ap, e25, mup_ap, e23, mup_ap, e12, mup_ap, e10, mup_ap, e8, mup_ap]
    grind
def HM (μ : Mem) (Hc : SayL) : Prop := μ 183 36 = Hc.length ∧ ∀ i : Nat, ∀ h : i < Hc.length, μ 200 i = (Hc[i]).2 % 6 ∧ μ 202 i = (Hc[i]).2 / 6 ∧ μ 201 i = (Hc[i]).1
theorem HM.same {μ μ' : Mem} {Hc : SayL} (h : HM μ Hc) (h0 : μ' 183 36 = μ 183 36) (hs : ∀ b j, 200 ≤ b → b ≤ 202 → μ' b j = μ b j) : HM μ' Hc := ⟨by rw [h0]; exact h.1, fun i hi => by rw [hs _ _ (by omega) (by omega), hs _ _ (by omega) (by omega), hs _ _ (by omega) (by omega)]; exact h.2 i hi⟩
theorem HM.add {μ μ' : Mem} {t q : Int} {Hc : SayL} (h : HM μ Hc) (h0 : μ' 183 36 = (Hc.length : Int) + 1) (h1 : ∀ i : Int, μ' 200 i = if i = Hc.length then q % 6 else μ 200 i) (h2 : ∀ i : Int, μ' 202 i = if i = Hc.length then q / 6 else μ 202 i) (h3 : ∀ i : Int, μ' 201 i = if i = Hc.length then t else μ 201 i) : HM μ' (Hc ++ [(t, q)]) := by
  refine ⟨by rw [h0]; simp, fun i hi => ?_⟩
  rw [List.length_append, List.length_singleton] at hi
  rw [h1, h2, h3]
  by_cases y : i = Hc.length
  · subst y
    rw [if_pos rfl, if_pos rfl, if_pos rfl]; simp
  · rw [if_neg (by omega), if_neg (by omega), if_neg (by omega), List.getElem_append_left (by omega)]
    exact h.2 i (by omega)
def FCm (μ μ' : Mem) : Prop := ∀ b j, (b = 183 → j ≠ 36) → (b < 200 ∨ 202 < b) → μ' b j = μ b j
theorem gd_come {d : Nat} {sc : SC} {μ : Mem} {R : Mem → Prop} {S Hc : SayL} {t x1 x3 : Int} (ht : 0 ≤ t ∧ t < 100) (hD : DRm μ S t) (hH : HM μ Hc) (hq : ∀ x ∈ S, 0 ≤ x.2 ∧ x.2 < 36) (hlen : Hc.length + (hicAt S t).length ≤ 600) (hS : S.length ≤ 600)
    (k : ∀ bz μ', (0 ≤ bz ∧ bz < 64) → (∀ p, 0 ≤ p → p < 6 → (bitN bz p = muteB (hicAt S t) p)) → HM μ' (Hc ++ (hicAt S t).map (fun q => (t, q))) → FCm μ μ' → WQ mX10_goesDay d sc (ZV sc R) 188 [(2, 183), (0, x1), (0, t), (0, x3), (0, bz), (0, 0), (9, 0)] [] μ') :
    WQ mX10_goesDay d sc (ZV sc R) 101 [(2, 183), (0, x1), (0, t), (0, x3), (0, 0), (0, μ 195 t), (9, 0)] [] μ := by
  obtain ⟨⟨hpr, hch⟩, hN, hSP⟩ := hD
  have hc := (hch t (Int.le_refl _) ht.2).1
  have hval := idxF_val S 0 t (fun i => μ 197 i * 6 + μ 198 i) (fun i hi => by rw [Int.zero_add]; exact hpr i hi)
  have hb : ∀ x ∈ idxF 0 S t, 0 ≤ x ∧ x < S.length := fun x hx => by have := idxF_b _ _ _ _ hx; omega
  have key : ∀ (l pre : List Int) (i : Int) (bz : Int) (μ1 : Mem), pre ++ l = idxF 0 S t → chain (μ 199) l i → FCm μ μ1 → HM μ1 (Hc ++ (pre.map (fun i => μ 197 i * 6 + μ 198 i)).map (fun q => (t, q))) → (0 ≤ bz ∧ bz < 64) → (∀ p, 0 ≤ p → p < 6 → (bitI bz p ↔ muteB (pre.map (fun i => μ 197 i * 6 + μ 198 i)) p = true)) →
      WQ mX10_goesDay d sc (ZV sc R) 101 [(2, 183), (0, x1), (0, t), (0, x3), (0, bz), (0, i), (9, 0)] [] μ1 := by
    intro l
    induction l with
    | nil =>
      intro pre i bz μ1 hl hci hf hHR hbz hbits
      rw [List.append_nil] at hl
      rw [hl, hval] at hHR hbits
      refine s_X10_goesDay_101 ⟨fun _ => k bz μ1 hbz (fun p p0 p1 => ?_) hHR hf, fun z => ?_⟩
      · have := hbits p p0 p1
        have hb2 : bitN bz p = true ↔ bitI bz p := by unfold bitN bitI; rw [decide_eq_true_eq]
        rw [← hb2] at this
        exact Bool.eq_iff_iff.mpr this
      · simp only [chain] at hci
        omega
    | cons y l ih =>
      intro pre i bz μ1 hl hci hf hHR hbz hbits
      obtain ⟨rfl, hci⟩ := hci
      have hy := hb i (by rw [← hl]; simp)
      have hsp := hSP i.toNat (by omega)
      rw [show ((i.toNat : Nat) : Int) = i by omega] at hsp
      have hs36 := hq (S[i.toNat]) (List.getElem_mem _)
      generalize S[i.toNat] = z at *
      have hqv : μ 197 i * 6 + μ 198 i = z.2 := by rw [hsp.1, hsp.2]; omega
      have g : ∀ c j : Int, c < 200 → (c = 183 → j ≠ 36) → μ1 c j = μ c j := fun c j y1 y2 => hf c j y2 (by omega)
      have h0 := hHR.1
      have hlen1 : ((Hc ++ (pre.map (fun i => μ 197 i * 6 + μ 198 i)).map (fun q => (t, q))).length : Int) = (Hc.length : Int) + pre.length := by rw [List.length_append, List.length_map, List.length_map]; omega
      have hlt : Hc.length + pre.length < 600 := by
        have e : (hicAt S t).length = pre.length + (l.length + 1) := by rw [← hval, ← hl]; simp
        omega
      refine s_X10_goesDay_101 ⟨fun z => by omega, fun _ => ⟨by omega, by omega, ?_⟩⟩
      rw [g 198 i (by omega) (by omega), hsp.2]
      intro μ4 e4
      have a4 : μ4 183 36 = μ1 183 36 := by rw [e4, mup_ap, if_neg (fun y => by omega)]
      have b4 : μ4 197 i = z.2 / 6 := by rw [e4, mup_ap, if_neg (fun y => by omega), g _ _ (by omega) (by omega)]; exact hsp.1
      rw [a4, b4]
      refine ⟨by omega, by omega, ?_⟩
      intro μ7 e7
      have a7 : μ7 183 36 = μ1 183 36 := by rw [e7, mup_ap, if_neg (fun y => by omega)]; exact a4
      rw [a7]
      refine ⟨by omega, ?_⟩
      intro μ9 e9
      have a9 : μ9 183 36 = μ1 183 36 := by rw [e9, mup_ap, if_neg (fun y => by omega)]; exact a7
      rw [a9]
      refine ⟨by omega, ?_⟩
      intro μ11 e11
      have g11 : ∀ c j : Int, (c = 183 → j ≠ 36) → (c < 200 ∨ 202 < c) → μ11 c j = μ1 c j := fun c j y1 y2 => by rw [e11, mup_ap, if_neg (fun y => y1 y.1 y.2), e9, mup_ap, if_neg (fun y => by omega), e7, mup_ap, if_neg (fun y => by omega), e4, mup_ap, if_neg (fun y => by omega)]
      have c198 : μ11 198 i = z.2 % 6 := by rw [g11 _ _ (by omega) (by omega), g _ _ (by omega) (by omega)]; exact hsp.2
      have c199 : μ11 199 i = μ 199 i := by rw [g11 _ _ (by omega) (by omega), g _ _ (by omega) (by omega)]
      rw [c198, c199]
      refine ⟨by omega, ?_⟩
      rintro _ rfl
      refine ⟨by omega, ?_⟩
      rintro _ rfl
      have hbo := fun p (p0 : 0 ≤ p) (p1 : p < 6) => bitI_or (x := bz) (w := z.2 % 6) (p := p) hbz (by omega) ⟨p0, p1⟩
      refine ih (pre ++ [i]) _ _ μ11 (by rw [← hl]; simp) hci (fun c j y1 y2 => by rw [g11 c j y1 y2]; exact hf c j y1 y2) ?_ (hbo 0 (by decide) (by decide)).2 (fun p p0 p1 => ?_)
      · have e : Hc ++ List.map (fun q => (t, q)) (List.map (fun i => μ 197 i * 6 + μ 198 i) (pre ++ [i])) = (Hc ++ List.map (fun q => (t, q)) (List.map (fun i => μ 197 i * 6 + μ 198 i) pre)) ++ [(t, z.2)] := by simp [hqv]
        rw [e]
        refine hHR.add ?_ (fun j => ?_) (fun j => ?_) (fun j => ?_)
        · rw [e11, mup_at, h0]
        · rw [← h0, e11, mup_ap, if_neg (fun y => by omega), e9, mup_ap, if_neg (fun y => by omega), e7, mup_ap, if_neg (fun y => by omega), e4, mup_ap]
          by_cases y : j = μ1 183 36
          · rw [if_pos ⟨rfl, y⟩, if_pos y]
          · rw [if_neg (fun q => y q.2), if_neg y]
        · rw [← h0, e11, mup_ap, if_neg (fun y => by omega), e9, mup_ap, if_neg (fun y => by omega), e7, mup_ap]
          by_cases y : j = μ1 183 36
          · rw [if_pos ⟨rfl, y⟩, if_pos y]
          · rw [if_neg (fun q => y q.2), if_neg y, e4, mup_ap, if_neg (fun y => by omega)]
        · rw [← h0, e11, mup_ap, if_neg (fun y => by omega), e9, mup_ap]
          by_cases y : j = μ1 183 36
          · rw [if_pos ⟨rfl, y⟩, if_pos y]
          · rw [if_neg (fun q => y q.2), if_neg y, e7, mup_ap, if_neg (fun y => by omega), e4, mup_ap, if_neg (fun y => by omega)]
      · have e : List.map (fun i => μ 197 i * 6 + μ 198 i) (pre ++ [i]) = List.map (fun i => μ 197 i * 6 + μ 198 i) pre ++ [z.2] := by simp [hqv]
        rw [e, muteB_app, Bool.or_eq_true, ← hbits p p0 p1, (hbo p p0 p1).1]
        have : muteB [z.2] p = true ↔ z.2 % 6 = p := by simp [muteB]
        rw [this]
  refine key (idxF 0 S t) [] (μ 195 t) 0 μ rfl hc (fun _ _ _ _ => rfl) ?_ (by decide) (fun p p0 p1 => ?_)
  · simpa using hH
  · have := bitI_0 (p := p) ⟨p0, p1⟩
    simp [muteB, this]

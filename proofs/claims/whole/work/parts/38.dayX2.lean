/-! THE CLASS'S DAY: who has a hiccup now -/
def bitI (x p : Int) : Prop := iAnd (iShr x p) 1 ≠ 0
theorem bitI_or {x w p : Int} (hx : 0 ≤ x ∧ x < 64) (hw : 0 ≤ w ∧ w < 6) (hp : 0 ≤ p ∧ p < 6) : (bitI (iOr x (iShl 1 w)) p ↔ bitI x p ∨ w = p) ∧ 0 ≤ iOr x (iShl 1 w) ∧ iOr x (iShl 1 w) < 64 := by
  have H : ∀ n : Nat, n < 2304 → ((iAnd (iShr (iOr (n / 36 : Nat) (iShl 1 (n / 6 % 6 : Nat))) (n % 6 : Nat)) 1 ≠ 0 ↔ (iAnd (iShr (n / 36 : Nat) (n % 6 : Nat)) 1 ≠ 0 ∨ n / 6 % 6 = n % 6)) ∧ 0 ≤ iOr (n / 36 : Nat) (iShl 1 (n / 6 % 6 : Nat)) ∧ iOr (n / 36 : Nat) (iShl 1 (n / 6 % 6 : Nat)) < 64) := by decide +kernel
  have h := H (x.toNat * 36 + w.toNat * 6 + p.toNat) (by omega)
  rw [show (x.toNat * 36 + w.toNat * 6 + p.toNat) / 36 = x.toNat by omega, show (x.toNat * 36 + w.toNat * 6 + p.toNat) / 6 % 6 = w.toNat by omega, show (x.toNat * 36 + w.toNat * 6 + p.toNat) % 6 = p.toNat by omega] at h
  rw [show ((x.toNat : Nat) : Int) = x by omega, show ((w.toNat : Nat) : Int) = w by omega, show ((p.toNat : Nat) : Int) = p by omega] at h
  unfold bitI
  refine ⟨⟨fun q => ?_, fun q => h.1.mpr (q.imp id (fun z => by omega))⟩, h.2⟩
  exact (h.1.mp q).imp id (fun z => by omega)
theorem bitI_0 {p : Int} (hp : 0 ≤ p ∧ p < 6) : ¬ bitI 0 p := by
  have H : ∀ p : Nat, p < 6 → iAnd (iShr 0 p) 1 = 0 := by decide +kernel
  have h := H p.toNat (by omega)
  rw [show ((p.toNat : Nat) : Int) = p by omega] at h
  unfold bitI
  rw [h]
  exact fun z => z rfl
def HR (μ : Mem) (a : Int) (Hc : List (Int × Int)) : Prop := μ a 0 = Hc.length ∧ (∀ i : Nat, ∀ h : i < Hc.length, μ (a + 1) i = (Hc[i]).2 ∧ μ (a + 2) i = (Hc[i]).1) ∧ ∀ p, 0 ≤ p → p < 6 → μ (a + 3) p = (Hc.countP (fun x => x.2 % 6 == p) : Nat)
theorem HR.add {μ μ' : Mem} {a t q : Int} {Hc : List (Int × Int)} (h : HR μ a Hc) (h0 : μ' a 0 = (Hc.length : Int) + 1) (h1 : ∀ i : Int, 0 ≤ i → i ≤ Hc.length → μ' (a + 1) i = if i = Hc.length then q else μ (a + 1) i) (h2 : ∀ i : Int, 0 ≤ i → i ≤ Hc.length → μ' (a + 2) i = if i = Hc.length then t else μ (a + 2) i) (h3 : ∀ p, 0 ≤ p → p < 6 → μ' (a + 3) p = if p = q % 6 then μ (a + 3) p + 1 else μ (a + 3) p) : HR μ' a (Hc ++ [(t, q)]) := by
  refine ⟨by rw [h0]; simp, fun i hi => ?_, fun p p0 p1 => ?_⟩
  · rw [List.length_append] at hi
    simp at hi
    rw [h1 i (by omega) (by omega), h2 i (by omega) (by omega)]
    by_cases hi2 : i < Hc.length
    · rw [if_neg (by omega), if_neg (by omega), List.getElem_append_left hi2]
      exact h.2.1 i hi2
    · have : i = Hc.length := by omega
      subst this
      simp
  · rw [h3 p p0 p1, List.countP_append, h.2.2 p p0 p1]
    by_cases hp : p = q % 6
    · rw [if_pos hp]; simp [hp]
    · rw [if_neg hp]; simp [Ne.symm hp]
theorem muteB_app (l m : List Int) (p : Int) : muteB (l ++ m) p = (muteB l p || muteB m p) := by simp [muteB]
theorem ct_come {d : Nat} {sc : SC} {μ : Mem} {a t : Int} {S : SayL} {Hc : List (Int × Int)} (ha : isK 0 a) (ht : 0 ≤ t ∧ t < 100) (hD : DR μ a S t) (hH : HR μ a Hc) (hq : ∀ x ∈ S, 0 ≤ x.2 ∧ x.2 < 36) (hlen : Hc.length + (hicAt S t).length ≤ 511) (hS : S.length ≤ 512) :
    CTi mX0_come d sc [(2, a), (0, t)] μ (fun x μ' => (0 ≤ x ∧ x < 64) ∧ (∀ p, 0 ≤ p → p < 6 → (bitI x p ↔ muteB (hicAt S t) p = true)) ∧ HR μ' a (Hc ++ (hicAt S t).map (fun q => (t, q))) ∧ ∀ b j, (b = a → j ≠ 0) → b ≠ a + 1 → b ≠ a + 2 → b ≠ a + 3 → μ' b j = μ b j) := by
  have hav := ik_0 ha
  obtain ⟨⟨hpr, hch⟩, hN⟩ := hD
  have hc := (hch t (Int.le_refl _) ht.2).1
  have hval := idxF_val S 0 t (fun i => μ (a + 10) i) (fun i hi => by rw [Int.zero_add]; exact hpr i hi)
  have hb : ∀ x ∈ idxF 0 S t, 0 ≤ x ∧ x < S.length := fun x hx => by have := idxF_b _ _ _ _ hx; omega
  have hq2 : ∀ x ∈ hicAt S t, 0 ≤ x ∧ x < 36 := fun x hx => by
    unfold hicAt at hx
    obtain ⟨y, hy, rfl⟩ := List.mem_map.mp hx
    exact hq y (List.mem_filter.mp hy).1
  refine CTi_of mp_X0_come (Nat.le_of_ble_eq_true rfl) ?_
  refine s_X0_come_0 ha ⟨ht, ?_⟩
  rintro _ rfl
  have key : ∀ (l pre : List Int) (i : Int) (bz : Int) (μ1 : Mem), pre ++ l = idxF 0 S t → chain (μ (a + 11)) l i → (∀ b j, (b = a → j ≠ 0) → b ≠ a + 1 → b ≠ a + 2 → b ≠ a + 3 → μ1 b j = μ b j) → HR μ1 a (Hc ++ (pre.map (fun i => μ (a + 10) i)).map (fun q => (t, q))) → (0 ≤ bz ∧ bz < 64) → (∀ p, 0 ≤ p → p < 6 → (bitI bz p ↔ muteB (pre.map (fun i => μ (a + 10) i)) p = true)) →
      WQ mX0_come d sc (ZI sc (fun x μ' => (0 ≤ x ∧ x < 64) ∧ (∀ p, 0 ≤ p → p < 6 → (bitI x p ↔ muteB (hicAt S t) p = true)) ∧ HR μ' a (Hc ++ (hicAt S t).map (fun q => (t, q))) ∧ ∀ b j, (b = a → j ≠ 0) → b ≠ a + 1 → b ≠ a + 2 → b ≠ a + 3 → μ' b j = μ b j)) 9 [(2, a), (0, t), (0, bz), (0, i), (9, 0), (9, 0)] [] μ1 := by
    intro l
    induction l with
    | nil =>
      intro pre i bz μ1 hl hci hf hHR hbz hbits
      rw [List.append_nil] at hl
      rw [hl, hval] at hHR hbits
      refine s_X0_come_9 ha ⟨fun _ => ⟨hbz, hbits, hHR, hf⟩, fun z => ?_⟩
      simp only [chain] at hci
      omega
    | cons y l ih =>
      intro pre i bz μ1 hl hci hf hHR hbz hbits
      obtain ⟨rfl, hci⟩ := hci
      have hy := hb i (by rw [← hl]; simp)
      have hvm : μ (a + 10) i ∈ hicAt S t := by rw [← hval, ← hl]; simp
      have hv36 := hq2 _ hvm
      have hl10 : ∀ j, μ1 (a + 10) j = μ (a + 10) j := fun j => hf _ _ (by omega) (by omega) (by omega) (by omega)
      have hl11 : ∀ j, μ1 (a + 11) j = μ (a + 11) j := fun j => hf _ _ (by omega) (by omega) (by omega) (by omega)
      have h0 := hHR.1
      rw [List.length_append, List.length_map, List.length_map] at h0
      have hlt : Hc.length + pre.length < 511 := by
        have e : (hicAt S t).length = pre.length + (l.length + 1) := by rw [← hval, ← hl]; simp
        omega
      refine s_X0_come_9 ha ⟨fun z => by omega, fun _ => ⟨fun z => by omega, fun _ => ⟨by omega, ?_⟩⟩⟩
      rintro v4 e4
      rw [hl10] at e4
      subst e4
      refine ⟨by omega, ?_⟩
      rintro _ rfl
      refine ⟨by omega, ?_⟩
      rintro μ8 e8
      have m8 : μ8 a 0 = μ1 a 0 := by rw [e8, mup_ap, if_neg (fun z => by omega)]
      refine ⟨by omega, ?_⟩
      rintro μ10 e10
      have m10 : μ10 a 0 = μ1 a 0 := by rw [e10, mup_ap, if_neg (fun z => by omega), m8]
      refine ⟨by omega, ?_⟩
      rintro μ12 e12
      have hp3 : ∀ p, μ12 (a + 3) p = μ1 (a + 3) p := fun p => by
        rw [e12, mup_ap, if_neg (fun z => by omega), e10, mup_ap, if_neg (fun z => by omega), e8, mup_ap, if_neg (fun z => by omega)]
      have hcnt := hHR.2.2 (μ (a + 10) i % 6) (by omega) (by omega)
      have hcl : (List.countP (fun x => x.2 % 6 == μ (a + 10) i % 6) (Hc ++ (pre.map (fun i => μ (a + 10) i)).map (fun q => (t, q)))) ≤ Hc.length + pre.length := by
        refine Nat.le_trans List.countP_le_length ?_
        simp
      refine ⟨by omega, by rw [hp3]; omega, by omega, ?_⟩
      rintro μ16 e16
      rintro _ rfl
      have hbo := fun p (p0 : 0 ≤ p) (p1 : p < 6) => bitI_or (x := bz) (w := μ (a + 10) i % 6) (p := p) hbz (by omega) ⟨p0, p1⟩
      refine ⟨by omega, ?_⟩
      rintro _ rfl
      have hf16 : ∀ b j, (b = a → j ≠ 0) → b ≠ a + 1 → b ≠ a + 2 → b ≠ a + 3 → μ16 b j = μ b j := fun b j q0 q1 q2 q3 => by
        rw [e16, mup_ap, if_neg (fun z => q3 z.1), e12, mup_ap, if_neg (fun z => q0 z.1 z.2), e10, mup_ap, if_neg (fun z => q2 z.1), e8, mup_ap, if_neg (fun z => q1 z.1)]
        exact hf b j q0 q1 q2 q3
      have hnx : μ16 (a + 11) i = μ (a + 11) i := hf16 _ _ (by omega) (by omega) (by omega) (by omega)
      rw [hnx]
      refine ih (pre ++ [i]) _ _ μ16 (by rw [← hl]; simp) hci hf16 ?_ (hbo 0 (by decide) (by decide)).2 (fun p p0 p1 => ?_)
      · have e : Hc ++ List.map (fun q => (t, q)) (List.map (fun i => μ (a + 10) i) (pre ++ [i])) = (Hc ++ List.map (fun q => (t, q)) (List.map (fun i => μ (a + 10) i) pre)) ++ [(t, μ (a + 10) i)] := by simp
        rw [e]
        have hlen2 : ((Hc ++ List.map (fun q => (t, q)) (List.map (fun i => μ (a + 10) i) pre)).length : Int) = (Hc.length : Int) + pre.length := by simp
        refine hHR.add ?_ (fun j j0 j1 => ?_) (fun j j0 j1 => ?_) (fun p p0 p1 => ?_)
        · rw [e16, mup_ap, if_neg (fun z => by omega), e12, mup_ap, if_pos ⟨rfl, rfl⟩, m10, hlen2, h0]; omega
        · rw [e16, mup_ap, if_neg (fun z => by omega), e12, mup_ap, if_neg (fun z => by omega), e10, mup_ap, if_neg (fun z => by omega), e8, mup_ap]
          simp only [true_and]
          rw [hlen2, h0]
          grind
        · rw [e16, mup_ap, if_neg (fun z => by omega), e12, mup_ap, if_neg (fun z => by omega), e10, mup_ap, m8]
          simp only [true_and]
          rw [hlen2, h0]
          have : μ8 (a + 2) j = μ1 (a + 2) j := by rw [e8, mup_ap, if_neg (fun z => by omega)]
          rw [this]
          grind
        · rw [e16, mup_ap, hp3, hp3]
          simp only [true_and]
          grind
      · rw [(hbo p p0 p1).1, hbits p p0 p1, List.map_append, muteB_app]
        simp [muteB]
  exact key (idxF 0 S t) [] _ 0 μ (by simp) hc (fun _ _ _ _ _ _ => rfl) (by simpa using hH) (by decide) (fun p p0 p1 => ⟨fun z => absurd z (bitI_0 ⟨p0, p1⟩), fun z => by simp [muteB] at z⟩)

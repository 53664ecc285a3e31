/-! THE REFERENCE: silence -/
theorem sil_said {H : HillT} {P PN : PlanT} {p : Int} (hw : wfNp (hP H) PN) : silB H P PN p = false ↔ ∃ k, (0 ≤ k ∧ k < pN PN) ∧ pWho PN k = p ∧ saidF (gapQ H P) (ansQ H P) PN 100 k = true := by
  have hg := gapQ_ok H P
  have hn0 := hw.1
  constructor
  · intro h
    unfold silB at h
    rw [List.all_eq_false] at h
    obtain ⟨u, hu, hs⟩ := h
    rw [List.mem_range] at hu
    have hs2 : spkAt (gapQ H P) (ansQ H P) PN p u = true := by
      cases q : spkAt (gapQ H P) (ansQ H P) PN p u with
      | true => rfl
      | false => rw [q] at hs; exact absurd rfl hs
    unfold spkAt spk at hs2
    rw [List.any_eq_true] at hs2
    obtain ⟨k, hk, hb⟩ := hs2
    unfold ksF at hk
    rw [List.mem_map] at hk
    obtain ⟨k', hk', rfl⟩ := hk
    rw [List.mem_filter, List.mem_range'_1] at hk'
    obtain ⟨⟨k0, k1⟩, k2⟩ := hk'
    rw [Bool.and_eq_true] at hb
    have k3 : pAt PN k' = u := by simpa using k2
    have k4 : pWho PN k' = p := by simpa using hb.2
    refine ⟨k', ⟨by omega, by omega⟩, k4, ?_⟩
    unfold saidF
    rw [decide_eq_true (show 0 ≤ (k' : Int) ∧ (k' : Int) < pN PN ∧ pAt PN k' < ((100 : Nat) : Int) from ⟨by omega, by omega, by omega⟩), Bool.true_and, k3, hicAt_100 hg (t := u) (by omega) (Int.le_refl _)]
    exact hb.1
  · rintro ⟨k, hk, hp, hs⟩
    unfold saidF at hs
    rw [Bool.and_eq_true] at hs
    obtain ⟨h1, h2⟩ := hs
    have h1 := of_decide_eq_true h1
    have hat := hw.2 k hk.1 hk.2
    have hu : ((pAt PN k).toNat : Int) = pAt PN k := by omega
    refine silB_f (u := (pAt PN k).toNat) (by omega) ?_
    unfold spkAt spk
    rw [List.any_eq_true]
    refine ⟨k, ?_, ?_⟩
    · unfold ksF
      rw [List.mem_map]
      refine ⟨k.toNat, ?_, by omega⟩
      rw [List.mem_filter, List.mem_range'_1]
      refine ⟨⟨by omega, by omega⟩, ?_⟩
      have : ((k.toNat : Nat) : Int) = k := by omega
      rw [this, hu]; simp
    · rw [← hicAt_100 hg (P := PN) (t := (pAt PN k).toNat) (by omega) (Int.le_refl _), hu, h2, hp]
      simp
theorem cb_silent58 {d : Nat} {sc : SC} {μ : Mem} {H : HillT} {P PN : PlanT} {p : Int} {R : Int → Mem → Prop} (hY : MY μ H P) (hT : TL μ PN) (hM : DMd μ H P PN 100) (hw : wfNp (hP H) PN) (h1 : pN P ≤ pN PN) (h2 : ∀ k, pN P ≤ k → k < pN PN → pWho PN k ≠ p)
    (k : R (if silB H P PN p = true then 1 else 0) μ) : WQ mX10_isSilent d sc (ZI sc R) 58 [(2, 183), (0, p), (9, 0), (9, 0), (0, 0)] [] μ := by
  have h0 : μ 184 31 = pN P := hY.2.1.1
  have h8 := hY.2.2.2.2.2.1
  have hn0 := hY.2.2.2.2.1.1.1
  have key : ∀ (r : Nat) (i : Int), i + r = pN P → 0 ≤ i → (∀ k, 0 ≤ k → k < i → pWho PN k = p → saidF (gapQ H P) (ansQ H P) PN 100 k ≠ true) → WQ mX10_isSilent d sc (ZI sc R) 58 [(2, 183), (0, p), (9, 0), (9, 0), (0, i)] [] μ := by
    intro r
    induction r with
    | zero =>
      intro i hi hi0 hno
      refine s_X10_isSilent_58 ⟨fun _ => ?_, fun z => by omega⟩
      have e : silB H P PN p = true := by
        cases q : silB H P PN p with
        | true => rfl
        | false =>
          obtain ⟨k', hk', kp, ks⟩ := (sil_said hw).mp q
          by_cases hk2 : k' < pN P
          · exact absurd ks (hno k' hk'.1 (by omega) kp)
          · exact absurd kp (h2 k' (by omega) hk'.2)
      rw [e, if_pos rfl] at k
      exact k
    | succ r ih =>
      intro i hi hi0 hno
      have t := hT.2 i hi0 (by omega)
      have s := hM.2.2 i hi0 (by omega)
      refine s_X10_isSilent_58 ⟨fun z => by omega, fun _ => ⟨by omega, ?_⟩⟩
      rw [t.1, s]
      have on : (pWho PN i = p → saidF (gapQ H P) (ansQ H P) PN 100 i ≠ true) → WQ mX10_isSilent d sc (ZI sc R) 58 [(2, 183), (0, p), (9, 0), (9, 0), (0, i + 1)] [] μ := fun hh => ih (i + 1) (by omega) (by omega) (fun k' k0 k1 => by
        by_cases q : k' = i
        · rw [q]; exact hh
        · exact hno k' k0 (by omega))
      refine ⟨fun z => ⟨by omega, ?_⟩, fun z => ⟨by omega, fun z2 => ⟨by omega, ?_⟩, fun z2 => ?_⟩⟩
      · rintro _ rfl
        exact on (fun y => absurd y z)
      · rintro _ rfl
        exact on (fun _ y => by rw [if_pos y] at z2; exact absurd z2 (by decide))
      · have ks : saidF (gapQ H P) (ansQ H P) PN 100 i = true := Decidable.of_not_not (fun y => by rw [if_neg y] at z2; exact z2 rfl)
        have e := (sil_said (P := P) hw).mpr ⟨i, ⟨hi0, by omega⟩, z, ks⟩
        rw [e, if_neg (by decide)] at k
        exact k
  exact key (pN P).toNat 0 (by omega) (Int.le_refl _) (fun k' k0 k1 => by omega)
theorem cb_isSilent {d : Nat} {sc : SC} {μ : Mem} {H : HillT} {P P1 PN : PlanT} {p v w : Int} {R : Int → Mem → Prop} (hd : 6 ≤ d) (hY : MY μ H P) (hC : CM μ H (pWind P)) (hG : GG μ H P) (hv : (v = -1 ∧ P1 = P) ∨ (0 ≤ v ∧ v % 100 ≠ p ∧ P1 = addN P (v % 100) p (v / 100) 10)) (hw : (w = -1 ∧ PN = P1) ∨ (0 ≤ w ∧ w % 100 ≠ p ∧ PN = addN P1 (w % 100) p (w / 100) 10)) (hwf : wfNp (hP H) PN)
    (k : ∀ μ', FDy μ μ' → CM μ' H (pWind P) → GG μ' H P → R (if silB H P PN p = true then 1 else 0) μ') : CAi mX10_isSilent d sc [(2, 183), (0, p), (0, v), (0, w)] μ R := by
  have h8 := hY.2.2.2.2.2.1
  have hn0 := hY.2.2.2.2.1.1.1
  have hn1 : pN P ≤ pN P1 ∧ pN P1 ≤ pN P + 1 ∧ ∀ k, pN P ≤ k → k < pN P1 → pWho P1 k ≠ p := by
    rcases hv with ⟨_, e⟩ | ⟨_, e1, e2⟩
    · rw [e]; exact ⟨Int.le_refl _, by omega, fun k k0 k1 => by omega⟩
    · rw [e2]
      refine ⟨by show pN P ≤ pN P + 1; omega, Int.le_refl _, fun k k0 k1 => ?_⟩
      have k2 : k < pN P + 1 := k1
      have : k = pN P := by omega
      rw [this, (add_new _ _ _ _ _).1]; exact e1
  have hn2 : pN P ≤ pN PN ∧ ∀ k, pN P ≤ k → k < pN PN → pWho PN k ≠ p := by
    rcases hw with ⟨_, e⟩ | ⟨_, e1, e2⟩
    · rw [e]; exact ⟨hn1.1, hn1.2.2⟩
    · rw [e2]
      refine ⟨by show pN P ≤ pN P1 + 1; omega, fun k k0 k1 => ?_⟩
      have k2 : k < pN P1 + 1 := k1
      by_cases q : k = pN P1
      · rw [q, (add_new _ _ _ _ _).1]; exact e1
      · rw [(add_old _ _ _ _ _ q).1]; exact hn1.2.2 k k0 (by omega)
  refine byI (d' := 5) (by omega) (Q := R) ?_ (fun _ _ z => z)
  refine CTi_of mp_X10_isSilent (Nat.le_of_ble_eq_true rfl) ?_
  have go : ∀ μ8 : Mem, FT4 μ μ8 → TL μ8 PN → CAv mX10_goesDay 5 sc [(2, 183)] μ8 (fun μ9 => WQ mX10_isSilent 5 sc (ZI sc R) 58 [(2, 183), (0, p), (9, 0), (9, 0), (0, 0)] [] μ9) := fun μ8 f8 T8 => by
    have Y8 : MY μ8 H P := hY.same (fun j => f8 _ _ (by omega) (by omega) (by omega) (by omega))
    have C8 : CM μ8 H (pWind P) := hC.same (fun j => f8 _ _ (by omega) (by omega) (by omega) (by omega))
    have G8 : GG μ8 H P := fun a b a0 a1 b0 b1 hab => by rw [f8 _ _ (by omega) (by omega) (by omega) (by omega)]; exact hG a b a0 a1 b0 b1 hab
    refine cb_goesDay (Nat.le_refl _) Y8 C8 G8 T8 hwf (fun μ9 f9 C9 M9 => ?_)
    have Y9 : MY μ9 H P := Y8.same (fun j => f9 _ _ (by omega) (by omega))
    have T9 : TL μ9 PN := T8.same (f9 183 34 (by omega) (by omega)) (fun b j _ _ => f9 b j (by omega) (by omega))
    have G9 : GG μ9 H P := fun a b a0 a1 b0 b1 hab => by rw [f9 _ _ (by omega) (by omega)]; exact G8 a b a0 a1 b0 b1 hab
    exact cb_silent58 Y9 T9 M9 hwf hn2.1 hn2.2 (k μ9 (fun b j q1 q2 => by rw [f9 b j (by omega) (by omega)]; exact f8 b j (by omega) (by omega) (by omega) (by omega)) C9 G9)
  refine s_X10_isSilent_0 (cb_allTold (by omega) hY (fun μ4 f4 T4 => ⟨fun zv => ⟨fun zw => ?_, fun zw => ?_⟩, fun zv => ?_⟩))
  · rcases hv with ⟨_, e⟩ | ⟨q, _⟩
    · rcases hw with ⟨_, e'⟩ | ⟨q, _⟩
      · exact go μ4 f4 (by rw [e', e]; exact T4)
      · omega
    · omega
  · rcases hv with ⟨_, e⟩ | ⟨q, _⟩
    · rcases hw with ⟨q, _⟩ | ⟨q, _, e'⟩
      · exact absurd q zw
      · refine ⟨q, q, cb_tellsToo (s := 10) (by omega) T4 ⟨hn0, by omega⟩ (fun μ12 f12 T12 => go μ12 (fun b j q1 q2 q3 q4 => by rw [f12 b j q1 q2 q3 q4]; exact f4 b j q1 q2 q3 q4) (by rw [e', e]; exact T12))⟩
    · omega
  · rcases hv with ⟨q, _⟩ | ⟨q, _, e⟩
    · exact absurd q zv
    · refine ⟨q, q, cb_tellsToo (s := 10) (by omega) T4 ⟨hn0, by omega⟩ (fun μ12 f12 T12 => ?_)⟩
      rw [← e] at T12
      have F12 : FT4 μ μ12 := fun b j q1 q2 q3 q4 => by rw [f12 b j q1 q2 q3 q4]; exact f4 b j q1 q2 q3 q4
      refine ⟨fun zw => ?_, fun zw => ?_⟩
      · rcases hw with ⟨_, e'⟩ | ⟨q, _⟩
        · exact go μ12 F12 (by rw [e']; exact T12)
        · omega
      · rcases hw with ⟨q, _⟩ | ⟨q, _, e'⟩
        · exact absurd q zw
        · refine ⟨q, q, cb_tellsToo (s := 10) (by omega) T12 ⟨by omega, by omega⟩ (fun μ14 f14 T14 => go μ14 (fun b j q1 q2 q3 q4 => by rw [f14 b j q1 q2 q3 q4]; exact F12 b j q1 q2 q3 q4) (by rw [e']; exact T14))⟩

/-! THE REFERENCE: deeds kept, undone, judged; weeks -/
theorem AM.fm {μ μ' : Mem} {A : StT} {W : Int → Prop} {x : Int} (h : RY μ' A) (hf : FM μ μ') (hW : W x) : AM μ A W x μ' := ⟨hW, h, hf⟩
theorem FP.m {μ μ' : Mem} (h : FP μ μ') : FM μ μ' := fun b j q => h b j (by omega)
/-- a trial: the plan P instead, the old one stored -/
def TRm (μ μ' : Mem) (A : StT) (P : PlanT) : Prop := RY μ' (setPL A P (aPast A)) ∧ MP (μ' 205) (hP (aH A)) (aP A) ∧ FM μ μ' ∧ wfA A
theorem cb_store {d : Nat} {sc : SC} {μ0 μ : Mem} {A : StT} {R : Mem → Prop} (hd : 1 ≤ d) (h : RY μ A) (hf : FM μ0 μ) (k : ∀ μ', TRm μ0 μ' A (aP A) → RY μ' A → (∀ b j, b ≠ 205 → μ' b j = μ b j) → R μ') : CAv mX10_stores d sc [(2, 183)] μ R := by
  refine cb_stores hd (fun μ' f e => ?_)
  have r : RY μ' A := h.same (fun b j _ q => f b j (by omega))
  refine k μ' ⟨r, ?_, hf.tr (fun b j q => f b j (by omega)), h.wf⟩ r f
  exact h.mp.congr (f := fun i => μ 184 (31 + i)) (fun i i0 i1 => e i i0 i1) h.wfs.2.2.1 h.n6.2
theorem TRm.step {μ μ1 μ' : Mem} {A : StT} {P P' : PlanT} (h : TRm μ μ1 A P) (hf : FP μ1 μ') (hR : RY μ' (setPL A P' (aPast A))) : TRm μ μ' A P' := by
  have e205 : μ' 205 = μ1 205 := funext (fun j => hf _ _ (by omega))
  exact ⟨hR, by rw [e205]; exact h.2.1, h.2.2.1.tr hf.m, h.2.2.2⟩
theorem TRm.fw {μ μ1 μ' : Mem} {A : StT} {P : PlanT} (h : TRm μ μ1 A P) (hf : FW μ1 μ') (h5 : ∀ j, μ' 205 j = μ1 205 j) : TRm μ μ' A P := by
  have e205 : μ' 205 = μ1 205 := funext h5
  exact ⟨h.1.same hf, by rw [e205]; exact h.2.1, h.2.2.1.tr hf.m, h.2.2.2⟩
theorem cb_note {d : Nat} {sc : SC} {μ0 μ : Mem} {A : StT} {P : PlanT} {R : Mem → Prop} (hd : 1 ≤ d) (h : TRm μ0 μ A P) (k : ∀ μ', RY μ' (accS A P) → FM μ0 μ' → (∀ b j, (b = 184 → j < 71 ∨ 472 ≤ j) → μ' b j = μ b j) → R μ') : CAv mX10_notes d sc [(2, 183)] μ R := by
  obtain ⟨h1, h2, h3, h4⟩ := h
  have hwP := h1.wfs
  have hwp := h4.2.2.2.2.1
  have hL := h4.2.2.2.2.2.1
  have n6 := h1.n6
  refine cb_notes hd h1.past h2 hwp.2.2.1 (fun Q hQ => (hL Q hQ).2.2.1) n6.2 (fun μ' f m => k μ' ?_ (h3.tr (fun b j q => f b j (by omega))) f)
  refine h1.set (fun b j q1 q2 q3 => f b j (by omega)) (h1.mp.congr (fun i i0 i1 => f _ _ (by omega)) hwP.2.2.1 n6.2) m hwP ?_
  intro Q hQ
  rcases pushP_mem hQ with q | q
  · exact hL Q q
  · rw [q]; exact hwp
theorem cm_tell {d : Nat} {sc : SC} {μ : Mem} {A : StT} {a b t : Int} (hd : 5 ≤ d) (h : RY μ A) : CTi mX10_tell d sc [(2, 183), (0, a), (0, b), (0, t)] μ (AM μ (tellA A a b t) (fun x => x = tellS A a b t)) := by
  refine CTi_of mp_X10_tell (Nat.le_of_ble_eq_true rfl) ?_
  refine s_X10_tell_0 ?_
  intro μ1 e1
  have f1 := fw0 e1
  have r1 := h.same f1
  have hb := tellW_b (aH A) (aP A) a b t
  refine cb_whyTell (by omega) r1 ⟨fun z => ?_, fun z => ⟨by omega, AM.fm ?_ f1.m ?_⟩⟩
  · refine cb_store (by omega) r1 f1.m (fun μ6 t6 r6 _ => cb_tellsOne (by omega) r6 z (fun μ8 f8 r8 => cb_note (by omega) (t6.step f8 r8) (fun μ' r' f' _ => AM.fm ?_ f' ?_)))
    · unfold tellA; rw [if_pos z]; exact r'
    · show _ = _
      unfold tellS; rw [if_pos z]; exact r'.mp.1
  · unfold tellA; rw [if_neg z]; exact r1
  · show _ = _
    unfold tellS; rw [if_neg z]
theorem cm_drop {d : Nat} {sc : SC} {μ : Mem} {A : StT} {k : Int} (hd : 5 ≤ d) (h : RY μ A) : CTi mX10_drop d sc [(2, 183), (0, k)] μ (AM μ (dropA A k) (fun x => x = dropS A k)) := by
  refine CTi_of mp_X10_drop (Nat.le_of_ble_eq_true rfl) ?_
  refine s_X10_drop_0 ?_
  intro μ1 e1
  have f1 := fw0 e1
  have r1 := h.same f1
  refine cb_isNaming (by omega) r1 (fun z => ⟨fun q => absurd rfl q, fun _ => AM.fm ?_ f1.m ?_⟩) (fun z => ⟨fun _ => ?_, fun q => absurd q (by decide)⟩)
  · unfold dropA; rw [if_neg (by omega)]; exact r1
  · show _ = _
    unfold dropS; rw [if_neg (by omega)]
  · refine cb_store (by omega) r1 f1.m (fun μ6 t6 r6 _ => cb_drops (by omega) r6 z (fun μ8 f8 r8 => cb_note (by omega) (t6.step f8 r8) (fun μ' r' f' _ => AM.fm ?_ f' ?_)))
    · unfold dropA; rw [if_pos z]; exact r'
    · show _ = _
      unfold dropS; rw [if_pos z]; exact r'.mp.1
theorem cm_move {d : Nat} {sc : SC} {μ : Mem} {A : StT} {p c : Int} (hd : 5 ≤ d) (h : RY μ A) : CTi mX10_move d sc [(2, 183), (0, p), (0, c)] μ (AM μ (moveA A p c) (fun x => x = moveS A p c)) := by
  refine CTi_of mp_X10_move (Nat.le_of_ble_eq_true rfl) ?_
  refine s_X10_move_0 ?_
  intro μ1 e1
  have f1 := fw0 e1
  have r1 := h.same f1
  have h6 := h.n6
  have bad : moveW (aH A) p c = 1 → AM μ (moveA A p c) (fun x => x = moveS A p c) (-11) μ1 := fun z => AM.fm (by unfold moveA; rw [if_neg (by omega)]; exact r1) f1.m (by show _ = _; unfold moveS; rw [if_neg (by omega)])
  refine cb_isPerson (by omega) r1.np r1.n6 (fun z => ⟨fun _ => bad (if_neg (fun y => z y.1)), fun q => absurd rfl q⟩) (fun z => ⟨fun q => absurd q (by decide), fun _ => ?_⟩)
  refine cb_isCell (by omega) r1 (fun zc => ⟨fun q => absurd rfl q, fun _ => bad (if_neg (fun y => zc y.2))⟩) (fun zc => ⟨fun _ => ?_, fun q => absurd q (by decide)⟩)
  have hw : moveW (aH A) p c = 0 := if_pos ⟨z, zc⟩
  refine cb_store (by omega) r1 f1.m (fun μ9 t9 r9 _ => ⟨by omega, by omega, fun μ12 e12 => ?_⟩)
  obtain ⟨f12, r12⟩ := r9.move1 e12 hw
  have t12 := t9.step f12 r12
  have e5 := t12.2.1.2.2.1 p z.1 z.2
  refine cb_note (by omega) t12 (fun μ' r' f' g => ⟨by omega, by omega, AM.fm ?_ f' ?_⟩)
  · unfold moveA; rw [if_pos hw]; exact r'
  · show _ = _
    unfold moveS; rw [if_pos hw, g _ _ (by omega)]; exact e5
theorem cm_wind {d : Nat} {sc : SC} {μ : Mem} {A : StT} {n : Int} (hd : 5 ≤ d) (h : RY μ A) : CTi mX10_wind d sc [(2, 183), (0, n)] μ (AM μ (windA A n) (fun x => x = windS A n)) := by
  refine CTi_of mp_X10_wind (Nat.le_of_ble_eq_true rfl) ?_
  refine s_X10_wind_0 ?_
  intro μ1 e1
  have f1 := fw0 e1
  have r1 := h.same f1
  refine cb_within (by omega) (fun z => ⟨fun q => absurd rfl q, fun _ => AM.fm ?_ f1.m ?_⟩) (fun z => ⟨fun _ => ?_, fun q => absurd q (by decide)⟩)
  · unfold windA windW; rw [if_neg (by rw [if_neg (by omega)]; decide)]; exact r1
  · show _ = _
    unfold windS windW; rw [if_neg (by rw [if_neg (by omega)]; decide)]
  have hw : windW n = 0 := if_pos (by omega)
  refine cb_store (by omega) r1 f1.m (fun μ9 t9 r9 _ => fun μ12 e12 => ?_)
  obtain ⟨f12, r12⟩ := r9.wind1 e12 hw
  have t12 := t9.step f12 r12
  have e5 := t12.2.1.2.2.2
  refine cb_note (by omega) t12 (fun μ' r' f' g => AM.fm ?_ f' ?_)
  · unfold windA; rw [if_pos hw]; exact r'
  · show _ = _
    unfold windS; rw [if_pos hw, g _ _ (by omega)]; exact e5
theorem cm_undo {d : Nat} {sc : SC} {μ : Mem} {A : StT} {n : Int} (hd : 5 ≤ d) (h : RY μ A) : CTi mX10_undo d sc [(2, 183), (0, n)] μ (AM μ (undoA A n) (fun x => x = undoS A n)) := by
  have h6 := h.n6
  obtain ⟨l1, l2, l3⟩ := h.past
  have hwp := h.wf.2.2.2.2.2.1
  refine CTi_of mp_X10_undo (Nat.le_of_ble_eq_true rfl) ?_
  refine s_X10_undo_0 ?_
  intro μ1 e1
  have f1 := fw0 e1
  have r1 := h.same f1
  have bad : ¬ (1 ≤ n ∧ n ≤ (aPast A).length) → AM μ (undoA A n) (fun x => x = undoS A n) (-3) μ1 := fun z => AM.fm (by unfold undoA; rw [if_neg z]; exact r1) f1.m (by show _ = _; unfold undoS; rw [if_neg z])
  refine cb_within (by omega) (fun z => ⟨fun _ => bad (by omega), fun q => absurd rfl q⟩) (fun z => ⟨fun q => absurd q (by decide), fun _ => ?_⟩)
  rw [r1.past.1]
  refine ⟨fun zn => ⟨by omega, ?_⟩, fun zn => bad (by omega)⟩
  have hin : 1 ≤ n ∧ n ≤ (aPast A).length := ⟨z.1, zn⟩
  have hlt : (aPast A).length - n.toNat < (aPast A).length := by omega
  generalize hm : (aPast A).length - n.toNat = m at *
  have hmn : ((aPast A).length : Int) - n = m := by omega
  rw [hmn]
  intro μ10 e10
  have g10 : ∀ b j, (b = 184 → j ≠ 71) → μ10 b j = μ1 b j := fun b j q => by rw [e10, mup_ap, if_neg (fun y => q y.1 y.2)]
  have s10 : μ10 184 71 = m := by rw [e10, mup_at]
  have hg : (aPast A).getD m planDef = (aPast A)[m] := by rw [List.getD_eq_getElem?_getD, List.getElem?_eq_getElem hlt]; rfl
  have hwm := hwp _ (List.getElem_mem hlt)
  have key : ∀ (r : Nat) (i : Int) (μ2 : Mem), i + r = 40 → 0 ≤ i → FP μ10 μ2 → (∀ j, 0 ≤ j → j < i → μ2 184 (31 + j) = μ10 184 (72 + 40 * (m : Int) + j)) → WQ mX10_undo d sc (ZI sc (AM μ (undoA A n) (fun x => x = undoS A n))) 44 [(2, 183), (9, 0), (0, i)] [] μ2 := by
    intro r
    induction r with
    | zero =>
      intro i μ2 hi hi0 hf hc
      have e71 : μ2 184 71 = m := by rw [hf _ _ (by omega)]; exact s10
      refine s_X10_undo_44 ⟨fun _ => AM.fm ?_ (f1.m.tr (fun b j q => by rw [hf _ _ (by omega)]; exact g10 _ _ (by omega))) ?_, fun q => by omega⟩
      · unfold undoA
        rw [if_pos hin, hm]
        refine r1.set (fun b j q1 q2 q3 => by rw [hf b j (by omega)]; exact g10 b j (by omega)) ?_ ⟨?_, ?_, fun j hj => ?_⟩ ?_ (fun Q hQ => hwp Q (List.mem_of_mem_take hQ))
        · rw [hg]
          refine (r1.past.2.2 m hlt).congr (fun i2 i0 i1 => ?_) hwm.2.2.1 h6.2
          show μ2 184 (31 + i2) = μ1 184 (72 + 40 * (m : Int) + i2)
          rw [hc i2 i0 (by omega)]; exact g10 _ _ (by omega)
        · rw [e71, List.length_take]; omega
        · rw [List.length_take]; omega
        · rw [List.length_take] at hj
          rw [List.getElem_take]
          refine (r1.past.2.2 j (by omega)).congr (fun i2 i0 i1 => ?_) (hwp _ (List.getElem_mem _)).2.2.1 h6.2
          rw [hf _ _ (by omega)]; exact g10 _ _ (by omega)
        · rw [hg]; exact hwm
      · show _ = _
        unfold undoS; rw [if_pos hin, e71, hmn]
    | succ r ih =>
      intro i μ2 hi hi0 hf hc
      have e71 : μ2 184 71 = m := by rw [hf _ _ (by omega)]; exact s10
      refine s_X10_undo_44 ⟨fun q => by omega, fun _ => ?_⟩
      rw [e71]
      refine ⟨by omega, by omega, by omega, by omega, by omega, by omega, ?_⟩
      intro μ5 e5
      refine ⟨by omega, ?_⟩
      rintro _ rfl
      have g : ∀ b j, (b = 184 → j ≠ 31 + i) → μ5 b j = μ2 b j := fun b j q => by rw [e5, mup_ap, if_neg (fun y => q y.1 y.2)]
      refine ih (i + 1) μ5 (by omega) (by omega) (fun b j q => by rw [g b j (by omega)]; exact hf b j q) (fun j j0 j1 => ?_)
      by_cases q : j = i
      · rw [q, e5, mup_at]; exact hf _ _ (by omega)
      · rw [g _ _ (by omega)]; exact hc j j0 (by omega)
  exact key 40 0 μ10 rfl (Int.le_refl _) (fun _ _ _ => rfl) (fun j j0 j1 => by omega)
/-- told deeds tried -/
theorem MT.in {μ : Mem} {t : Int} {T : TrayT} (h : MT μ t T) (h1 : tThere T ≠ 0) : μ 209 t = tSort T ∧ μ 210 t = tN T ∧ (0 ≤ tSort T ∧ tSort T ≤ 3) ∧ (0 ≤ tN T ∧ tN T ≤ 40) ∧ ∀ i, 0 ≤ i → i < tN T → μ 211 (40 * t + i) = tNum T i := by
  rcases h with h | h
  · exact absurd h.1 h1
  · exact h.2
theorem cb_noTray {d : Nat} {sc : SC} {μ : Mem} {A : StT} {t : Int} {R : Int → Mem → Prop} (hd : 2 ≤ d) (h : RY μ A) (k2 : ¬ (0 ≤ t ∧ t < 4) → R (-2) μ) (k6 : 0 ≤ t ∧ t < 4 → tThere (aTray A t) = 0 → R (-6) μ) (k0 : 0 ≤ t ∧ t < 4 → tThere (aTray A t) ≠ 0 → R 0 μ) : CAi mX10_noTray d sc [(2, 183), (0, t)] μ R := by
  refine byI (d' := 1) (by omega) (Q := R) ?_ (fun _ _ z => z)
  refine CTi_of mp_X10_noTray (Nat.le_of_ble_eq_true rfl) ?_
  refine s_X10_noTray_0 (cb_within (by omega) (fun z => ⟨fun q => absurd rfl q, fun _ => k2 (by omega)⟩) (fun z => ⟨fun _ => ⟨by omega, ?_⟩, fun q => absurd q (by decide)⟩))
  have ht : 0 ≤ t ∧ t < 4 := by omega
  rcases h.tray t ht.1 ht.2 with m | m
  · exact ⟨fun q => absurd m.2 q, fun _ => k6 ht m.1⟩
  · exact ⟨fun _ => k0 ht (by omega), fun q => by omega⟩
theorem cb_tells {d : Nat} {sc : SC} {μ0 μ : Mem} {A : StT} {t : Int} {R : Int → Mem → Prop} (hd : 6 ≤ d) (h : TRm μ0 μ A (aP A)) (ht : 0 ≤ t ∧ t < 4) (hT : tThere (aTray A t) ≠ 0)
    (k : ∀ μ', TRm μ0 μ' A (tryT A t).2 → μ' 183 38 = (if tN (aTray A t) ≤ (tryT A t).1 then 0 else deedW (aH A) (tryT A t).2 (tNum (aTray A t) (tryT A t).1)) → (∀ b j, (b = 183 → j ≠ 38) → (b = 184 → j < 31 ∨ 71 ≤ j) → μ' b j = μ b j) → R (tryT A t).1 μ') : CAi mX10_tells d sc [(2, 183), (0, t)] μ R := by
  have e0 : setPL A (aP A) (aPast A) = A := rfl
  have h0 : RY μ A := h.1
  have hm := (h0.tray t ht.1 ht.2).in hT
  refine byI (d' := 5) (by omega) (Q := R) ?_ (fun _ _ z => z)
  refine CTi_of mp_X10_tells (Nat.le_of_ble_eq_true rfl) ?_
  refine s_X10_tells_0 ?_
  intro μ1 e1
  have g1 : ∀ b j, (b = 183 → j ≠ 38) → μ1 b j = μ b j := fun b j q => by rw [e1, mup_ap, if_neg (fun y => q y.1 y.2)]
  have key : ∀ (r : Nat) (i : Int) (P : PlanT) (μ1 : Mem), i + r = tN (aTray A t) → 0 ≤ i → TRm μ0 μ1 A P → μ1 183 38 = 0 → (∀ b j, (b = 183 → j ≠ 38) → (b = 184 → j < 31 ∨ 71 ≤ j) → μ1 b j = μ b j) → tryT A t = tryD (aH A) (tNum (aTray A t)) r i P →
      WQ mX10_tells 5 sc (ZI sc R) 7 [(2, 183), (0, t), (0, i)] [] μ1 := by
    intro r
    induction r with
    | zero =>
      intro i P μ1 hi hi0 hTR h38 hf he
      have hm1 := (hTR.1.tray t ht.1 ht.2).in hT
      have e2 : μ1 210 t = tN (aTray A t) := hm1.2.1
      refine s_X10_tells_7 ⟨ht, fun _ => ⟨ht, ?_⟩, fun z => by rw [e2] at z; omega⟩
      rw [tryD] at he
      rw [e2]
      have hk := k μ1 (by rw [he]; exact hTR) (by rw [he, if_pos (by omega)]; exact h38) hf
      rw [he] at hk
      rw [show tN (aTray A t) = i by omega]; exact hk
    | succ r ih =>
      intro i P μ1 hi hi0 hTR h38 hf he
      have hm1 := (hTR.1.tray t ht.1 ht.2).in hT
      have e2 : μ1 210 t = tN (aTray A t) := hm1.2.1
      have hlt : i < tN (aTray A t) := by omega
      have e3 : μ1 211 (40 * t + i) = tNum (aTray A t) i := hm1.2.2.2.2 i hi0 hlt
      have hmn := hm.2.2.2.1
      refine s_X10_tells_7 ⟨ht, fun z => by rw [e2] at z; omega, fun _ => ⟨by omega, by omega, by omega, ?_⟩⟩
      rw [e3]
      refine cb_whyNot (by omega) hTR.1 ?_
      intro μ9 e9
      have ew : deedW (aH (setPL A P (aPast A))) (aP (setPL A P (aPast A))) (tNum (aTray A t) i) = deedW (aH A) P (tNum (aTray A t) i) := rfl
      rw [ew] at e9
      have g9 : ∀ b j, (b = 183 → j ≠ 38) → μ9 b j = μ1 b j := fun b j q => by rw [e9, mup_ap, if_neg (fun y => q y.1 y.2)]
      have s9 : μ9 183 38 = deedW (aH A) P (tNum (aTray A t) i) := by rw [e9, mup_at]
      have t9 : TRm μ0 μ9 A P := hTR.fw (fun b j q _ => g9 b j (fun y => by have := q y; omega)) (fun j => g9 _ _ (by omega))
      have F9 : ∀ b j, (b = 183 → j ≠ 38) → (b = 184 → j < 31 ∨ 71 ≤ j) → μ9 b j = μ b j := fun b j q1 q2 => by rw [g9 b j q1]; exact hf b j q1 q2
      rw [tryD] at he
      rw [s9]
      refine ⟨fun z => ⟨by omega, by omega, by omega, ?_⟩, fun z => ?_⟩
      · rw [if_pos z] at he
        have hv0 : ¬ (tNum (aTray A t) i < 0 ∨ 9009 < tNum (aTray A t) i) := fun y => by unfold deedW at z; rw [if_pos y] at z; exact absurd z (by decide)
        rw [g9 _ _ (by omega), e3, w32_id ⟨by omega, by omega⟩]
        refine cb_does (by omega) t9.1 z (fun μ15 f15 r15 => ⟨by omega, ?_⟩)
        rintro _ rfl
        refine ih (i + 1) _ μ15 (by omega) (by omega) (t9.step f15 r15) (by rw [f15 _ _ (by omega), s9]; exact z) (fun b j q1 q2 => by rw [f15 b j q2]; exact F9 b j q1 q2) he
      · rw [if_neg z] at he
        have hk := k μ9 (by rw [he]; exact t9) (by rw [he, if_neg (by show ¬ tN (aTray A t) ≤ i; omega)]; exact s9) F9
        rw [he] at hk
        exact hk
  refine key (tN (aTray A t)).toNat 0 (aP A) μ1 (by omega) (Int.le_refl _) (h.fw (fun b j q _ => g1 b j (fun y => by have := q y; omega)) (fun j => g1 _ _ (by omega))) (by rw [e1, mup_at]) (fun b j q1 _ => g1 b j q1) rfl
/-- a day, with all that it leaves -/
def FDy (μ μ' : Mem) : Prop := ∀ b j, (b = 183 → j ≠ 34 ∧ j ≠ 35 ∧ j ≠ 36) → (b < 188 ∨ 204 < b) → μ' b j = μ b j
theorem FDy.w {μ μ' : Mem} (h : FDy μ μ') : FW μ μ' := fun b j q1 q2 => h b j (fun y => by have := q1 y; omega) (by omega)
theorem cb_laysF {d : Nat} {sc : SC} {μ : Mem} {H : HillT} {P : PlanT} {R : Mem → Prop} (hd : 6 ≤ d) (hY : MY μ H P) (hc : μ 183 19 = 0 ∨ CM μ H (pWind P))
    (k : ∀ μ', FDy μ μ' → CM μ' H (pWind P) → GG μ' H P → DMd μ' H P P 100 → R μ') : CAv mX10_laysDay d sc [(2, 183)] μ R := by
  refine byV (d' := 5) (by omega) (Q := R) ?_ (fun _ z => z)
  refine CTv_of mp_X10_laysDay (Nat.le_of_ble_eq_true rfl) ?_
  refine s_X10_laysDay_0 (cb_laysGaps (Nat.le_refl _) hY hc ?_)
  intro μ2 f2 C2 G2
  have Y2 : MY μ2 H P := hY.same (fun j => f2 _ _ (by omega) (by omega) (by omega) (by omega))
  refine cb_allTold (by omega) Y2 ?_
  intro μ6 f6 T6
  have Y6 : MY μ6 H P := Y2.same (fun j => f6 _ _ (by omega) (by omega) (by omega) (by omega))
  have C6 : CM μ6 H (pWind P) := C2.same (fun j => f6 _ _ (by omega) (by omega) (by omega) (by omega))
  have G6 : GG μ6 H P := fun a b a0 a1 b0 b1 hab => by rw [f6 _ _ (by omega) (by omega) (by omega) (by omega)]; exact G2 a b a0 a1 b0 b1 hab
  refine cb_goesDay (Nat.le_refl _) Y6 C6 G6 T6 hY.2.2.2.2.1 ?_
  intro μ8 f8 C8 M8
  exact k μ8 (fun b j y1 y2 => by rw [f8 b j (by omega) (by omega), f6 b j (by omega) (by omega) (by omega) (by omega)]; exact f2 b j (by omega) (by omega) (by omega) (by omega)) C8 (fun a b a0 a1 b0 b1 hab => by rw [f8 _ _ (by omega) (by omega)]; exact G6 a b a0 a1 b0 b1 hab) M8
/-- the stored plan is there again -/
theorem cb_again {d : Nat} {sc : SC} {μ0 μ : Mem} {A : StT} {P : PlanT} {R : Mem → Prop} (hd : 1 ≤ d) (h : TRm μ0 μ A P) (k : ∀ μ', RY μ' A → FM μ0 μ' → FP μ μ' → R μ') : CAv mX10_isAgain d sc [(2, 183)] μ R := by
  obtain ⟨h1, h2, h3, h4⟩ := h
  have hwp := h4.2.2.2.2.1
  have n6 := h1.n6
  refine cb_isAgain hd (fun μ' f e => k μ' ?_ (h3.tr f.m) f)
  exact h1.setP f (h2.congr (fun i i0 i1 => e i i0 i1) hwp.2.2.1 n6.2) hwp
theorem tryT_b {A : StT} (h : wfA A) (t : Int) (hn : 0 ≤ tN (aTray A t)) : (0 ≤ (tryT A t).1 ∧ (tryT A t).1 ≤ tN (aTray A t)) ∧ wfS (aH A) (tryT A t).2 := by
  have := tryD_b (H := aH A) (f := tNum (aTray A t)) (tN (aTray A t)).toNat 0 (aP A) h.2.2.2.2.1
  refine ⟨⟨this.1.1, ?_⟩, this.2⟩
  have h2 := this.1.2
  show (tryD (aH A) (tNum (aTray A t)) (tN (aTray A t)).toNat 0 (aP A)).1 ≤ tN (aTray A t)
  omega
theorem tryD_no {H : HillT} {f : Int → Int} : ∀ (r : Nat) (i : Int) (P : PlanT), (tryD H f r i P).1 < i + r → deedW H (tryD H f r i P).2 (f (tryD H f r i P).1) ≠ 0 := by
  intro r
  induction r with
  | zero => intro i P h; exact absurd h (by show ¬ i < i + ((0 : Nat) : Int); omega)
  | succ r ih =>
    intro i P h
    rw [tryD] at h ⊢
    by_cases q : deedW H P (f i) = 0
    · rw [if_pos q] at h ⊢
      exact ih (i + 1) _ (by omega)
    · rw [if_neg q]; exact q
theorem cm_perform {d : Nat} {sc : SC} {μ : Mem} {A : StT} {t : Int} (hd : 7 ≤ d) (h : RY μ A) : CTi mX10_perform d sc [(2, 183), (0, t)] μ (AM μ (performA A t) (fun x => x = performS A t)) := by
  refine CTi_of mp_X10_perform (Nat.le_of_ble_eq_true rfl) ?_
  refine s_X10_perform_0 ?_
  intro μ1 e1
  have f1 := fw0 e1
  have r1 := h.same f1
  refine cb_noTray (by omega) r1 (fun z => ⟨fun q => absurd q (by decide), fun _ => AM.fm ?_ f1.m ?_⟩) (fun z z2 => ⟨fun q => absurd q (by decide), fun _ => AM.fm ?_ f1.m ?_⟩) (fun ht hT => ⟨fun _ => ?_, fun q => absurd rfl q⟩)
  · unfold performA; rw [if_neg (fun y => z y.1)]; exact r1
  · show _ = _
    unfold performS; rw [if_neg z]
  · unfold performA; rw [if_neg (fun y => y.2.1 z2)]; exact r1
  · show _ = _
    unfold performS; rw [if_pos z, if_pos z2]
  · refine cb_store (by omega) r1 f1.m (fun μ6 t6 r6 _ => cb_tells (by omega) t6 ht hT (fun μ8 t8 _ _ => ⟨fun z => AM.fm ?_ t8.2.2.1 ?_, fun z => cb_note (by omega) t8 (fun μ' r' f' _ => AM.fm ?_ f' ?_)⟩))
    · unfold performA
      rw [if_neg (fun y => by have := y.2.2; omega)]
      have hb := tryT_b h.wf t (by have := ((r1.tray t ht.1 ht.2).in hT).2.2.2.1; omega)
      have e : (tryT A t).2 = aP A := by
        have e1 : (tryT A t).1 = 0 := by omega
        unfold tryT at e1 ⊢
        cases hr : (tN (aTray A t)).toNat with
        | zero => rfl
        | succ r =>
          rw [hr, tryD] at e1
          rw [tryD]
          by_cases q : deedW (aH A) (aP A) (tNum (aTray A t) 0) = 0
          · rw [if_pos q] at e1
            have := (tryD_b (H := aH A) (f := tNum (aTray A t)) r (0 + 1) (deedP (aP A) (tNum (aTray A t) 0)) (h.wfs.deed q)).1.1
            omega
          · rw [if_neg q]
      have := t8.1
      rw [e] at this
      exact this
    · show _ = _
      unfold performS; rw [if_pos ht, if_neg hT]
    · unfold performA; rw [if_pos ⟨ht, hT, z⟩]; exact r'
    · show _ = _
      unfold performS; rw [if_pos ht, if_neg hT]
theorem cm_judge {d : Nat} {sc : SC} {μ : Mem} {A : StT} {t w : Int} (hd : 7 ≤ d) (h : RY μ A) : CTi mX10_judge d sc [(2, 183), (0, t), (0, w)] μ (AM μ A (fun x => x = judgeS A t w)) := by
  refine CTi_of mp_X10_judge (Nat.le_of_ble_eq_true rfl) ?_
  refine s_X10_judge_0 ?_
  intro μ1 e1
  have f1 := fw0 e1
  have r1 := h.same f1
  refine cb_within (by omega) (fun z => ⟨fun q => absurd rfl q, fun _ => AM.fm r1 f1.m (if_neg (fun y => by omega)).symm⟩) (fun zw => ⟨fun _ => ?_, fun q => absurd q (by decide)⟩)
  refine cb_noTray (by omega) r1 (fun z => ⟨fun q => absurd q (by decide), fun _ => AM.fm r1 f1.m (if_neg (fun y => z y.1)).symm⟩) (fun z z2 => ⟨fun q => absurd q (by decide), fun _ => AM.fm r1 f1.m ?_⟩) (fun ht hT => ⟨fun _ => ?_, fun q => absurd rfl q⟩)
  · show _ = _
    unfold judgeS; rw [if_pos ⟨z, zw⟩, if_pos z2]
  have hin : (0 ≤ t ∧ t < 4) ∧ 0 ≤ w ∧ w ≤ 3 := ⟨ht, zw⟩
  have hb := tryT_b h.wf t (by have := ((r1.tray t ht.1 ht.2).in hT).2.2.2.1; omega)
  refine cb_store (by omega) r1 f1.m (fun μ6 t6 r6 _ => cb_tells (by omega) t6 ht hT (fun μ8 t8 s8 _ => ?_))
  refine cb_laysF (by omega) t8.1.q (Or.inl t8.1.2.2.2.2.1) (fun μ13 f13 C13 G13 M13 => ?_)
  have t13 : TRm μ μ13 A (tryT A t).2 := t8.fw f13.w (fun j => f13 _ _ (by omega) (by omega))
  have s13 : μ13 183 38 = _ := (f13 183 38 (by omega) (by omega)).trans s8
  refine cb_again (by omega) t13 (fun μ15 r15 f15 fp => ?_)
  have s15 : μ15 183 38 = _ := (fp 183 38 (by omega)).trans s13
  have M15 : HM μ15 (dayOf (aH A) (tryT A t).2) := M13.1.same (fp 183 36 (by omega)) (fun b j _ _ => fp b j (by omega))
  have hno : tN (aTray A t) ≤ (tryT A t).1 ∨ ¬ tN (aTray A t) ≤ (tryT A t).1 ∧ deedW (aH A) (tryT A t).2 (tNum (aTray A t) (tryT A t).1) ≠ 0 := by
    by_cases q : tN (aTray A t) ≤ (tryT A t).1
    · exact Or.inl q
    · exact Or.inr ⟨q, tryD_no (H := aH A) (f := tNum (aTray A t)) (tN (aTray A t)).toNat 0 (aP A) (by show (tryT A t).1 < _; omega)⟩
  rw [s15]
  have hn6 := h.n6
  have hl : (dayOf (aH A) (tryT A t).2).length ≤ 500 := dh_len hb.2.2.1
  refine ⟨fun w0 => ⟨fun w1 => ⟨fun w2 => ?_, fun w2 => AM.fm r15 f15 ?_⟩, fun w1 => AM.fm r15 f15 ?_⟩, fun w0 => ⟨fun q => AM.fm r15 f15 ?_, fun q => AM.fm r15 f15 ?_⟩⟩
  · refine cb_nobodies (by omega) r15.np hn6 M15 (by omega) (fun x hx => (dh_mem hn6.2 hb.2.2.1 hx).1.2.2.1) (AM.fm r15 f15 ?_)
    show _ = _
    unfold judgeS; rw [if_pos hin, if_neg hT, if_neg w0, if_neg w1, if_neg w2]
  · show _ = _
    unfold judgeS; rw [if_pos hin, if_neg hT, if_neg w0, if_neg w1, if_pos w2]; exact M15.1
  · show _ = _
    unfold judgeS; rw [if_pos hin, if_neg hT, if_neg w0, if_pos w1]
  · show _ = _
    unfold judgeS; rw [if_pos hin, if_neg hT, if_pos w0, if_neg (fun y => q (if_pos y))]
  · show _ = _
    unfold judgeS
    rw [if_pos hin, if_neg hT, if_pos w0]
    rcases hno with y | y
    · rw [if_pos y]
    · rw [if_neg y.1] at q; exact absurd q y.2

/-! THE REFERENCE: queries -/
theorem DMd.h {μ : Mem} {A : StT} (h : DMd μ (aH A) (aP A) (aP A) 100) : HM μ (DH A) := h.1
theorem RY.dl {μ : Mem} {A : StT} (h : RY μ A) : (DH A).length ≤ 500 := dh_len h.q.2.2.2.2.1
theorem RY.dm {μ : Mem} {A : StT} (h : RY μ A) {x : Int × Int} (hx : x ∈ DH A) : goodQ (hP (aH A)) x.2 ∧ 0 ≤ x.1 ∧ x.1 < 100 := dh_mem h.n6.2 h.q.2.2.2.2.1 hx
theorem ca_lays {d : Nat} {sc : SC} {μ : Mem} {A : StT} {R : Mem → Prop} (hd : 6 ≤ d) (h : RY μ A) (k : ∀ μ', FW μ μ' → RY μ' A → GG μ' (aH A) (aP A) → DMd μ' (aH A) (aP A) (aP A) 100 → R μ') : CAv mX10_laysDay d sc [(2, 183)] μ R :=
  cb_laysDay hd h.q (Or.inl h.2.2.2.2.1) (fun μ' f _ G M => k μ' f (h.same f) G M)
theorem cm_fault {d : Nat} {sc : SC} {μ : Mem} {A : StT} {w : Int} (h : RY μ A) : CTi mX10_fault d sc [(2, 183), (0, w)] μ (AM μ A (fun x => x = faultS A w)) := by
  refine CTi_of mp_X10_fault (Nat.le_of_ble_eq_true rfl) ?_
  refine s_X10_fault_0 ?_
  intro μ1 e1
  have f1 := fw0 e1
  have r1 := h.same f1
  refine ⟨fun z => ⟨fun z2 => AM.of h f1 ?_, fun z2 => AM.of h f1 ?_⟩, fun z => AM.of h f1 ?_⟩
  · show _ = _
    unfold faultS; rw [if_neg z, if_neg z2]
  · show _ = _
    unfold faultS; rw [if_neg z, if_pos z2]; exact r1.2.2.2.1
  · show _ = _
    unfold faultS; rw [if_pos z]; exact r1.2.2.1
theorem cm_count {d : Nat} {sc : SC} {μ : Mem} {A : StT} {w : Int} (h : RY μ A) : CTi mX10_count d sc [(2, 183), (0, w)] μ (AM μ A (fun x => x = countS A w)) := by
  refine CTi_of mp_X10_count (Nat.le_of_ble_eq_true rfl) ?_
  refine s_X10_count_0 ?_
  intro μ1 e1
  have f1 := fw0 e1
  have r1 := h.same f1
  obtain ⟨m1, m2, m3, m4, _⟩ := r1.q.1
  have p0 : μ1 184 31 = pN (aP A) := r1.q.2.1.1
  have p39 : μ1 184 70 = pWind (aP A) := r1.q.2.1.2.2.2
  refine ⟨fun z => AM.of h f1 ?_, fun z => AM.of h f1 ?_, fun z => AM.of h f1 ?_, fun z => AM.of h f1 ?_, fun z => AM.of h f1 ?_, fun z => AM.of h f1 ?_, fun z => AM.of h f1 ?_, fun z => AM.of h f1 ?_, fun z => AM.of h f1 ?_⟩
  · show _ = _
    unfold countS; rw [if_pos z]; exact m2
  · show _ = _
    unfold countS; rw [if_neg (by omega), if_pos z]; exact m3
  · show _ = _
    unfold countS; rw [if_neg (by omega), if_neg (by omega), if_pos z]; exact m4
  · show _ = _
    unfold countS; rw [if_neg (by omega), if_neg (by omega), if_neg (by omega), if_pos z]; exact p0
  · show _ = _
    unfold countS; rw [if_neg (by omega), if_neg (by omega), if_neg (by omega), if_neg (by omega), if_pos z]; exact p39
  · show _ = _
    unfold countS; rw [if_neg (by omega), if_neg (by omega), if_neg (by omega), if_neg (by omega), if_neg (by omega), if_pos z]; exact r1.2.2.2.2.2.2.2.1.1
  · show _ = _
    unfold countS; rw [if_neg (by omega), if_neg (by omega), if_neg (by omega), if_neg (by omega), if_neg (by omega), if_neg (by omega), if_pos z]; exact r1.1
  · show _ = _
    unfold countS; rw [if_neg (by omega), if_neg (by omega), if_neg (by omega), if_neg (by omega), if_neg (by omega), if_neg (by omega), if_neg (by omega), if_pos z]; exact m1
  · show _ = _
    unfold countS; rw [if_neg (by omega), if_neg (by omega), if_neg (by omega), if_neg (by omega), if_neg (by omega), if_neg (by omega), if_neg (by omega), if_neg (by omega)]
theorem cm_person {d : Nat} {sc : SC} {μ : Mem} {A : StT} {p w : Int} (hd : 2 ≤ d) (h : RY μ A) : CTi mX10_person d sc [(2, 183), (0, p), (0, w)] μ (AM μ A (fun x => x = personS A p w)) := by
  refine CTi_of mp_X10_person (Nat.le_of_ble_eq_true rfl) ?_
  refine s_X10_person_0 ?_
  intro μ1 e1
  have f1 := fw0 e1
  have r1 := h.same f1
  refine cb_isPerson hd r1.np r1.n6 (fun z => ⟨fun q => absurd rfl q, fun _ => AM.of h f1 (if_neg z).symm⟩) (fun z => ⟨fun _ => ?_, fun q => absurd q (by decide)⟩)
  have h6 := r1.n6
  have z0 := z.1
  have z1 := z.2
  have x1 := r1.q.1.2.2.2.2.1 p z.1 z.2
  have x2 : μ1 184 (31 + (33 + p)) = pCell (aP A) p := r1.q.2.1.2.2.1 p z.1 z.2
  rw [show 31 + (33 + p) = 64 + p by omega] at x2
  refine ⟨fun q => ⟨by omega, by omega, AM.of h f1 ?_⟩, fun q => ⟨by omega, by omega, AM.of h f1 ?_⟩, fun q => ⟨by omega, by omega, AM.of h f1 ?_⟩, fun q => ⟨by omega, by omega, AM.of h f1 ?_⟩, fun q => AM.of h f1 ?_⟩
  · show _ = _
    unfold personS; rw [if_pos z, if_pos q]; exact x2
  · show _ = _
    unfold personS; rw [if_pos z, if_neg (by omega), if_pos q]; exact x1.1
  · show _ = _
    unfold personS; rw [if_pos z, if_neg (by omega), if_neg (by omega), if_pos q]; exact x1.2.1
  · show _ = _
    unfold personS; rw [if_pos z, if_neg (by omega), if_neg (by omega), if_neg (by omega), if_pos q]; exact x1.2.2
  · show _ = _
    unfold personS; rw [if_pos z, if_neg (by omega), if_neg (by omega), if_neg (by omega), if_neg (by omega)]
theorem cm_naming {d : Nat} {sc : SC} {μ : Mem} {A : StT} {i w : Int} (hd : 6 ≤ d) (h : RY μ A) : CTi mX10_naming d sc [(2, 183), (0, i), (0, w)] μ (AM μ A (fun x => x = namingS A i w)) := by
  refine CTi_of mp_X10_naming (Nat.le_of_ble_eq_true rfl) ?_
  refine s_X10_naming_0 ?_
  intro μ1 e1
  have f1 := fw0 e1
  have r1 := h.same f1
  have hn := r1.q.2.2.2.2.1.1
  have hn8 := r1.q.2.2.2.2.2.1
  have p0 : μ1 184 31 = pN (aP A) := r1.q.2.1.1
  rw [p0]
  refine ⟨by omega, cb_within (by omega) (fun z => ⟨fun _ => AM.of h f1 (if_neg (by omega)).symm, fun q => absurd rfl q⟩) (fun z => ⟨fun q => absurd q (by decide), fun _ => ?_⟩)⟩
  have hin : 0 ≤ i ∧ i < pN (aP A) := by omega
  refine cb_within (by omega) (fun zw => ⟨fun q => absurd rfl q, fun _ => AM.of h f1 ?_⟩) (fun zw => ⟨fun _ => ⟨fun z4 => ?_, fun z4 => ⟨by omega, by omega, by omega, by omega, AM.of h f1 ?_⟩⟩, fun q => absurd q (by decide)⟩)
  · show _ = _
    unfold namingS; rw [if_pos hin, if_neg (by omega), if_neg (by omega), if_neg (by omega), if_neg (by omega), if_neg (by omega)]
  · have hw4 : w = 4 := by omega
    refine ca_lays hd r1 (fun μ12 f12 r12 G12 M12 => ⟨by omega, ?_⟩)
    have hs := M12.2.2 i hin.1 hin.2
    have hS : namingS A i w = if saidF (gapQ (aH A) (aP A)) (ansQ (aH A) (aP A)) (aP A) 100 i = true then 1 else 0 := by unfold namingS; rw [if_pos hin, if_neg (by omega), if_neg (by omega), if_neg (by omega), if_neg (by omega), if_pos hw4]
    refine ⟨fun y => AM.of h (f1.tr f12) ?_, fun y => AM.of h (f1.tr f12) ?_⟩
    · show _ = _
      rw [hS, ← hs, y]
    · show _ = _
      rw [hS]
      by_cases q : saidF (gapQ (aH A) (aP A)) (ansQ (aH A) (aP A)) (aP A) 100 i = true
      · rw [if_pos q]
      · rw [if_neg q] at hs; exact absurd hs y
  · show _ = _
    have x1 := r1.q.2.1.2.1 i hin.1 hin.2
    have y1 : μ1 184 (31 + (1 + 4 * i)) = pWho (aP A) i := x1.1
    have y2 : μ1 184 (31 + (2 + 4 * i)) = pWhom (aP A) i := x1.2.1
    have y3 : μ1 184 (31 + (3 + 4 * i)) = pAt (aP A) i := x1.2.2.1
    have y4 : μ1 184 (31 + (4 + 4 * i)) = pSure (aP A) i := x1.2.2.2
    unfold namingS
    rw [if_pos hin]
    have : w = 0 ∨ w = 1 ∨ w = 2 ∨ w = 3 := by omega
    rcases this with q | q | q | q
    · rw [if_pos q, q, ← y1]; congr 1; omega
    · rw [if_neg (by omega), if_pos q, q, ← y2]; congr 1; omega
    · rw [if_neg (by omega), if_neg (by omega), if_pos q, q, ← y3]; congr 1; omega
    · rw [if_neg (by omega), if_neg (by omega), if_neg (by omega), if_pos q, q, ← y4]; congr 1; omega
theorem cm_between {d : Nat} {sc : SC} {μ : Mem} {A : StT} {a b w : Int} (hd : 4 ≤ d) (h : RY μ A) : CTi mX10_between d sc [(2, 183), (0, a), (0, b), (0, w)] μ (AM μ A (fun x => x = betweenS A a b w)) := by
  refine CTi_of mp_X10_between (Nat.le_of_ble_eq_true rfl) ?_
  refine s_X10_between_0 ?_
  intro μ1 e1
  have f1 := fw0 e1
  have r1 := h.same f1
  refine cb_areTwo (by omega) r1.np r1.n6 (fun z => ⟨fun q => absurd rfl q, fun _ => AM.of h f1 (if_neg z).symm⟩) (fun z => ⟨fun _ => ?_, fun q => absurd q (by decide)⟩)
  refine ⟨fun q => cb_gapOf hd r1.q z.1 z.2.1 (fun μ' f => AM.of h (f1.tr f.w) ?_), fun q => cb_pitchOf hd r1.q z.1 z.2.1 (fun μ' f => AM.of h (f1.tr f.w) ?_), fun q => cb_farOf (by omega) r1.q z.1 z.2.1 (AM.of h f1 ?_), fun q => AM.of h f1 ?_⟩
  · show _ = _
    unfold betweenS; rw [if_pos z, if_pos q]
  · show _ = _
    unfold betweenS; rw [if_pos z, if_neg (by omega), if_pos q]
  · show _ = _
    unfold betweenS; rw [if_pos z, if_neg (by omega), if_neg (by omega), if_pos q]
  · show _ = _
    unfold betweenS; rw [if_pos z, if_neg (by omega), if_neg (by omega), if_neg (by omega)]
theorem cm_hiccups {d : Nat} {sc : SC} {μ : Mem} {A : StT} {p : Int} (hd : 6 ≤ d) (h : RY μ A) : CTi mX10_hiccups d sc [(2, 183), (0, p)] μ (AM μ A (fun x => x = hiccupsS A p)) := by
  refine CTi_of mp_X10_hiccups (Nat.le_of_ble_eq_true rfl) ?_
  refine s_X10_hiccups_0 ?_
  intro μ1 e1
  have f1 := fw0 e1
  have r1 := h.same f1
  have hl := h.dl
  refine ⟨fun z => ca_lays hd r1 (fun μ' f r G M => ⟨fun q => absurd z q, fun _ => AM.of h (f1.tr f) ?_⟩), fun z => cb_isPerson (by omega) r1.np r1.n6 (fun zp => ⟨fun q => absurd rfl q, fun _ => AM.of h f1 ?_⟩) (fun zp => ⟨fun _ => ca_lays hd r1 (fun μ' f r G M => ⟨fun _ => cb_hiccupsOf (by omega) M.h (by omega) (AM.of h (f1.tr f) ?_), fun q => absurd q z⟩), fun q => absurd q (by decide)⟩)⟩
  · show _ = _
    unfold hiccupsS; rw [if_pos z]; exact M.h.1
  · show _ = _
    unfold hiccupsS; rw [if_neg z, if_neg zp]
  · show _ = _
    unfold hiccupsS; rw [if_neg z, if_pos zp]
theorem cm_hiccup {d : Nat} {sc : SC} {μ : Mem} {A : StT} {i w : Int} (hd : 6 ≤ d) (h : RY μ A) : CTi mX10_hiccup d sc [(2, 183), (0, i), (0, w)] μ (AM μ A (fun x => x = hiccupS A i w)) := by
  refine CTi_of mp_X10_hiccup (Nat.le_of_ble_eq_true rfl) ?_
  refine s_X10_hiccup_0 ?_
  intro μ1 e1
  have f1 := fw0 e1
  have r1 := h.same f1
  have hl := h.dl
  refine cb_within (by omega) (fun z => ⟨fun q => absurd rfl q, fun _ => AM.of h f1 (if_pos (by omega)).symm⟩) (fun z => ⟨fun _ => ⟨fun zi => ?_, fun zi => AM.of h f1 ?_⟩, fun q => absurd q (by decide)⟩)
  rotate_left
  · show _ = _
    unfold hiccupS; rw [if_neg (by omega), if_pos zi]
  refine ca_lays hd r1 (fun μ' f r G M => ?_)
  have hM := M.h
  refine ⟨fun q => ?_, fun q => AM.of h (f1.tr f) ?_⟩
  rotate_left
  · show _ = _
    rw [hM.1] at q
    unfold hiccupS
    rw [if_neg (by omega), if_neg (by omega), List.getElem?_eq_none (by omega)]
  rw [hM.1] at q
  have hi : i.toNat < (DH A).length := by omega
  have hx := hM.2 i.toNat hi
  have hm := h.dm (List.getElem_mem (h := hi))
  rw [show ((i.toNat : Nat) : Int) = i by omega] at hx
  have hg := List.getElem?_eq_getElem hi
  have hS : hiccupS A i w = if w = 0 then (DH A)[i.toNat].2 % 6 else if w = 1 then (DH A)[i.toNat].1 else if w = 2 then (DH A)[i.toNat].2 / 6 else if w = 3 then pitchS (aH A) (aP A) ((DH A)[i.toNat].2 / 6) ((DH A)[i.toNat].2 % 6) else gapS (aH A) (aP A) ((DH A)[i.toNat].2 / 6) ((DH A)[i.toNat].2 % 6) := by
    unfold hiccupS; rw [if_neg (by omega), if_neg (by omega), hg]
  generalize (DH A)[i.toNat] = e at *
  obtain ⟨⟨g1, g2, g3, g4⟩, g5, g6⟩ := hm
  have h6 := r.n6
  have hG := G (e.2 / 6) (e.2 % 6) (by omega) g2 (by omega) g3 g4
  rw [show e.2 / 6 * 6 + e.2 % 6 = 6 * (e.2 / 6) + e.2 % 6 by omega] at hG
  rw [hx.1, hx.2.1, hx.2.2]
  refine ⟨fun q => ⟨by omega, AM.of h (f1.tr f) ?_⟩, fun q => ⟨by omega, AM.of h (f1.tr f) ?_⟩, fun q => ⟨by omega, AM.of h (f1.tr f) ?_⟩, fun q => ⟨by omega, by omega, cb_pitchOf (by omega) r.q ⟨by omega, g2⟩ ⟨by omega, g3⟩ (fun μ9 f9 => AM.of h ((f1.tr f).tr f9.w) ?_)⟩, fun q => ⟨by omega, by omega, by omega, by omega, by omega, AM.of h (f1.tr f) ?_⟩⟩
  · show _ = _
    rw [hS, if_pos q]
  · show _ = _
    rw [hS, if_neg (by omega), if_pos q]
  · show _ = _
    rw [hS, if_neg (by omega), if_neg (by omega), if_pos q]
  · show _ = _
    rw [hS, if_neg (by omega), if_neg (by omega), if_neg (by omega), if_pos q]
  · show _ = _
    rw [hS, if_neg (by omega), if_neg (by omega), if_neg (by omega), if_neg (by omega)]; exact hG
theorem cm_minute {d : Nat} {sc : SC} {μ : Mem} {A : StT} {p i : Int} (hd : 6 ≤ d) (h : RY μ A) : CTi mX10_minute d sc [(2, 183), (0, p), (0, i)] μ (AM μ A (fun x => x = minuteS A p i)) := by
  refine CTi_of mp_X10_minute (Nat.le_of_ble_eq_true rfl) ?_
  refine s_X10_minute_0 ?_
  intro μ1 e1
  have f1 := fw0 e1
  have r1 := h.same f1
  have hl := h.dl
  refine cb_isPerson (by omega) r1.np r1.n6 (fun zp => ⟨fun q => absurd rfl q, fun _ => AM.of h f1 (if_neg zp).symm⟩) (fun zp => ⟨fun _ => ⟨fun zi => ca_lays hd r1 (fun μ' f r G M => cb_minuteAt (by omega) M.h (by omega) zi (AM.of h (f1.tr f) ?_)), fun zi => AM.of h f1 ?_⟩, fun q => absurd q (by decide)⟩)
  · show _ = _
    unfold minuteS; rw [if_pos zp, if_neg (by omega)]
  · show _ = _
    unfold minuteS; rw [if_pos zp, if_pos zi]
theorem cm_crowd {d : Nat} {sc : SC} {μ : Mem} {A : StT} {m : Int} (hd : 6 ≤ d) (h : RY μ A) : CTi mX10_crowd d sc [(2, 183), (0, m)] μ (AM μ A (fun x => x = crowdS A m)) := by
  refine CTi_of mp_X10_crowd (Nat.le_of_ble_eq_true rfl) ?_
  refine s_X10_crowd_0 ?_
  intro μ1 e1
  have f1 := fw0 e1
  have r1 := h.same f1
  have hl := h.dl
  refine cb_within (by omega) (fun z => ⟨fun q => absurd rfl q, fun _ => AM.of h f1 (if_neg (by omega)).symm⟩) (fun z => ⟨fun _ => ca_lays hd r1 (fun μ' f r G M => cb_crowdAt (by omega) M.h (by omega) (AM.of h (f1.tr f) (if_pos (by omega)).symm)), fun q => absurd q (by decide)⟩)
theorem crowd_out {μ : Mem} {A : StT} (h : RY μ A) {m : Int} (hm : ¬ (0 ≤ m ∧ m < 100)) : crowdN (DH A) m = 0 := by
  unfold crowdN
  have : (DH A).countP (fun x => x.1 == m) = 0 := by
    rw [List.countP_eq_zero]
    intro x hx
    have := h.dm hx
    simp
    omega
  rw [this]; rfl
theorem cm_worst {d : Nat} {sc : SC} {μ : Mem} {A : StT} (hd : 6 ≤ d) (h : RY μ A) : CTi mX10_worst d sc [(2, 183)] μ (AM μ A (worstR (DH A))) := by
  refine CTi_of mp_X10_worst (Nat.le_of_ble_eq_true rfl) ?_
  refine s_X10_worst_0 ?_
  intro μ1 e1
  have f1 := fw0 e1
  have r1 := h.same f1
  have hl := h.dl
  refine ca_lays hd r1 (fun μ' f r G M => ?_)
  have c0 : ∀ m, 0 ≤ crowdN (DH A) m := fun m => by unfold crowdN; omega
  have key : ∀ (r0 m : Nat) (b c : Int), m + r0 = 100 → (∀ j : Int, j < m → crowdN (DH A) j ≤ c) → ((b = -1 ∧ c = 0) ∨ (0 < c ∧ b < m ∧ crowdN (DH A) b = c ∧ ∀ j, j < b → crowdN (DH A) j < c)) → WQ mX10_worst d sc (ZI sc (AM μ A (worstR (DH A)))) 15 [(2, 183), (0, b), (0, c), (0, (m : Int))] [] μ' := by
    intro r0
    induction r0 with
    | zero =>
      intro m b c hm hle hb
      refine s_X10_worst_15 ⟨fun _ => AM.of h (f1.tr f) ?_, fun z => by omega⟩
      have hall : ∀ j, crowdN (DH A) j ≤ c := fun j => by
        by_cases q : 0 ≤ j ∧ j < 100
        · exact hle j (by omega)
        · rw [crowd_out h q]
          rcases hb with y | y <;> omega
      rcases hb with ⟨b1, b2⟩ | ⟨b1, b2, b3, b4⟩
      · exact Or.inl ⟨fun j => by have := hall j; omega, b1⟩
      · exact Or.inr ⟨by omega, fun j => by have := hall j; omega, fun j hj => by have := b4 j hj; omega⟩
    | succ r0 ih =>
      intro m b c hm hle hb
      refine s_X10_worst_15 ⟨fun z => by omega, fun _ => cb_crowdAt (by omega) M.h (by omega) ⟨fun z => cb_crowdAt (by omega) M.h (by omega) ⟨by omega, ?_⟩, fun z => ⟨by omega, ?_⟩⟩⟩
      · rintro _ rfl
        refine ih (m + 1) m _ (by omega) (fun j hj => ?_) (Or.inr ⟨?_, by omega, rfl, fun j hj => ?_⟩)
        · by_cases q : j = m
          · rw [q]; exact Int.le_refl _
          · have := hle j (by omega); omega
        · have := c0 m
          rcases hb with y | y <;> omega
        · have := hle j hj; omega
      · rintro _ rfl
        refine ih (m + 1) b c (by omega) (fun j hj => ?_) ?_
        · by_cases q : j = m
          · rw [q]; exact z
          · exact hle j (by omega)
        · rcases hb with y | y
          · exact Or.inl y
          · exact Or.inr ⟨y.1, by omega, y.2.2⟩
  exact key 100 0 (-1) 0 rfl (fun j hj => by rw [crowd_out h (by omega)]; exact Int.le_refl 0) (Or.inl ⟨rfl, rfl⟩)
theorem cm_answers {d : Nat} {sc : SC} {μ : Mem} {A : StT} {p : Int} (hd : 6 ≤ d) (h : RY μ A) : CTi mX10_answers d sc [(2, 183), (0, p)] μ (AM μ A (fun x => x = answersS A p)) := by
  refine CTi_of mp_X10_answers (Nat.le_of_ble_eq_true rfl) ?_
  refine s_X10_answers_0 ?_
  intro μ1 e1
  have f1 := fw0 e1
  have r1 := h.same f1
  have h6 := h.n6
  refine cb_isPerson (by omega) r1.np r1.n6 (fun zp => ⟨fun q => absurd rfl q, fun _ => AM.of h f1 (if_neg zp).symm⟩) (fun zp => ⟨fun _ => ca_lays hd r1 (fun μ' f r G M => ⟨⟨zp.1, by have := zp.2; omega⟩, AM.of h (f1.tr f) ?_⟩), fun q => absurd q (by decide)⟩)
  show _ = _
  unfold answersS; rw [if_pos zp]; exact M.2.1 p zp.1 (by have := zp.2; omega)
theorem cm_nobody {d : Nat} {sc : SC} {μ : Mem} {A : StT} (hd : 6 ≤ d) (h : RY μ A) : CTi mX10_nobody d sc [(2, 183)] μ (AM μ A (fun x => x = nobodyS A)) := by
  refine CTi_of mp_X10_nobody (Nat.le_of_ble_eq_true rfl) ?_
  refine s_X10_nobody_0 ?_
  intro μ1 e1
  have f1 := fw0 e1
  have r1 := h.same f1
  have hl := h.dl
  refine ca_lays hd r1 (fun μ' f r G M => cb_nobodies (by omega) r.np r.n6 M.h (by omega) (fun x hx => (h.dm hx).1.2.2.1) (AM.of h (f1.tr f) rfl))
theorem or_zero {x : Int} (h : 0 ≤ x ∧ x < 64) : iOr x 0 = x := by
  have H : ∀ y : Nat, y < 64 → iOr (y : Int) 0 = y := by decide +kernel
  have := H x.toNat (by omega)
  rwa [show ((x.toNat : Nat) : Int) = x by omega] at this
theorem cm_who {d : Nat} {sc : SC} {μ : Mem} {A : StT} {p g t : Int} (hd : 4 ≤ d) (h : RY μ A) : CTi mX10_who d sc [(2, 183), (0, p), (0, g), (0, t)] μ (AM μ A (fun x => x = whoS A p g t)) := by
  refine CTi_of mp_X10_who (Nat.le_of_ble_eq_true rfl) ?_
  refine s_X10_who_0 ?_
  intro μ1 e1
  have f1 := fw0 e1
  have r1 := h.same f1
  have h6 := h.n6
  have bad : ¬ ((1 ≤ g ∧ g ≤ 20) ∧ 0 ≤ t ∧ t ≤ 9) → ipS A p → AM μ A (fun x => x = whoS A p g t) (-3) μ1 := fun z zp => AM.of h f1 (by show _ = _; unfold whoS; rw [if_pos zp, if_neg z])
  refine cb_isPerson (by omega) r1.np r1.n6 (fun zp => ⟨fun q => absurd rfl q, fun _ => AM.of h f1 (if_neg zp).symm⟩) (fun zp => ⟨fun _ => ?_, fun q => absurd q (by decide)⟩)
  refine cb_within (by omega) (fun zg => ⟨fun _ => bad (fun y => zg y.1) zp, fun q => absurd rfl q⟩) (fun zg => ⟨fun q => absurd q (by decide), fun _ => cb_within (by omega) (fun zt => ⟨fun q => absurd rfl q, fun _ => bad (fun y => zt y.2) zp⟩) (fun zt => ⟨fun _ => ?_, fun q => absurd q (by decide)⟩)⟩)
  generalize hF : (fun q : Int => decide (q ≠ p ∧ gapS (aH A) (aP A) q p = g ∧ pitchS (aH A) (aP A) q p = t)) = F
  have hpw : ∀ m : Nat, m < 7 → (2 : Int) ^ m ≤ 64 := by decide +kernel
  have key : ∀ (n q : Nat) (μ2 : Mem), (q : Int) + n = hP (aH A) → FW μ μ2 → WQ mX10_who d sc (ZI sc (AM μ A (fun x => x = whoS A p g t))) 50 [(2, 183), (0, p), (0, g), (0, t), (0, bitsF F q), (0, (q : Int))] [] μ2 := by
    intro n
    induction n with
    | zero =>
      intro q μ2 hq hf
      have r2 := h.same hf
      refine s_X10_who_50 ⟨fun _ => AM.of h hf ?_, fun z => by rw [r2.np] at z; omega⟩
      show _ = _
      unfold whoS; rw [if_pos zp, if_pos ⟨zg, zt⟩, hF, show (hP (aH A)).toNat = q by omega]
    | succ n ih =>
      intro q μ2 hq hf
      have r2 := h.same hf
      have hb := bitsF_b F q
      have h64 := hpw q (by omega)
      have no : ∀ μ8 : Mem, FW μ μ8 → F q = false → ∀ v10 : Int, v10 = iOr (bitsF F q) 0 → (-2147483648 ≤ (q : Int) + 1 ∧ (q : Int) + 1 < 2147483648) ∧ ∀ v12 : Int, v12 = (q : Int) + 1 → WQ mX10_who d sc (ZI sc (AM μ A (fun x => x = whoS A p g t))) 50 [(2, 183), (0, p), (0, g), (0, t), (0, v10), (0, v12)] [] μ8 := fun μ8 f8 e v10 h10 => by
        refine ⟨by omega, ?_⟩
        rintro _ rfl
        have := ih (q + 1) μ8 (by omega) f8
        rw [bitsF, e, if_neg (by decide), Int.add_zero] at this
        rw [h10, or_zero (by omega)]
        exact this
      refine s_X10_who_50 ⟨fun z => by rw [r2.np] at z; omega, fun _ => ⟨fun z => no μ2 hf (by rw [← hF]; simp [z]), fun zq => ?_⟩⟩
      refine cb_gapOf hd r2.q ⟨by omega, by omega⟩ zp (fun μ8 f8 => ⟨fun z => no μ8 (hf.tr f8.w) (by rw [← hF]; simp [z]), fun zg2 => ?_⟩)
      have r8 := r2.same f8.w
      refine cb_pitchOf hd r8.q ⟨by omega, by omega⟩ zp (fun μ14 f14 => ⟨fun z => no μ14 ((hf.tr f8.w).tr f14.w) (by rw [← hF]; simp [z]), fun zt2 => ?_⟩)
      intro v hv
      refine ⟨by omega, ?_⟩
      rintro _ rfl
      have e : F q = true := by rw [← hF]; simp [zq, zg2, zt2]
      have := ih (q + 1) μ14 (by omega) ((hf.tr f8.w).tr f14.w)
      rw [bitsF, if_pos e] at this
      rw [hv, or_up (bitsF_b _ _) (by omega)]
      exact this
  exact key (hP (aH A)).toNat 0 μ1 (by omega) f1

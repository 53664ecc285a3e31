/-! THE CLASS'S QUERIES -/
theorem RXc.xh {μ : Mem} {A : StT} (h : RXc μ A) : XH μ (μ 0 2) (aH A) := h.2.2.2.2.2.1
theorem RXc.xp {μ : Mem} {A : StT} (h : RXc μ A) : XP μ (μ 0 2 + 7) (hP (aH A)) (aP A) := h.2.2.2.2.2.2.1
theorem RXc.past {μ : Mem} {A : StT} (h : RXc μ A) : PastR μ (hP (aH A)) (aPast A) := h.2.2.2.2.2.2.2.1
theorem RXc.tray {μ : Mem} {A : StT} (h : RXc μ A) : ∀ i, 0 ≤ i → i < 4 → μ 96 i = 175 + 2 * i ∧ XT μ (175 + 2 * i) (aTray A i) := h.2.2.2.2.2.2.2.2.2.1
theorem RXc.wfh {μ : Mem} {A : StT} (h : RXc μ A) : wfH (aH A) := h.wf.2.2.2.1
theorem RXc.wfs {μ : Mem} {A : StT} (h : RXc μ A) : wfS (aH A) (aP A) := h.wf.2.2.2.2.1
def FX (μ μ' : Mem) : Prop := ∀ b j, 183 ≤ b → μ' b j = μ b j
theorem FX.refl (μ : Mem) : FX μ μ := fun _ _ _ => rfl
theorem FX.tr {μ1 μ2 μ3 : Mem} (h : FX μ1 μ2) (h' : FX μ2 μ3) : FX μ1 μ3 := fun b j q => by rw [h' b j q]; exact h b j q
theorem FC.x {μ μ' : Mem} (h : FC μ μ') : FX μ μ' := fun b j q => h b j (by omega) (by omega)
def AX (μ : Mem) (A' : StT) (W : Int → Prop) (x : Int) (μ' : Mem) : Prop := W x ∧ RX μ' A' ∧ FX μ μ'
theorem AX.here {μ : Mem} {A : StT} {W : Int → Prop} {x : Int} (h : RX μ A) (hW : W x) : AX μ A W x μ := ⟨hW, h, FX.refl μ⟩
def DH (A : StT) : SayL := hicL (daySt (gapQ (aH A) (aP A)) (ansQ (aH A) (aP A)) (aP A) 100) 100
theorem KA.hr {μ : Mem} {A : StT} (h : KA μ A) : HR μ 105 (DH A) := h.2.1
theorem dh_mem {H : HillT} {P PN : PlanT} (h6 : hP H ≤ 6) (hw : wfNp (hP H) PN) {x : Int × Int} (hx : x ∈ hicL (daySt (gapQ H P) (ansQ H P) PN 100) 100) : goodQ (hP H) x.2 ∧ 0 ≤ x.1 ∧ x.1 < 100 := by
  have h1 := hicL_mem hx
  exact ⟨daySt_good h6 hw 100 x h1.1, h1.2.1, by omega⟩
theorem dh_len {H : HillT} {P PN : PlanT} (hw : wfNp (hP H) PN) : (hicL (daySt (gapQ H P) (ansQ H P) PN 100) 100).length ≤ 500 := by
  have h2 := hicL_le (daySt (gapQ H P) (ansQ H P) PN 100) 100
  have h3 := daySt_len (ans := ansQ H P) (gapQ_ok H P) hw.1.2 (Nat.le_refl 100)
  omega
def personS (A : StT) (p w : Int) : Int := if ipS A p then (if w = 0 then pCell (aP A) p else if w = 1 then hLoud (aH A) p else if w = 2 then hDeaf (aH A) p else if w = 3 then hVoice (aH A) p else -2) else -2
theorem cx_person {d : Nat} {sc : SC} {μ : Mem} {A : StT} {p w : Int} (hd : 1 ≤ d) (h : RX μ A) : CTi mX9_person d sc [(2, 0), (0, p), (0, w)] μ (AX μ A (fun x => x = personS A p w)) := by
  refine CTi_of mp_X9_person (Nat.le_of_ble_eq_true rfl) ?_
  refine s_X9_person_0 (ca_isPerson hd h.1 (fun z => ⟨fun q => absurd rfl q, fun _ => AX.here h (if_neg z).symm⟩) (fun z => ⟨fun _ => ?_, fun q => absurd q (by decide)⟩))
  have h6 := h.1.wfh.2.2.1
  have hb : 0 ≤ p ∧ p < 6 := ⟨z.1, by have := z.2; omega⟩
  have hn := h.1.now.1
  have x1 := h.1.xh.2.2.2.2.1 p z.1 z.2
  have x2 := h.1.xp.2.2.1 p z.1 z.2
  refine ⟨fun q => ⟨hn, hb, AX.here h ?_⟩, fun q => ⟨hn, hb, AX.here h ?_⟩, fun q => ⟨hn, hb, AX.here h ?_⟩, fun q => ⟨hn, hb, AX.here h ?_⟩, fun q => AX.here h ?_⟩
  · show _ = _
    unfold personS; rw [if_pos z, if_pos q]; exact x2
  · show _ = _
    unfold personS; rw [if_pos z, if_neg (by omega), if_pos q]; exact x1.1
  · show _ = _
    unfold personS; rw [if_pos z, if_neg (by omega), if_neg (by omega), if_pos q]; exact x1.2.1
  · show _ = _
    unfold personS; rw [if_pos z, if_neg (by omega), if_neg (by omega), if_neg (by omega), if_pos q]; exact x1.2.2
  · show _ = _
    unfold personS; rw [if_pos z, if_neg (by omega), if_neg (by omega), if_neg (by omega), if_neg (by omega)]
def namingS (A : StT) (k w : Int) : Int := if 0 ≤ k ∧ k < pN (aP A) then (if w = 0 then pWho (aP A) k else if w = 1 then pWhom (aP A) k else if w = 2 then pAt (aP A) k else if w = 3 then pSure (aP A) k else if w = 4 then (if saidF (gapQ (aH A) (aP A)) (ansQ (aH A) (aP A)) (aP A) 100 k = true then 1 else 0) else -2) else -2
theorem cx_naming {d : Nat} {sc : SC} {μ : Mem} {A : StT} {k w : Int} (hd : 8 ≤ d) (h : RX μ A) : CTi mX9_naming d sc [(2, 0), (0, k), (0, w)] μ (AX μ A (fun x => x = namingS A k w)) := by
  have hn := h.1.now.1
  have hs := h.1.wfs
  have hn0 := h.1.xp.1
  refine CTi_of mp_X9_naming (Nat.le_of_ble_eq_true rfl) ?_
  refine s_X9_naming_0 ⟨hn, fun z => AX.here h (if_neg (by omega)).symm, fun z => ⟨fun z2 => ?_, fun z2 => AX.here h (if_neg (by omega)).symm⟩⟩
  rw [hn0] at z2
  have hk : 0 ≤ k ∧ k < pN (aP A) := ⟨z, z2⟩
  have hb : 0 ≤ k ∧ k < 10 := by have := hs.2.2.1; omega
  have x1 := h.1.xp.2.1 k z z2
  refine ⟨fun q => ⟨hb, AX.here h ?_⟩, fun q => ⟨hb, AX.here h ?_⟩, fun q => ⟨hb, AX.here h ?_⟩, fun q => ⟨hb, AX.here h ?_⟩, fun q => ca_know hd h (fun μ' f r ka => ⟨hb, ?_, r, f.x⟩), fun q => AX.here h ?_⟩
  · show _ = _
    unfold namingS; rw [if_pos hk, if_pos q]; exact x1.1
  · show _ = _
    unfold namingS; rw [if_pos hk, if_neg (by omega), if_pos q]; exact x1.2.1
  · show _ = _
    unfold namingS; rw [if_pos hk, if_neg (by omega), if_neg (by omega), if_pos q]; exact x1.2.2.1
  · show _ = _
    unfold namingS; rw [if_pos hk, if_neg (by omega), if_neg (by omega), if_neg (by omega), if_pos q]; exact x1.2.2.2
  · show _ = _
    unfold namingS; rw [if_pos hk, if_neg (by omega), if_neg (by omega), if_neg (by omega), if_neg (by omega), if_pos q]; exact ka.2.2.2.1 k hb.1 hb.2
  · show _ = _
    unfold namingS; rw [if_pos hk, if_neg (by omega), if_neg (by omega), if_neg (by omega), if_neg (by omega), if_neg (by omega)]
def betweenS (A : StT) (a b w : Int) : Int := if ipS A a ∧ ipS A b ∧ a ≠ b then (if w = 0 then gapS (aH A) (aP A) a b else if w = 1 then pitchS (aH A) (aP A) a b else if w = 2 then farOf (aH A) (aP A) a b else -2) else -2
theorem cx_between {d : Nat} {sc : SC} {μ : Mem} {A : StT} {a b w : Int} (hd : 8 ≤ d) (h : RX μ A) : CTi mX9_between d sc [(2, 0), (0, a), (0, b), (0, w)] μ (AX μ A (fun x => x = betweenS A a b w)) := by
  refine CTi_of mp_X9_between (Nat.le_of_ble_eq_true rfl) ?_
  refine s_X9_between_0 (ca_isPerson (by omega) h.1 (fun z => ⟨fun _ => AX.here h (if_neg (fun y => z y.1)).symm, fun q => absurd rfl q⟩) (fun za => ⟨fun q => absurd q (by decide), fun _ => ?_⟩))
  refine ca_isPerson (by omega) h.1 (fun z => ⟨fun _ => AX.here h (if_neg (fun y => z y.2.1)).symm, fun q => absurd rfl q⟩) (fun zb => ⟨fun q => absurd q (by decide), fun _ => ⟨fun hab => ?_, fun q => AX.here h (if_neg (fun y => y.2.2 q)).symm⟩⟩)
  have h6 := h.1.wfh.2.2.1
  have a1 := za.1; have a2 := za.2; have b1 := zb.1; have b2 := zb.2
  refine ca_know hd h (fun μ' f r ka => ⟨by omega, by omega, ?_⟩)
  rintro _ rfl
  have g := ka.1.2.1 a b a1 a2 b1 b2 hab
  refine ⟨fun q => ⟨by omega, ?_, r, f.x⟩, fun q => ⟨by omega, ?_, r, f.x⟩, fun q => ⟨by omega, ?_, r, f.x⟩, fun q => ⟨?_, r, f.x⟩⟩
  · show _ = _
    unfold betweenS; rw [if_pos ⟨za, zb, hab⟩, if_pos q]; exact g.1
  · show _ = _
    unfold betweenS; rw [if_pos ⟨za, zb, hab⟩, if_neg (by omega), if_pos q]; exact g.2.1
  · show _ = _
    unfold betweenS; rw [if_pos ⟨za, zb, hab⟩, if_neg (by omega), if_neg (by omega), if_pos q]; exact g.2.2
  · show _ = _
    unfold betweenS; rw [if_pos ⟨za, zb, hab⟩, if_neg (by omega), if_neg (by omega), if_neg (by omega)]
def faultS (A : StT) (w : Int) : Int := if w = 0 then aFault A else if w = 1 then aPlace A else -1
theorem cx_fault {d : Nat} {sc : SC} {μ : Mem} {A : StT} {w : Int} (h : RX μ A) : CTi mX9_fault d sc [(2, 0), (0, w)] μ (AX μ A (fun x => x = faultS A w)) := by
  refine CTi_of mp_X9_fault (Nat.le_of_ble_eq_true rfl) ?_
  refine s_X9_fault_0 ⟨fun z => ⟨fun z2 => AX.here h ?_, fun z2 => AX.here h ?_⟩, fun z => AX.here h ?_⟩
  · show _ = _
    unfold faultS; rw [if_neg z, if_neg z2]
  · show _ = _
    unfold faultS; rw [if_neg z, if_pos z2]; exact h.1.2.2.2.2.1
  · show _ = _
    unfold faultS; rw [if_pos z]; exact h.1.2.2.2.1
def countS (A : StT) (w : Int) : Int := if w = 0 then hR (aH A) else if w = 1 then hC (aH A) else if w = 2 then hP (aH A) else if w = 3 then pN (aP A) else if w = 4 then pWind (aP A) else if w = 5 then (aPast A).length else if w = 6 then aTaped A else if w = 7 then hLines (aH A) else -1
theorem cx_count {d : Nat} {sc : SC} {μ : Mem} {A : StT} {w : Int} (h : RX μ A) : CTi mX9_count d sc [(2, 0), (0, w)] μ (AX μ A (fun x => x = countS A w)) := by
  have hn := h.1.now.1
  have xh := h.1.xh
  have xp := h.1.xp
  refine CTi_of mp_X9_count (Nat.le_of_ble_eq_true rfl) ?_
  refine s_X9_count_0 ⟨fun z => ⟨hn, AX.here h ?_⟩, fun z => ⟨hn, AX.here h ?_⟩, fun z => ⟨hn, AX.here h ?_⟩, fun z => ⟨hn, AX.here h ?_⟩, fun z => ⟨hn, AX.here h ?_⟩, fun z => AX.here h ?_, fun z => AX.here h ?_, fun z => ⟨hn, AX.here h ?_⟩, fun z => AX.here h ?_⟩
  · show _ = _
    unfold countS; rw [if_pos z]; exact xh.1.symm
  · show _ = _
    unfold countS; rw [if_neg (by omega), if_pos z]; exact xh.2.1.symm
  · show _ = _
    unfold countS; rw [if_neg (by omega), if_neg (by omega), if_pos z]; exact xh.2.2.2.1.symm
  · show _ = _
    unfold countS; rw [if_neg (by omega), if_neg (by omega), if_neg (by omega), if_pos z]; exact xp.1
  · show _ = _
    unfold countS; rw [if_neg (by omega), if_neg (by omega), if_neg (by omega), if_neg (by omega), if_pos z]; exact xp.2.2.2
  · show _ = _
    unfold countS; rw [if_neg (by omega), if_neg (by omega), if_neg (by omega), if_neg (by omega), if_neg (by omega), if_pos z]; exact h.1.past.1
  · show _ = _
    unfold countS; rw [if_neg (by omega), if_neg (by omega), if_neg (by omega), if_neg (by omega), if_neg (by omega), if_neg (by omega), if_pos z]; exact h.1.2.1
  · show _ = _
    unfold countS; rw [if_neg (by omega), if_neg (by omega), if_neg (by omega), if_neg (by omega), if_neg (by omega), if_neg (by omega), if_neg (by omega), if_pos z]; exact xh.2.2.1.symm
  · show _ = _
    unfold countS; rw [if_neg (by omega), if_neg (by omega), if_neg (by omega), if_neg (by omega), if_neg (by omega), if_neg (by omega), if_neg (by omega), if_neg (by omega)]
def hiccupsS (A : StT) (p : Int) : Int := if p = -1 then (DH A).length else if ipS A p then hicN (DH A) p else -2
theorem cx_hiccups {d : Nat} {sc : SC} {μ : Mem} {A : StT} {p : Int} (hd : 8 ≤ d) (h : RX μ A) : CTi mX9_hiccups d sc [(2, 0), (0, p)] μ (AX μ A (fun x => x = hiccupsS A p)) := by
  have h6 := h.1.wfh.2.2.1
  refine CTi_of mp_X9_hiccups (Nat.le_of_ble_eq_true rfl) ?_
  refine s_X9_hiccups_0 ⟨fun z => ca_know hd h (fun μ' f r ka => ⟨fun q => absurd z q, fun _ => ⟨?_, r, f.x⟩⟩), fun z => ca_isPerson (by omega) h.1 (fun zp => ⟨fun q => absurd rfl q, fun _ => AX.here h ?_⟩) (fun zp => ⟨fun _ => ca_know hd h (fun μ' f r ka => ⟨fun q => ⟨⟨zp.1, by have := zp.2; omega⟩, ?_, r, f.x⟩, fun q => absurd q z⟩), fun q => absurd q (by decide)⟩)⟩
  · show _ = _
    unfold hiccupsS; rw [if_pos z]; exact ka.hr.1
  · show _ = _
    unfold hiccupsS; rw [if_neg z, if_neg zp]
  · show _ = _
    unfold hiccupsS; rw [if_neg z, if_pos zp]; exact ka.hr.2.2 p zp.1 (by have := zp.2; omega)
def answersS (A : StT) (p : Int) : Int := if ipS A p then cntA (ansL (gapQ (aH A) (aP A)) (ansQ (aH A) (aP A)) (aP A) 100) p else -2
theorem cx_answers {d : Nat} {sc : SC} {μ : Mem} {A : StT} {p : Int} (hd : 8 ≤ d) (h : RX μ A) : CTi mX9_answers d sc [(2, 0), (0, p)] μ (AX μ A (fun x => x = answersS A p)) := by
  have h6 := h.1.wfh.2.2.1
  refine CTi_of mp_X9_answers (Nat.le_of_ble_eq_true rfl) ?_
  refine s_X9_answers_0 (ca_isPerson (by omega) h.1 (fun zp => ⟨fun q => absurd rfl q, fun _ => AX.here h (if_neg zp).symm⟩) (fun zp => ⟨fun _ => ca_know hd h (fun μ' f r ka => ⟨⟨zp.1, by have := zp.2; omega⟩, ?_, r, f.x⟩), fun q => absurd q (by decide)⟩))
  show _ = _
  unfold answersS; rw [if_pos zp]; exact ka.2.2.1 p zp.1 (by have := zp.2; omega)
def nobodyS (A : StT) : Int := nobS (DH A) (hP (aH A))
theorem cx_nobody {d : Nat} {sc : SC} {μ : Mem} {A : StT} (hd : 8 ≤ d) (h : RX μ A) : CTi mX9_nobody d sc [(2, 0)] μ (AX μ A (fun x => x = nobodyS A)) := by
  have h6 := h.1.wfh.2.2.1
  refine CTi_of mp_X9_nobody (Nat.le_of_ble_eq_true rfl) ?_
  refine s_X9_nobody_0 (ca_know hd h (fun μ' f r ka => ⟨r.1.now.1, ?_⟩))
  rw [r.1.np]
  refine byI (d' := 7) (by omega) (ct_nobodies k_105 ka.hr h6) ?_
  rintro x _ ⟨rfl, rfl⟩
  exact ⟨rfl, r, f.x⟩
def hiccupS (A : StT) (k w : Int) : Int := if w < 0 ∨ 4 < w then -2 else if k < 0 then -3 else match (DH A)[k.toNat]? with
  | none => -1
  | some x => if w = 0 then x.2 % 6 else if w = 1 then x.1 else if w = 2 then x.2 / 6 else if w = 3 then pitchS (aH A) (aP A) (x.2 / 6) (x.2 % 6) else gapS (aH A) (aP A) (x.2 / 6) (x.2 % 6)
theorem cx_hiccup {d : Nat} {sc : SC} {μ : Mem} {A : StT} {k w : Int} (hd : 8 ≤ d) (h : RX μ A) : CTi mX9_hiccup d sc [(2, 0), (0, k), (0, w)] μ (AX μ A (fun x => x = hiccupS A k w)) := by
  have h6 := h.1.wfh.2.2.1
  refine CTi_of mp_X9_hiccup (Nat.le_of_ble_eq_true rfl) ?_
  refine s_X9_hiccup_0 ⟨fun z => AX.here h (if_pos (Or.inl z)).symm, fun z => ⟨fun z2 => ⟨fun zk => ?_, fun zk => AX.here h ?_⟩, fun z2 => AX.here h (if_pos (Or.inr z2)).symm⟩⟩
  · refine ca_know hd h (fun μ' f r ka => ?_)
    have hl := ka.hr.1
    have hlen := dh_len (H := aH A) (P := aP A) (PN := aP A) r.1.wfs.2.1
    refine ⟨fun q => ⟨⟨zk, by have : (DH A).length ≤ 500 := hlen; omega⟩, ?_⟩, fun q => ⟨?_, r, f.x⟩⟩
    · have hi : k.toNat < (DH A).length := by omega
      have hx : μ' 106 (k.toNat : Int) = (DH A)[k.toNat].2 ∧ μ' 107 (k.toNat : Int) = (DH A)[k.toNat].1 := ka.hr.2.1 k.toNat hi
      have hm := dh_mem h6.2 r.1.wfs.2.1 (List.getElem_mem (h := hi))
      rw [show ((k.toNat : Nat) : Int) = k by omega] at hx
      have hg := List.getElem?_eq_getElem hi
      have hS : hiccupS A k w = if w = 0 then (DH A)[k.toNat].2 % 6 else if w = 1 then (DH A)[k.toNat].1 else if w = 2 then (DH A)[k.toNat].2 / 6 else if w = 3 then pitchS (aH A) (aP A) ((DH A)[k.toNat].2 / 6) ((DH A)[k.toNat].2 % 6) else gapS (aH A) (aP A) ((DH A)[k.toNat].2 / 6) ((DH A)[k.toNat].2 % 6) := by
        unfold hiccupS; rw [if_neg (by omega), if_neg (by omega), hg]
      generalize (DH A)[k.toNat] = e at *
      obtain ⟨⟨g1, g2, g3, g4⟩, g5, g6⟩ := hm
      have hG := ka.1.2.1 (e.2 / 6) (e.2 % 6) (by omega) g2 (by omega) g3 g4
      rw [show e.2 / 6 * 6 + e.2 % 6 = e.2 by omega] at hG
      intro v hv
      rw [hv, hx.1, hx.2]
      refine ⟨fun q => ⟨g1, ?_, r, f.x⟩, fun q => ⟨⟨zk, by have : (DH A).length ≤ 500 := hlen; omega⟩, ?_, r, f.x⟩, fun q => ⟨g1, ?_, r, f.x⟩, fun q => ⟨by omega, ?_, r, f.x⟩, fun q => ⟨by omega, ?_, r, f.x⟩⟩
      · show _ = _
        rw [hS, if_pos q]
      · show _ = _
        rw [hS, if_neg (by omega), if_pos q]
      · show _ = _
        rw [hS, if_neg (by omega), if_neg (by omega), if_pos q]
      · show _ = _
        rw [hS, if_neg (by omega), if_neg (by omega), if_neg (by omega), if_pos q]; exact hG.2.1
      · show _ = _
        rw [hS, if_neg (by omega), if_neg (by omega), if_neg (by omega), if_neg (by omega)]; exact hG.1
    · show _ = _
      unfold hiccupS
      rw [if_neg (by omega), if_neg (by omega), List.getElem?_eq_none (by omega)]
  · show _ = _
    unfold hiccupS; rw [if_neg (by omega), if_pos zk]

/-! SILENCE: two more told -/
def Two (H : HillT) (P : PlanT) (p a b : Int) : Prop := ∀ c e, 0 ≤ c → c < e → e < 120 → c < a ∨ (c = a ∧ e < b) → isN (hP H) p c → isN (hP H) p e → silB H P (addC (addC P p c) p e) p = false
def TwoQ (μ0 μ' : Mem) (p h : Int) (H : HillT) (P : PlanT) : Prop := FRh μ0 μ' ∧ LRep μ' 97 h (h + 7) H P ∧ μ' 120 0 = p ∧
  ((∃ a b, (0 ≤ a ∧ a < b ∧ b < 120) ∧ isN (hP H) p a ∧ isN (hP H) p b ∧ silB H P (addC (addC P p a) p b) p = true ∧ Two H P p a b ∧ μ' 120 1 = 2 ∧ μ' 120 2 = codeC a ∧ μ' 120 3 = codeC b) ∨ (Two H P p 120 0 ∧ μ' 120 1 = -1 ∧ μ' 120 2 = -1 ∧ μ' 120 3 = -1))
theorem ct_seekTwo {d : Nat} {sc : SC} {μ : Mem} {p last h c : Int} {u : Nat} {H : HillT} {P : PlanT} (hd : 8 ≤ d) (hw : wfNp (hP H) P) (hn : pN P ≤ 8) (hp : 0 ≤ p ∧ p < hP H) (hS : SK μ μ p last h c H P) (hE : XE μ 121 P) (ho : ownL P p last) (hl : -1 ≤ last ∧ last ≤ 99) (h1 : μ 120 1 = -1) (h2 : μ 120 2 = -1) (hc : c = min (u : Int) 20 * 6) (hu : spkAt (gapQ H P) (ansQ H P) P p u = true) (hu2 : u < 100) (h1n : One H P p 120) :
    CTv mX2_seekTwo d sc [(2, 120)] μ (fun μ' => TwoQ μ μ' p h H P) := by
  have hn0 := hw.1
  have key : ∀ (r x : Nat) (μ1 : Mem), x + r = 120 → SK μ μ1 p last h c H P → XE μ1 121 P → Two H P p x 0 → μ1 120 1 = -1 → μ1 120 2 = -1 →
      WQ mX2_seekTwo d sc (ZV sc (fun μ' => TwoQ μ μ' p h H P)) 2 [(2, 120), (0, (x : Int)), (9, 0), (9, 0)] [] μ1 := by
    intro r
    induction r with
    | zero =>
      intro x μ1 hx hS1 hE1 hT q1 q2
      have hx : (x : Int) = 120 := by omega
      rw [hx] at hT ⊢
      exact s_X2_seekTwo_2 ⟨fun _ => ⟨hS1.1, hS1.2.1.2.2.2.2.2.2.2, hS1.2.1.1, Or.inr ⟨hT, q1, q2, hS1.2.2.1⟩⟩, fun z => by rw [hS1.2.2.2] at z; omega⟩
    | succ r ih =>
      intro x μ1 hx hS1 hE1 hT q1 q2
      obtain ⟨s0, s4, s5, s6, s7, s8, s9, sL⟩ := id hS1.2.1
      refine s_X2_seekTwo_2 ⟨fun z => ⟨hS1.1, sL, s0, Or.inr ⟨fun a b a0 ab b1 hab aN bN => ?_, q1, q2, hS1.2.2.1⟩⟩, fun _ => ⟨fun z => absurd q1 z, fun _ => ?_⟩⟩
      · by_cases hex : a < x
        · exact hT a b a0 ab b1 (Or.inl hex) aN bN
        · rw [hS1.2.2.2] at z
          exact silB_f hu2 (late_add (by show 0 ≤ pN P + 1; omega) bN.2 (late_c hc (by omega) b1) (late_add hn0.1 aN.2 (late_c hc (by omega) (by omega)) hu))
      refine byI (d' := 0) (by omega) (ct_isNaming (by omega) s0 s7) ?_
      rintro y μ4 ⟨y1, y2, rfl⟩
      -- on to the next
      have hnext : ∀ μ1 : Mem, SK μ μ1 p last h c H P → XE μ1 121 P → μ1 120 1 = -1 → μ1 120 2 = -1 → (∀ b, (x : Int) < b → b < 120 → isN (hP H) p x → isN (hP H) p b → silB H P (addC (addC P p x) p b) p = false) →
          ((-2147483648 ≤ (x : Int) + 1 ∧ (x : Int) + 1 < 2147483648) ∧ ∀ v : Int, v = (x : Int) + 1 → WQ mX2_seekTwo d sc (ZV sc (fun μ' => TwoQ μ μ' p h H P)) 2 [(2, 120), (0, v), (9, 0), (9, 0)] [] μ1) := by
        intro μ1 hS1 hE1 q1 q2 hrow
        refine ⟨by omega, ?_⟩
        rintro _ rfl
        refine ih (x + 1) μ1 (by omega) hS1 hE1 (fun a b a0 ab b1 hab aN bN => ?_) q1 q2
        by_cases hax : a = x
        · rw [hax] at aN ⊢
          exact hrow b (by omega) b1 aN bN
        · exact hT a b a0 ab b1 (Or.inl (by omega)) aN bN
      refine ⟨fun hy => hnext _ hS1 hE1 q1 q2 (fun b _ _ aN _ => by have := y1.mpr aN; omega), fun hy => ?_⟩
      have hN := y1.mp (by omega)
      rw [s5, s8]
      refine ⟨k_121, ?_⟩
      intro μ9 e9
      have f9 : ∀ b j, (b = 121 → j ≠ 0) → μ9 b j = μ4 b j := fun b j q => by rw [e9, mup_ap, if_neg (fun z => q z.1 z.2)]
      have S9 : SK μ μ9 p last h c H P := hS1.trial (fun b j q => f9 b j (by omega))
      have N9 : XN μ9 121 P := ⟨by rw [e9, mup_ap, if_pos ⟨rfl, rfl⟩], hE1.same (fun b j q1 q2 => f9 b j (by omega))⟩
      obtain ⟨t0, t4, t5, t6, t7, t8, t9, tL⟩ := id S9.2.1
      refine byV (d' := 1) (by omega) (ct_tellToo (a := x) (Nat.le_refl _) (by omega) t0 t5 N9 (by omega)) ?_
      rintro μ11 ⟨f11, N11⟩
      have S11 := S9.trial f11
      obtain ⟨v0, v4, v5, v6, v7, v8, v9, vL⟩ := id S11.2.1
      have hwx : wfNp (hP H) (addC P p x) := wf_add hw (by omega) (by omega) hN hp
      have hox : ownL (addC P p x) p last := ownL_add ho hN.2
      rw [v6, v5, v4, v9, v0]
      refine ⟨k_135, ca_hrun (by omega) vL N11 hwx hl hox ?_⟩
      intro z μ14 hr
      have S14 := S11.run hr
      have E14 : XE μ14 121 (addC P p x) := XE.same N11.2 (fun b j q1 q2 => hr.1 b j (by omega) (by omega))
      have fl : μ14 120 1 = -1 ∧ μ14 120 2 = -1 := by
        refine ⟨?_, ?_⟩
        · rw [hr.1 _ _ (by omega) (by omega), f11 _ _ (by omega), f9 _ _ (by omega)]; exact q1
        · rw [hr.1 _ _ (by omega) (by omega), f11 _ _ (by omega), f9 _ _ (by omega)]; exact q2
      have hx0 := h1n x (by omega) (by omega) hN
      obtain ⟨w, w1, w2, w3⟩ : ∃ w : Nat, w < 100 ∧ spkAt (gapQ H P) (ansQ H P) (addC P p x) p w = true ∧ μ14 135 6 = w := by
        rcases hr.2.2 with ⟨_, z2, _⟩ | ⟨_, _, z3⟩
        · rw [hx0] at z2; exact absurd z2 (by decide)
        · exact z3
      refine byI (d' := 2) (by omega) (ct_inTime (Nat.le_refl _) S14.2.1.2.2.2.1 (by omega)) ?_
      rintro m μ16 ⟨hm, rfl⟩
      rw [w3] at hm
      refine ⟨by omega, ?_⟩
      rintro _ rfl
      have inner : ∀ (r y : Nat) (μ1 : Mem), y + r = 120 → (x : Int) < y → SK μ μ1 p last h c H P → XE μ1 121 (addC P p x) → Two H P p x y → μ1 120 1 = -1 → μ1 120 2 = -1 →
          WQ mX2_seekTwo d sc (ZV sc (fun μ' => TwoQ μ μ' p h H P)) 75 [(2, 120), (0, (x : Int)), (0, m), (0, (y : Int))] [] μ1 := by
        intro r
        induction r with
        | zero =>
          intro y μ1 hy hxy hS1 hE1 hT q1 q2
          have hE0 : XE μ1 121 P := by
            intro k k0 k1
            have := hE1 k k0 (by show k < pN P + 1; omega)
            obtain ⟨e1, e2, e3, e4⟩ := add_old P ((x : Int) % 6) p ((x : Int) / 6) 10 (show k ≠ pN P by omega)
            unfold addC at this
            rw [e1, e2, e3, e4] at this
            exact this
          exact s_X2_seekTwo_75 ⟨fun _ => hnext _ hS1 hE0 q1 q2 (fun b b0 b1 aN bN => hT x b (by omega) b0 b1 (Or.inr ⟨rfl, by omega⟩) aN bN), fun z => by omega⟩
        | succ r ihi =>
          intro y μ1 hy hxy hS1 hE1 hT q1 q2
          have hE0 : XE μ1 121 P := by
            intro k k0 k1
            have := hE1 k k0 (by show k < pN P + 1; omega)
            obtain ⟨e1, e2, e3, e4⟩ := add_old P ((x : Int) % 6) p ((x : Int) / 6) 10 (show k ≠ pN P by omega)
            unfold addC at this
            rw [e1, e2, e3, e4] at this
            exact this
          obtain ⟨s0, s4, s5, s6, s7, s8, s9, sL⟩ := id hS1.2.1
          refine s_X2_seekTwo_75 ⟨fun z => hnext _ hS1 hE0 q1 q2 (fun b b0 b1 aN bN => ?_), fun _ => ⟨fun z => absurd q1 z, fun _ => ?_⟩⟩
          · by_cases hby : b < y
            · exact hT x b (by omega) b0 b1 (Or.inr ⟨rfl, hby⟩) aN bN
            · exact silB_f w1 (late_add (by show 0 ≤ pN P + 1; omega) bN.2 (late_c hm (by omega) b1) w2)
          refine byI (d' := 0) (by omega) (ct_isNaming (by omega) s0 s7) ?_
          rintro o μ8 ⟨o1, o2, rfl⟩
          refine ⟨fun ho0 => ⟨by omega, ?_⟩, fun ho0 => ?_⟩
          · rintro _ rfl
            refine ihi (y + 1) _ (by omega) (by omega) hS1 hE1 (fun a b a0 ab b1 hab aN bN => ?_) q1 q2
            by_cases hby : a = x ∧ b = y
            · rw [hby.2] at bN; have := o1.mpr bN; omega
            · exact hT a b a0 ab b1 (by omega) aN bN
          have hNy := o1.mp (by omega)
          rw [s5, s8]
          refine ⟨by omega, k_121, ?_⟩
          intro μ14' e14
          have g14 : ∀ b j, (b = 121 → j ≠ 0) → μ14' b j = μ8 b j := fun b j q => by rw [e14, mup_ap, if_neg (fun z => q z.1 z.2)]
          have S14' : SK μ μ14' p last h c H P := hS1.trial (fun b j q => g14 b j (by omega))
          have N14 : XN μ14' 121 (addC P p x) := ⟨by rw [e14, mup_ap, if_pos ⟨rfl, rfl⟩]; rfl, hE1.same (fun b j q1 q2 => g14 b j (by omega))⟩
          obtain ⟨t0, t4, t5, t6, t7, t8, t9, tL⟩ := id S14'.2.1
          refine byV (d' := 1) (by omega) (ct_tellToo (a := y) (Nat.le_refl _) (by omega) t0 t5 N14 (by show 0 ≤ pN P + 1 ∧ pN P + 1 ≤ 9; omega)) ?_
          rintro μ16' ⟨f16, N16⟩
          have S16 := S14'.trial f16
          obtain ⟨v0, v4, v5, v6, v7, v8, v9, vL⟩ := id S16.2.1
          rw [v6, v5, v4, v9, v0]
          refine ⟨k_135, ca_hrun (by omega) vL N16 (wf_add hwx (by show pN P + 1 ≤ 9; omega) (by omega) hNy hp) hl (ownL_add hox hNy.2) ?_⟩
          intro z μ19 hr2
          have S19 := S16.run hr2
          have E19 : XE μ19 121 (addC P p x) := (XE_add N16).same (fun b j q1 q2 => hr2.1 b j (by omega) (by omega))
          have fl2 : μ19 120 1 = -1 ∧ μ19 120 2 = -1 := by
            refine ⟨?_, ?_⟩
            · rw [hr2.1 _ _ (by omega) (by omega), f16 _ _ (by omega), g14 _ _ (by omega)]; exact q1
            · rw [hr2.1 _ _ (by omega) (by omega), f16 _ _ (by omega), g14 _ _ (by omega)]; exact q2
          refine ⟨fun hz => ⟨by omega, ?_⟩, fun hz => ?_⟩
          · rintro _ rfl
            have hsil : silB H P (addC (addC P p x) p y) p = false := by
              rcases hr2.2.2 with ⟨z1, _⟩ | ⟨_, z2, _⟩
              · omega
              · exact z2
            refine ihi (y + 1) _ (by omega) (by omega) S19 E19 (fun a b a0 ab b1 hab aN bN => ?_) fl2.1 fl2.2
            by_cases hby : a = x ∧ b = y
            · rw [hby.1, hby.2]; exact hsil
            · exact hT a b a0 ab b1 (by omega) aN bN
          · have hsil : silB H P (addC (addC P p x) p y) p = true := by
              rcases hr2.2.2 with ⟨_, z2, _⟩ | ⟨z1, _⟩
              · exact z2
              · omega
            intro μ23 e23
            refine byI (d' := 0) (by omega) (ct_codeC (by omega)) ?_
            rintro c1 μ25 ⟨hc1, rfl⟩
            intro μ26 e26
            refine byI (d' := 0) (by omega) (ct_codeC (by omega)) ?_
            rintro c2 μ28 ⟨hc2, rfl⟩
            intro μ29 e29
            have f29 : ∀ b j, (b = 120 → j ≠ 1 ∧ j ≠ 2 ∧ j ≠ 3) → μ29 b j = μ19 b j := fun b j q => by rw [e29, mup_ap, if_neg (fun z => (q z.1).2.2 z.2), e26, mup_ap, if_neg (fun z => (q z.1).2.1 z.2), e23, mup_ap, if_neg (fun z => (q z.1).1 z.2)]
            have l1 : μ29 120 1 = 2 := by simp [e29, e26, e23, mup_ap]
            have l2 : μ29 120 2 = codeC x := by rw [← hc1]; simp [e29, e26, mup_ap]
            have l3 : μ29 120 3 = codeC y := by rw [← hc2]; simp [e29, mup_ap]
            have fin : TwoQ μ μ29 p h H P := ⟨S19.1.tr (fun b j z1 z2 z3 => f29 b j (by omega)), S19.2.1.2.2.2.2.2.2.2.h97 (fun b j q => f29 b j (by omega)), by rw [f29 _ _ (by omega)]; exact S19.2.1.1, Or.inl ⟨x, y, by omega, hN, hNy, hsil, hT, l1, l2, l3⟩⟩
            -- what follows only ends it
            have out2 : ∀ v : Int, v = (x : Int) + 1 → WQ mX2_seekTwo d sc (ZV sc (fun μ' => TwoQ μ μ' p h H P)) 2 [(2, 120), (0, v), (9, 0), (9, 0)] [] μ29 := by
              intro v _
              exact s_X2_seekTwo_2 ⟨fun _ => fin, fun _ => ⟨fun _ => fin, fun z => by omega⟩⟩
            refine ⟨by omega, ?_⟩
            intro v _
            exact s_X2_seekTwo_75 ⟨fun _ => ⟨by omega, out2⟩, fun _ => ⟨fun _ => ⟨by omega, out2⟩, fun z => by omega⟩⟩
      exact inner (119 - x) (x + 1) _ (by omega) (by omega) S14 E14 (fun a b a0 ab b1 hab aN bN => hT a b a0 ab b1 (by omega) aN bN) fl.1 fl.2
  refine CTv_of mp_X2_seekTwo (Nat.le_of_ble_eq_true rfl) ?_
  refine s_X2_seekTwo_0 ?_
  exact key 120 0 μ rfl hS hE (fun a b a0 _ _ hab => by omega) h1 h2

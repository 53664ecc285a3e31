/-! SILENCE: one more told -/
theorem XE_add {μ : Mem} {q p a : Int} {P : PlanT} (h : XN μ q (addC P p a)) : XE μ q P := by
  intro k k0 k1
  have := h.2 k k0 (by show k < pN P + 1; omega)
  obtain ⟨e1, e2, e3, e4⟩ := add_old P (a % 6) p (a / 6) 10 (show k ≠ pN P by omega)
  unfold addC at this
  rw [e1, e2, e3, e4] at this
  exact this
theorem XE.same {μ μ' : Mem} {q : Int} {P : PlanT} (h : XE μ q P) (hs : ∀ b j, q + 1 ≤ b → b ≤ q + 4 → μ' b j = μ b j) : XE μ' q P := by
  intro k k0 k1
  rw [hs (q + 1) _ (by omega) (by omega), hs (q + 2) _ (by omega) (by omega), hs (q + 3) _ (by omega) (by omega), hs (q + 4) _ (by omega) (by omega)]
  exact h k k0 k1
theorem late_c {u : Nat} {c a : Int} (hc : c = min (u : Int) 20 * 6) (h : c ≤ a) (ha : a < 120) : (u : Int) ≤ a / 6 := by omega
/-- the state while it seeks -/
def SK (μ0 μ : Mem) (p last h c : Int) (H : HillT) (P : PlanT) : Prop := FRh μ0 μ ∧ HS μ p last h H P ∧ μ 120 3 = -1 ∧ μ 120 10 = c
theorem SK.run {μ0 μ μ' : Mem} {p last h c x : Int} {H : HillT} {P PN : PlanT} (hS : SK μ0 μ p last h c H P) (hr : HrP μ μ' x p h H P PN) : SK μ0 μ' p last h c H P := by
  obtain ⟨q1, q2, q3, q4⟩ := hS
  obtain ⟨r1, r2, _⟩ := hr
  exact ⟨q1.tr (fun b j z1 z2 z3 => r1 b j z1 z3), q2.same (fun j _ => r1 _ _ (by omega) (by omega)) r2, by rw [r1 _ _ (by omega) (by omega)]; exact q3, by rw [r1 _ _ (by omega) (by omega)]; exact q4⟩
theorem SK.trial {μ0 μ μ' : Mem} {p last h c : Int} {H : HillT} {P : PlanT} (hS : SK μ0 μ p last h c H P) (hf : ∀ b j, b < 121 ∨ 125 < b → μ' b j = μ b j) : SK μ0 μ' p last h c H P := by
  obtain ⟨q1, q2, q3, q4⟩ := hS
  refine ⟨q1.tr (fun b j z1 z2 z3 => hf b j (by omega)), q2.same (fun j _ => hf _ _ (by omega)) ?_, by rw [hf _ _ (by omega)]; exact q3, by rw [hf _ _ (by omega)]; exact q4⟩
  exact q2.2.2.2.2.2.2.2.h97 (fun b j z => hf b j (by omega))
def One (H : HillT) (P : PlanT) (p a : Int) : Prop := ∀ c, 0 ≤ c → c < a → isN (hP H) p c → silB H P (addC P p c) p = false
def OneP (μ0 μ' : Mem) (p last h c : Int) (H : HillT) (P : PlanT) : Prop := SK μ0 μ' p last h c H P ∧ XE μ' 121 P ∧
  ((∃ a, (0 ≤ a ∧ a < 120) ∧ isN (hP H) p a ∧ silB H P (addC P p a) p = true ∧ One H P p a ∧ μ' 120 1 = 1 ∧ μ' 120 2 = codeC a) ∨ (One H P p 120 ∧ μ' 120 1 = -1 ∧ μ' 120 2 = -1))
theorem ct_seekOne {d : Nat} {sc : SC} {μ : Mem} {p last h c : Int} {u : Nat} {H : HillT} {P : PlanT} (hd : 8 ≤ d) (hw : wfNp (hP H) P) (hn : pN P ≤ 8) (hp : 0 ≤ p ∧ p < hP H) (hS : SK μ μ p last h c H P) (hE : XE μ 121 P) (ho : ownL P p last) (hl : -1 ≤ last ∧ last ≤ 99) (h1 : μ 120 1 = -1) (h2 : μ 120 2 = -1) (hc : c = min (u : Int) 20 * 6) (hu : spkAt (gapQ H P) (ansQ H P) P p u = true) (hu2 : u < 100) :
    CTv mX2_seekOne d sc [(2, 120)] μ (fun μ' => OneP μ μ' p last h c H P) := by
  have key : ∀ (r x : Nat) (μ1 : Mem), x + r = 120 → SK μ μ1 p last h c H P → XE μ1 121 P → (One H P p x ∧ μ1 120 1 = -1 ∧ μ1 120 2 = -1) →
      WQ mX2_seekOne d sc (ZV sc (fun μ' => OneP μ μ' p last h c H P)) 2 [(2, 120), (0, (x : Int))] [] μ1 := by
    intro r
    induction r with
    | zero =>
      intro x μ1 hx hS1 hE1 hO
      have hx : (x : Int) = 120 := by omega
      rw [hx] at hO ⊢
      exact s_X2_seekOne_2 ⟨fun _ => ⟨hS1, hE1, Or.inr hO⟩, fun z => by rw [hS1.2.2.2] at z; omega⟩
    | succ r ih =>
      intro x μ1 hx hS1 hE1 hO
      obtain ⟨s0, s4, s5, s6, s7, s8, s9, sL⟩ := id hS1.2.1
      refine s_X2_seekOne_2 ⟨fun z => ⟨hS1, hE1, Or.inr ⟨fun e e0 e1 eN => ?_, hO.2⟩⟩, fun _ => ⟨fun z => absurd hO.2.1 z, fun _ => ?_⟩⟩
      · by_cases hex : e < x
        · exact hO.1 e e0 hex eN
        · rw [hS1.2.2.2] at z
          exact silB_f hu2 (late_add (by have := hw.1; omega) eN.2 (late_c hc (by omega) (by omega)) hu)
      refine byI (d' := 0) (by omega) (ct_isNaming (by omega) s0 s7) ?_
      rintro y μ4 ⟨y1, y2, rfl⟩
      refine ⟨fun hy => ⟨by omega, ?_⟩, fun hy => ?_⟩
      · rintro _ rfl
        refine ih (x + 1) _ (by omega) hS1 hE1 ⟨fun e e0 e1 eN => ?_, hO.2⟩
        by_cases hex : e = x
        · rw [hex] at eN; have := y1.mpr eN; omega
        · exact hO.1 e e0 (by omega) eN
      · have hN := y1.mp (by omega)
        rw [s5, s8]
        refine ⟨k_121, ?_⟩
        intro μ9 e9
        have f9 : ∀ b j, (b = 121 → j ≠ 0) → μ9 b j = μ4 b j := fun b j q => by rw [e9, mup_ap, if_neg (fun z => q z.1 z.2)]
        have S9 : SK μ μ9 p last h c H P := hS1.trial (fun b j q => f9 b j (by omega))
        have N9 : XN μ9 121 P := ⟨by rw [e9, mup_ap, if_pos ⟨rfl, rfl⟩], hE1.same (fun b j q1 q2 => f9 b j (by omega))⟩
        obtain ⟨t0, t4, t5, t6, t7, t8, t9, tL⟩ := id S9.2.1
        refine byV (d' := 1) (by omega) (ct_tellToo (a := x) (Nat.le_refl _) (by omega) t0 t5 N9 (by have := hw.1; omega)) ?_
        rintro μ11 ⟨f11, N11⟩
        have S11 := S9.trial f11
        obtain ⟨v0, v4, v5, v6, v7, v8, v9, vL⟩ := id S11.2.1
        rw [v6, v5, v4, v9, v0]
        refine ⟨k_135, ca_hrun (by omega) vL N11 (wf_add hw (by omega) (by omega) hN hp) hl (ownL_add ho hN.2) ?_⟩
        intro z μ14 hr
        have S14 := S11.run hr
        have E14 : XE μ14 121 P := (XE_add N11).same (fun b j q1 q2 => hr.1 b j (by omega) (by omega))
        have fl : μ14 120 1 = -1 ∧ μ14 120 2 = -1 := by
          refine ⟨?_, ?_⟩
          · rw [hr.1 _ _ (by omega) (by omega), f11 _ _ (by omega), f9 _ _ (by omega)]; exact hO.2.1
          · rw [hr.1 _ _ (by omega) (by omega), f11 _ _ (by omega), f9 _ _ (by omega)]; exact hO.2.2
        refine ⟨fun hz => ⟨by omega, ?_⟩, fun hz => ?_⟩
        · rintro _ rfl
          have hsil : silB H P (addC P p x) p = false := by
            rcases hr.2.2 with ⟨z1, _⟩ | ⟨_, z2, _⟩
            · omega
            · exact z2
          refine ih (x + 1) _ (by omega) S14 E14 ⟨fun e e0 e1 eN => ?_, fl⟩
          by_cases hex : e = x
          · rw [hex]; exact hsil
          · exact hO.1 e e0 (by omega) eN
        · have hsil : silB H P (addC P p x) p = true := by
            rcases hr.2.2 with ⟨_, z2, _⟩ | ⟨z1, _⟩
            · exact z2
            · omega
          intro μ18 e18
          refine byI (d' := 0) (by omega) (ct_codeC (by omega)) ?_
          rintro w μ20 ⟨hw2, rfl⟩
          intro μ21 e21
          refine ⟨by omega, ?_⟩
          rintro _ rfl
          have f21 : ∀ b j, (b = 120 → j ≠ 1 ∧ j ≠ 2) → μ21 b j = μ14 b j := fun b j q => by rw [e21, mup_ap, if_neg (fun z => (q z.1).2 z.2), e18, mup_ap, if_neg (fun z => (q z.1).1 z.2)]
          have S21 : SK μ μ21 p last h c H P := ⟨S14.1.tr (fun b j z1 z2 z3 => f21 b j (by omega)), S14.2.1.same (fun j q => f21 _ _ (by omega)) (S14.2.1.2.2.2.2.2.2.2.h97 (fun b j q => f21 b j (by omega))), by rw [f21 _ _ (by omega)]; exact S14.2.2.1, by rw [f21 _ _ (by omega)]; exact S14.2.2.2⟩
          have fin : OneP μ μ21 p last h c H P := by
            refine ⟨S21, E14.same (fun b j q1 q2 => f21 b j (by omega)), Or.inl ⟨x, by omega, hN, hsil, hO.1, ?_, ?_⟩⟩
            · rw [e21, mup_ap, if_neg (fun z => by omega), e18, mup_ap, if_pos ⟨rfl, rfl⟩]
            · rw [e21, mup_ap, if_pos ⟨rfl, rfl⟩]; exact hw2
          refine s_X2_seekOne_2 ⟨fun _ => fin, fun _ => ⟨fun _ => fin, fun z => ?_⟩⟩
          rw [e21, mup_ap, if_neg (fun z => by omega), e18, mup_ap, if_pos ⟨rfl, rfl⟩] at z
          omega
  refine CTv_of mp_X2_seekOne (Nat.le_of_ble_eq_true rfl) ?_
  refine s_X2_seekOne_0 ?_
  exact key 120 0 μ rfl hS hE ⟨fun e e0 e1 _ => by omega, h1, h2⟩

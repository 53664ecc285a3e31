/-! THE CLASS'S DAY: saying -/
def DR (μ : Mem) (a : Int) (S : SayL) (t0 : Int) : Prop := DueRep (μ (a + 8)) (μ (a + 9)) (μ (a + 11)) (μ (a + 10)) S t0 ∧ μ a 13 = S.length
theorem ct_say {d : Nat} {sc : SC} {μ : Mem} {a L q t t0 : Int} {S : SayL} {gap : Int → Int} (ha : isK 0 a) (hL : isK 3 L) (hLa : μ a 8 = L) (hq : 0 ≤ q ∧ q < 36) (ht : 0 ≤ t ∧ t < 100) (hg : μ (L + 2) q = gap q) (hgb : 1 ≤ gap q ∧ gap q ≤ 20) (hD : DR μ a S t0) (ht0 : 0 ≤ t0 ∧ t0 ≤ t + 1) (hS : S.length < 512) :
    CTv mX0_say d sc [(2, a), (0, q), (0, t)] μ (fun μ' => (∀ b j, (b = a → j ≠ 13) → b ≠ a + 8 → b ≠ a + 9 → b ≠ a + 10 → b ≠ a + 11 → μ' b j = μ b j) ∧ DR μ' a (S ++ dueL gap t [q]) t0) := by
  have hav := ik_0 ha
  have hLv := ik_3 hL
  obtain ⟨hD, hN⟩ := hD
  refine CTv_of mp_X0_say (Nat.le_of_ble_eq_true rfl) ?_
  refine s_X0_say_0 ha ?_
  rw [hLa, hg]
  refine ⟨hL, hq, by omega, ?_⟩
  rintro v4 rfl
  refine ⟨fun h => ⟨fun _ _ _ _ _ _ _ => rfl, ?_⟩, fun h => ?_⟩
  · have e : dueL gap t [q] = [] := by simp [dueL]; omega
    rw [e, List.append_nil]
    exact ⟨hD, hN⟩
  have e : dueL gap t [q] = [(t + gap q, q)] := by simp [dueL]; omega
  rw [e]
  have hch := chain_nil (fun x hx => (idxF_b _ _ _ _ hx).1) (hD.2 (t + gap q) (by omega) (by omega)).1
  have hlast : 0 ≤ μ (a + 8) (t + gap q) → 0 ≤ μ (a + 9) (t + gap q) ∧ μ (a + 9) (t + gap q) < S.length := by
    intro h0
    have hne : idxF 0 S (t + gap q) ≠ [] := fun z => by have := hch.1.mp z; omega
    obtain ⟨z, hz⟩ : ∃ z, (idxF 0 S (t + gap q)).getLast? = some z := by
      cases hx : (idxF 0 S (t + gap q)).getLast? with
      | none => rw [List.getLast?_eq_none_iff] at hx; exact absurd hx hne
      | some z => exact ⟨z, rfl⟩
    rw [(hD.2 (t + gap q) (by omega) (by omega)).2 z hz]
    have := idxF_b _ _ _ _ (List.mem_of_getLast? hz)
    omega
  refine ⟨fun _ => ⟨by omega, ?_⟩, fun z => by omega⟩
  have fin : ∀ μ' : Mem, (∀ b j, μ' b j = if b = a ∧ j = 13 then (S.length : Int) + 1 else if b = a + 8 ∧ j = t + gap q ∧ μ (a + 8) (t + gap q) < 0 then (S.length : Int) else if b = a + 9 ∧ j = t + gap q then (S.length : Int) else if b = a + 10 ∧ j = S.length then q else if b = a + 11 ∧ 0 ≤ μ (a + 8) (t + gap q) ∧ j = μ (a + 9) (t + gap q) then (S.length : Int) else if b = a + 11 ∧ j = S.length then -1 else μ b j) →
      (∀ b j, (b = a → j ≠ 13) → b ≠ a + 8 → b ≠ a + 9 → b ≠ a + 10 → b ≠ a + 11 → μ' b j = μ b j) ∧ DR μ' a (S ++ [(t + gap q, q)]) t0 := by
    intro μ' h'
    refine ⟨fun b j q0 q1 q2 q3 q4 => by rw [h']; grind, ?_, by rw [h', if_pos ⟨rfl, rfl⟩]; simp⟩
    refine hD.say (N := S.length) rfl ⟨by omega, by omega⟩ (fun i _ _ => ?_) (fun u _ _ => ?_) (fun u _ _ => ?_) (fun i _ _ => ?_)
    · rw [h']; grind
    · rw [h']; grind
    · rw [h']; grind
    · rw [h']; grind
  rintro _ rfl
  simp only [mup_ap, hN, show a ≠ a + 10 by omega, false_and, if_false]
  refine ⟨by omega, ?_⟩
  rintro _ rfl
  simp only [mup_ap, hN, show a ≠ a + 10 by omega, show a ≠ a + 11 by omega, show a + 8 ≠ a + 10 by omega, show a + 8 ≠ a + 11 by omega, show a + 9 ≠ a + 10 by omega, show a + 9 ≠ a + 11 by omega, false_and, if_false]
  refine ⟨by omega, fun h0 => ?_, fun h0 => ?_⟩
  · have hl := hlast h0
    refine ⟨by omega, by omega, ?_⟩
    rintro _ rfl
    refine ⟨by omega, ?_⟩
    rintro _ rfl
    simp only [mup_ap, hN, show a ≠ a + 9 by omega, show a ≠ a + 10 by omega, show a ≠ a + 11 by omega, false_and, if_false]
    refine ⟨by omega, ?_⟩
    rintro _ rfl
    refine fin _ (fun b j => ?_)
    simp only [mup_ap]
    grind
  · refine ⟨by omega, ?_⟩
    rintro _ rfl
    refine ⟨by omega, ?_⟩
    rintro _ rfl
    simp only [mup_ap, hN, show a ≠ a + 8 by omega, show a ≠ a + 9 by omega, show a ≠ a + 10 by omega, show a ≠ a + 11 by omega, false_and, if_false]
    refine ⟨by omega, ?_⟩
    rintro _ rfl
    refine fin _ (fun b j => ?_)
    simp only [mup_ap]
    grind

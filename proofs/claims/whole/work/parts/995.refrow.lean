/-! THE REFERENCE: a hill read -/
theorem cb_plain {d : Nat} {sc : SC} {μ : Mem} {R : Mem → Prop} (hd : 1 ≤ d) (k : ∀ μ', (∀ b j, b ≠ 187 → μ' b j = μ b j) → (∀ j, 0 ≤ j → j < 1373 → μ' 187 j = if j = 1 ∨ j = 2 then 1 else 0) → R μ') : CAv mX10_plain d sc [(2, 187)] μ R := by
  refine byV (d' := 0) (by omega) (Q := R) ?_ (fun _ z => z)
  refine CTv_of mp_X10_plain (Nat.le_of_ble_eq_true rfl) ?_
  have hk : kd0 187 = some (0, 1373) := k_187
  refine s_X10_plain_0 hk ?_
  have key : ∀ (r i : Nat) (μ1 : Mem), i + r = 1373 → (∀ b j, b ≠ 187 → μ1 b j = μ b j) → (∀ j : Int, 0 ≤ j → j < i → μ1 187 j = 0) → WQ mX10_plain 0 sc (ZV sc R) 2 [(2, 187), (0, (i : Int))] [] μ1 := by
    intro r
    induction r with
    | zero =>
      intro i μ1 hi hf hz
      refine s_X10_plain_2 hk ⟨fun _ => ⟨by decide, ?_⟩, fun z => by omega⟩
      intro μ3 e3
      refine ⟨by decide, ?_⟩
      intro μ5 e5
      refine k μ5 (fun b j q => by rw [e5, mup_ap, if_neg (fun y => q y.1), e3, mup_ap, if_neg (fun y => q y.1)]; exact hf b j q) (fun j j0 j1 => ?_)
      rw [e5, mup_ap]
      by_cases q2 : j = 2
      · rw [if_pos ⟨rfl, q2⟩, if_pos (Or.inr q2)]
      · rw [if_neg (fun y => q2 y.2), e3, mup_ap]
        by_cases q1 : j = 1
        · rw [if_pos ⟨rfl, q1⟩, if_pos (Or.inl q1)]
        · rw [if_neg (fun y => q1 y.2), if_neg (by omega)]; exact hz j j0 (by omega)
    | succ r ih =>
      intro i μ1 hi hf hz
      refine s_X10_plain_2 hk ⟨fun z => by omega, fun _ => ⟨by omega, ?_⟩⟩
      intro μ7 e7
      refine ⟨by omega, ?_⟩
      rintro _ rfl
      refine ih (i + 1) μ7 (by omega) (fun b j q => by rw [e7, mup_ap, if_neg (fun y => q y.1)]; exact hf b j q) (fun j j0 j1 => ?_)
      rw [e7, mup_ap]
      by_cases q : j = i
      · rw [if_pos ⟨rfl, q⟩]
      · rw [if_neg (fun y => q y.2)]; exact hz j j0 (by omega)
  exact key 1373 0 μ rfl (fun _ _ _ => rfl) (fun j j0 j1 => by omega)
/-- what a whole reading leaves -/
def FRw (μ μ' : Mem) : Prop := ∀ b j, (b = 183 → j < 6 ∨ j = 8 ∨ 15 < j) → (b = 187 → 71 ≤ j ∧ j < 472) → μ' b j = μ b j
theorem FRq.w {μ μ' : Mem} (h : FRq μ μ') : FRw μ μ' := fun b j q1 q2 => h b j q1 (fun y => Or.inr (q2 y))
theorem FRw.tr {μ1 μ2 μ3 : Mem} (h : FRw μ1 μ2) (h' : FRw μ2 μ3) : FRw μ1 μ3 := fun b j q1 q2 => by rw [h' b j q1 q2]; exact h b j q1 q2
theorem first_eq (T : TxT) : firstG T = closeG T ((first3 T).2, sizeH hill0 (first2 T).1 (first3 T).1, planDef, fun _ => 0) := rfl
theorem MH_of {μ : Mem} {b : Int → Int} {n N : Nat} {g : GS} (hE : RQ μ b n N 0 (gE g)) (h0 : eF (gE g) = 0) (hG : GR μ (hP (gH g)) g) (h3 : μ 187 3 = hP (gH g)) (hl : μ 187 0 = hLines (gH g)) (hW : WG N g) : MH (μ 187) (hillOf g) := by
  obtain ⟨q1, q2, q3, q4, q5, q6⟩ := hG
  have hlaw := hW.2.2.2.2.2.1
  have hlen := hW.2.2.2.2.2.2.1
  have hk := hE.2.2.2.2.1.1
  have hN9 := hE.2.2.1
  obtain ⟨c1, c2, c3⟩ := hE.2.2.2.2.2.2.1 h0
  refine ⟨hl, q1, q2, h3, q3, fun l l0 l1 => ?_⟩
  obtain ⟨a1, a2, a3, e1, e2, e3, _⟩ := hlaw l l0 l1
  have hL : (eC (gE g)).length = a1.length + (a2.length + a3.length) := by rw [e1]; simp
  rcases q6 l l0 l1 with ⟨t1, t2, t3, t4⟩ | ⟨t1, t2⟩
  · refine Or.inl ⟨t1, t4, t3, ?_, fun k k0 k1 => ?_⟩
    · show 0 ≤ μ 187 (7 + l) ∧ μ 187 (7 + l) + hLen (gH g) l ≤ 900
      rw [t2]; omega
    · have k1' : k < hLen (gH g) l := k1
      have hi : (gO g l + k).toNat < (eC (gE g)).length := by omega
      have := c3 (gO g l + k).toNat hi
      show μ 187 (473 + μ 187 (7 + l) + k) = trC ((eC (gE g)).getD (gO g l + k).toNat 0)
      rw [t2, List.getD_eq_getElem?_getD, List.getElem?_eq_getElem hi]
      show _ = trC (eC (gE g))[(gO g l + k).toNat]
      rw [← this]
      congr 1; omega
  · exact Or.inr ⟨t1, t2⟩

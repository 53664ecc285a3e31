/-! THE REFERENCE: what is asked of a day -/
def AM (μ : Mem) (A' : StT) (W : Int → Prop) (x : Int) (μ' : Mem) : Prop := W x ∧ RY μ' A' ∧ FM μ μ'
theorem AM.of {μ μ' : Mem} {A : StT} {W : Int → Prop} {x : Int} (h : RY μ A) (hf : FW μ μ') (hW : W x) : AM μ A W x μ' := ⟨hW, h.same hf, hf.m⟩
theorem fw0 {μ μ1 : Mem} (e : μ1 = mup μ 183 0 0) : FW μ μ1 := fun b j q1 _ => by rw [e, mup_ap, if_neg (fun y => by have := q1 y.1; omega)]
theorem RY.np {μ : Mem} {A : StT} (h : RY μ A) : μ 184 3 = hP (aH A) := h.q.1.2.2.2.1
theorem RY.n6 {μ : Mem} {A : StT} (h : RY μ A) : 0 ≤ hP (aH A) ∧ hP (aH A) ≤ 6 := h.q.2.2.1.2.2.1
theorem cb_hiccupsOf {d : Nat} {sc : SC} {μ : Mem} {Hc : SayL} {p : Int} {R : Int → Mem → Prop} (hd : 1 ≤ d) (hH : HM μ Hc) (hl : Hc.length ≤ 640) (k : R (hicN Hc p) μ) : CAi mX10_hiccupsOf d sc [(2, 183), (0, p)] μ R := by
  refine byI (d' := 0) (by omega) (Q := R) ?_ (fun _ _ z => z)
  refine CTi_of mp_X10_hiccupsOf (Nat.le_of_ble_eq_true rfl) ?_
  refine s_X10_hiccupsOf_0 ?_
  have key : ∀ (Y X : SayL), Hc = X ++ Y → WQ mX10_hiccupsOf 0 sc (ZI sc R) 4 [(2, 183), (0, p), (0, hicN X p), (0, (X.length : Int))] [] μ := by
    intro Y
    induction Y with
    | nil =>
      intro X hX
      rw [List.append_nil] at hX
      rw [hX] at k
      exact s_X10_hiccupsOf_4 ⟨fun _ => k, fun z => by rw [hH.1, hX] at z; omega⟩
    | cons x Y ih =>
      intro X hX
      have hlen : Hc.length = X.length + (Y.length + 1) := by rw [hX]; simp
      have hat := hH.2 X.length (by omega)
      have e : Hc[X.length]'(by omega) = x := by simp [hX]
      rw [e] at hat
      have hb := hicN_b X p
      have hs : hicN (X ++ [x]) p = hicN X p + if x.2 % 6 = p then 1 else 0 := by
        unfold hicN
        rw [List.countP_append, List.countP_cons, List.countP_nil]
        by_cases h : x.2 % 6 = p <;> simp [h]
      have go : ∀ v : Int, v = hicN (X ++ [x]) p → WQ mX10_hiccupsOf 0 sc (ZI sc R) 4 [(2, 183), (0, p), (0, v), (0, (X.length : Int) + 1)] [] μ := fun v hv => by
        have := ih (X ++ [x]) (by rw [hX]; simp)
        rw [List.length_append] at this
        rw [hv]; exact this
      refine s_X10_hiccupsOf_4 ⟨fun z => by rw [hH.1] at z; omega, fun _ => ⟨by omega, ?_⟩⟩
      rw [hat.1]
      refine ⟨fun z => ⟨by omega, ?_⟩, fun z => ⟨by omega, ?_⟩⟩
      · rintro _ rfl
        refine ⟨by omega, ?_⟩
        rintro _ rfl
        exact go _ (by rw [hs, if_neg z])
      · rintro _ rfl
        refine ⟨by omega, ?_⟩
        rintro _ rfl
        exact go _ (by rw [hs, if_pos z])
  exact key Hc [] (List.nil_append _).symm
theorem cb_crowdAt {d : Nat} {sc : SC} {μ : Mem} {Hc : SayL} {m : Int} {R : Int → Mem → Prop} (hd : 1 ≤ d) (hH : HM μ Hc) (hl : Hc.length ≤ 640) (k : R (crowdN Hc m) μ) : CAi mX10_crowdAt d sc [(2, 183), (0, m)] μ R := by
  refine byI (d' := 0) (by omega) (Q := R) ?_ (fun _ _ z => z)
  refine CTi_of mp_X10_crowdAt (Nat.le_of_ble_eq_true rfl) ?_
  refine s_X10_crowdAt_0 ?_
  have key : ∀ (Y X : SayL), Hc = X ++ Y → WQ mX10_crowdAt 0 sc (ZI sc R) 4 [(2, 183), (0, m), (0, crowdN X m), (0, (X.length : Int))] [] μ := by
    intro Y
    induction Y with
    | nil =>
      intro X hX
      rw [List.append_nil] at hX
      rw [hX] at k
      exact s_X10_crowdAt_4 ⟨fun _ => k, fun z => by rw [hH.1, hX] at z; omega⟩
    | cons x Y ih =>
      intro X hX
      have hlen : Hc.length = X.length + (Y.length + 1) := by rw [hX]; simp
      have hat := hH.2 X.length (by omega)
      have e : Hc[X.length]'(by omega) = x := by simp [hX]
      rw [e] at hat
      have hb : 0 ≤ crowdN X m ∧ crowdN X m ≤ X.length := by
        unfold crowdN
        have := List.countP_le_length (p := fun x : Int × Int => x.1 == m) (l := X)
        omega
      have hs := crowdN_snoc X x m
      have go : ∀ v : Int, v = crowdN (X ++ [x]) m → WQ mX10_crowdAt 0 sc (ZI sc R) 4 [(2, 183), (0, m), (0, v), (0, (X.length : Int) + 1)] [] μ := fun v hv => by
        have := ih (X ++ [x]) (by rw [hX]; simp)
        rw [List.length_append] at this
        rw [hv]; exact this
      refine s_X10_crowdAt_4 ⟨fun z => by rw [hH.1] at z; omega, fun _ => ⟨by omega, ?_⟩⟩
      rw [hat.2.2]
      refine ⟨fun z => ⟨by omega, ?_⟩, fun z => ⟨by omega, ?_⟩⟩
      · rintro _ rfl
        refine ⟨by omega, ?_⟩
        rintro _ rfl
        exact go _ (by rw [hs, if_neg z])
      · rintro _ rfl
        refine ⟨by omega, ?_⟩
        rintro _ rfl
        exact go _ (by rw [hs, if_pos z])
  exact key Hc [] (List.nil_append _).symm
theorem cb_hasOneAt {d : Nat} {sc : SC} {μ : Mem} {Hc : SayL} {p m : Int} {R : Int → Mem → Prop} (hd : 1 ≤ d) (hH : HM μ Hc) (hl : Hc.length ≤ 640) (k : R (if hasS Hc p m = true then 1 else 0) μ) : CAi mX10_hasOneAt d sc [(2, 183), (0, p), (0, m)] μ R := by
  refine byI (d' := 0) (by omega) (Q := R) ?_ (fun _ _ z => z)
  refine CTi_of mp_X10_hasOneAt (Nat.le_of_ble_eq_true rfl) ?_
  refine s_X10_hasOneAt_0 ?_
  have key : ∀ (Y X : SayL), Hc = X ++ Y → hasS X p m = false → WQ mX10_hasOneAt 0 sc (ZI sc R) 2 [(2, 183), (0, p), (0, m), (0, (X.length : Int))] [] μ := by
    intro Y
    induction Y with
    | nil =>
      intro X hX hn
      rw [List.append_nil] at hX
      rw [hX, hn, if_neg (by decide)] at k
      exact s_X10_hasOneAt_2 ⟨fun _ => k, fun z => by rw [hH.1, hX] at z; omega⟩
    | cons x Y ih =>
      intro X hX hn
      have hlen : Hc.length = X.length + (Y.length + 1) := by rw [hX]; simp
      have hat := hH.2 X.length (by omega)
      have e : Hc[X.length]'(by omega) = x := by simp [hX]
      rw [e] at hat
      have hs : hasS (X ++ [x]) p m = (x.1 == m && x.2 % 6 == p) := by
        unfold hasS at hn ⊢
        rw [List.any_append, hn]; simp
      have go : hasS (X ++ [x]) p m = false → WQ mX10_hasOneAt 0 sc (ZI sc R) 2 [(2, 183), (0, p), (0, m), (0, (X.length : Int) + 1)] [] μ := fun hv => by
        have := ih (X ++ [x]) (by rw [hX]; simp) hv
        rw [List.length_append] at this
        exact this
      refine s_X10_hasOneAt_2 ⟨fun z => by rw [hH.1] at z; omega, fun _ => ⟨by omega, ?_⟩⟩
      rw [hat.1, hat.2.2]
      refine ⟨fun z => ⟨by omega, ?_⟩, fun z => ⟨by omega, fun z2 => ⟨by omega, ?_⟩, fun z2 => ?_⟩⟩
      · rintro _ rfl
        exact go (by rw [hs]; simp [z])
      · rintro _ rfl
        exact go (by rw [hs]; simp [z2])
      · have : hasS Hc p m = true := by
          unfold hasS
          rw [hX, List.any_append, List.any_cons]
          simp [z, z2]
        rw [this, if_pos rfl] at k
        exact k
  exact key Hc [] (List.nil_append _).symm rfl
theorem cb_minuteAt {d : Nat} {sc : SC} {μ : Mem} {Hc : SayL} {p i : Int} {R : Int → Mem → Prop} (hd : 1 ≤ d) (hH : HM μ Hc) (hl : Hc.length ≤ 640) (hi : 0 ≤ i) (k : R (mAt (minsL Hc p) i) μ) : CAi mX10_minuteAt d sc [(2, 183), (0, p), (0, i)] μ R := by
  refine byI (d' := 0) (by omega) (Q := R) ?_ (fun _ _ z => z)
  refine CTi_of mp_X10_minuteAt (Nat.le_of_ble_eq_true rfl) ?_
  refine s_X10_minuteAt_0 ?_
  have key : ∀ (Y X : SayL), Hc = X ++ Y → ((minsL X p).length : Int) ≤ i → WQ mX10_minuteAt 0 sc (ZI sc R) 5 [(2, 183), (0, p), (0, i), (0, ((minsL X p).length : Int)), (0, (X.length : Int))] [] μ := by
    intro Y
    induction Y with
    | nil =>
      intro X hX hn
      rw [List.append_nil] at hX
      rw [hX, mAt_out hn] at k
      exact s_X10_minuteAt_5 ⟨fun _ => k, fun z => by rw [hH.1, hX] at z; omega⟩
    | cons x Y ih =>
      intro X hX hn
      have hlen : Hc.length = X.length + (Y.length + 1) := by rw [hX]; simp
      have hat := hH.2 X.length (by omega)
      have e : Hc[X.length]'(by omega) = x := by simp [hX]
      rw [e] at hat
      have hml : ((minsL X p).length : Int) ≤ X.length := by rw [minsL_len]; exact (hicN_b X p).2
      refine s_X10_minuteAt_5 ⟨fun z => by rw [hH.1] at z; omega, fun _ => ⟨by omega, ?_⟩⟩
      rw [hat.1, hat.2.2]
      refine ⟨fun z => ⟨fun z2 => ⟨by omega, ?_⟩, fun z2 => ⟨by omega, ?_⟩⟩, fun z => ⟨by omega, ?_⟩⟩
      · rintro _ rfl
        refine ⟨by omega, ?_⟩
        rintro _ rfl
        have e1 : minsL (X ++ [x]) p = minsL X p ++ [x.1] := by rw [minsL_app, show minsL [x] p = [x.1] by simp [minsL, z]]
        have := ih (X ++ [x]) (by rw [hX]; simp) (by rw [e1, List.length_append, List.length_singleton]; omega)
        rw [List.length_append, e1, List.length_append] at this
        exact this
      · have e1 : mAt (minsL Hc p) i = x.1 := by
          rw [hX, minsL_app, show minsL (x :: Y) p = x.1 :: minsL Y p by simp [minsL, z], ← z2, mAt_mid]
        rw [e1] at k
        exact k
      · rintro _ rfl
        have e1 : minsL (X ++ [x]) p = minsL X p := by rw [minsL_app, show minsL [x] p = [] by simp [minsL, z], List.append_nil]
        have := ih (X ++ [x]) (by rw [hX]; simp) (by rw [e1]; exact hn)
        rw [List.length_append, e1] at this
        exact this
  exact key Hc [] (List.nil_append _).symm hi
/-! nobodies -/
theorem clr_bit : ∀ i : Nat, i < 384 → iAnd ((i / 6 : Nat) : Int) (iXor (iShl 1 ((i % 6 : Nat) : Int)) (-1)) = if i / 6 / 2 ^ (i % 6) % 2 = 1 then ((i / 6 : Nat) : Int) - 2 ^ (i % 6) else ((i / 6 : Nat) : Int) := by decide +kernel
theorem bitsF_bit (f : Int → Bool) : ∀ n h : Nat, h < n → ((bitsF f n).toNat / 2 ^ h % 2 = 1 ↔ f h = true) := by
  intro n
  induction n with
  | zero => intro h hh; omega
  | succ n ih =>
    intro h hh
    have hb := bitsF_b f n
    have hp : ((2 ^ n : Nat) : Int) = 2 ^ n := Int.natCast_pow 2 n
    have e : (bitsF f (n + 1)).toNat = (bitsF f n).toNat + if f n = true then 2 ^ n else 0 := by
      rw [bitsF]
      split <;> omega
    rw [e]
    have hlt : (bitsF f n).toNat < 2 ^ n := by omega
    by_cases q : h = n
    · subst q
      by_cases y : f h = true
      · rw [if_pos y, Nat.add_div_right _ (Nat.pow_pos (by decide)), Nat.div_eq_of_lt hlt]
        exact ⟨fun _ => y, fun _ => rfl⟩
      · rw [if_neg y, Nat.add_zero, Nat.div_eq_of_lt hlt]
        exact ⟨fun z => absurd z (by decide), fun z => absurd z y⟩
    · rw [← ih h (by omega)]
      by_cases y : f n = true
      · rw [if_pos y]
        have e2 : 2 ^ n = 2 ^ h * (2 * 2 ^ (n - h - 1)) := by
          rw [← Nat.pow_succ', ← Nat.pow_add]
          congr 1; omega
        rw [e2, Nat.add_mul_div_left _ _ (Nat.pow_pos (by decide))]
        omega
      · rw [if_neg y, Nat.add_zero]
theorem bitsF_clr (f : Int → Bool) (h : Nat) : ∀ n : Nat, bitsF (fun p => f p && decide (p ≠ (h : Int))) n = bitsF f n - if h < n ∧ f h = true then 2 ^ h else 0 := by
  intro n
  induction n with
  | zero => rw [if_neg (fun z => by omega)]; rfl
  | succ n ih =>
    rw [bitsF, bitsF, ih]
    by_cases q : h = n
    · subst q
      have i1 : (if h < h ∧ f h = true then (2 : Int) ^ h else 0) = 0 := if_neg (fun z => by omega)
      have i2 : (if (f (h : Int) && decide ((h : Int) ≠ (h : Int))) = true then (2 : Int) ^ h else 0) = 0 := by simp
      have i3 : (if h < h + 1 ∧ f h = true then (2 : Int) ^ h else 0) = if f h = true then 2 ^ h else 0 := by
        by_cases y : f h = true
        · rw [if_pos y, if_pos ⟨by omega, y⟩]
        · rw [if_neg y, if_neg (fun z => y z.2)]
      rw [i1, i2, i3]; omega
    · have e : (f (n : Int) && decide ((n : Int) ≠ (h : Int))) = f n := by
        have : (n : Int) ≠ h := by omega
        simp [this]
      have i3 : (if h < n + 1 ∧ f h = true then (2 : Int) ^ h else 0) = if h < n ∧ f h = true then 2 ^ h else 0 := by
        by_cases y : h < n ∧ f h = true
        · rw [if_pos y, if_pos (⟨by omega, y.2⟩ : h < n + 1 ∧ f h = true)]
        · rw [if_neg y, if_neg (fun z : h < n + 1 ∧ f h = true => y ⟨by omega, z.2⟩)]
      rw [e, i3]; omega
theorem full_bits : ∀ n : Nat, n < 7 → iShl 1 (n : Int) - 1 = bitsF (fun _ => true) n := by decide +kernel
theorem bitsF_congr {f g : Int → Bool} {n : Nat} (h : ∀ i : Nat, i < n → f i = g i) : bitsF f n = bitsF g n := by
  induction n with
  | zero => rfl
  | succ n ih => rw [bitsF, bitsF, ih (fun i hi => h i (by omega)), h n (by omega)]
theorem cb_nobodies {d : Nat} {sc : SC} {μ : Mem} {Hc : SayL} {np : Int} {R : Int → Mem → Prop} (hd : 1 ≤ d) (hn : μ 184 3 = np) (h6 : 0 ≤ np ∧ np ≤ 6) (hH : HM μ Hc) (hl : Hc.length ≤ 640) (hg : ∀ x ∈ Hc, x.2 % 6 < np) (k : R (nobS Hc np) μ) : CAi mX10_nobodies d sc [(2, 183)] μ R := by
  refine byI (d' := 0) (by omega) (Q := R) ?_ (fun _ _ z => z)
  refine CTi_of mp_X10_nobodies (Nat.le_of_ble_eq_true rfl) ?_
  have hfb := full_bits np.toNat (by omega)
  rw [show ((np.toNat : Nat) : Int) = np by omega] at hfb
  have hpw : ∀ m : Nat, m < 7 → (2 : Int) ^ m ≤ 64 := by decide +kernel
  have h64 := hpw np.toNat (by omega)
  have hb0 := bitsF_b (fun _ => true) np.toNat
  refine s_X10_nobodies_0 ?_
  rw [hn, hfb]
  refine ⟨by omega, ?_⟩
  have key : ∀ (Y X : SayL), Hc = X ++ Y → WQ mX10_nobodies 0 sc (ZI sc R) 13 [(2, 183), (0, bitsF (fun p => hicN X p == 0) np.toNat), (0, (X.length : Int))] [] μ := by
    intro Y
    induction Y with
    | nil =>
      intro X hX
      rw [List.append_nil] at hX
      rw [hX] at k
      exact s_X10_nobodies_13 ⟨fun _ => k, fun z => by rw [hH.1, hX] at z; omega⟩
    | cons x Y ih =>
      intro X hX
      have hlen : Hc.length = X.length + (Y.length + 1) := by rw [hX]; simp
      have hat := hH.2 X.length (by omega)
      have e : Hc[X.length]'(by omega) = x := by simp [hX]
      rw [e] at hat
      have hxg := hg x (by rw [hX]; simp)
      have hb := bitsF_b (fun p => hicN X p == 0) np.toNat
      refine s_X10_nobodies_13 ⟨fun z => by rw [hH.1] at z; omega, fun _ => ⟨by omega, ?_⟩⟩
      rw [hat.1]
      intro v3 h3
      refine ⟨by omega, ?_⟩
      rintro _ rfl
      have hs : bitsF (fun p => hicN (X ++ [x]) p == 0) np.toNat = v3 := by
        have h1 := clr_bit ((bitsF (fun p => hicN X p == 0) np.toNat).toNat * 6 + (x.2 % 6).toNat) (by omega)
        rw [show ((bitsF (fun p => hicN X p == 0) np.toNat).toNat * 6 + (x.2 % 6).toNat) / 6 = (bitsF (fun p => hicN X p == 0) np.toNat).toNat by omega, show ((bitsF (fun p => hicN X p == 0) np.toNat).toNat * 6 + (x.2 % 6).toNat) % 6 = (x.2 % 6).toNat by omega, show (((bitsF (fun p => hicN X p == 0) np.toNat).toNat : Nat) : Int) = bitsF (fun p => hicN X p == 0) np.toNat by omega, show (((x.2 % 6).toNat : Nat) : Int) = x.2 % 6 by omega] at h1
        rw [h3, h1]
        have h2 := bitsF_bit (fun p => hicN X p == 0) np.toNat (x.2 % 6).toNat (by omega)
        have h4 := bitsF_clr (fun p => hicN X p == 0) (x.2 % 6).toNat np.toNat
        have h5 : bitsF (fun p => hicN (X ++ [x]) p == 0) np.toNat = bitsF (fun p => (hicN X p == 0) && decide (p ≠ (((x.2 % 6).toNat : Nat) : Int))) np.toNat := by
          refine bitsF_congr (fun i hi => ?_)
          have hsn : hicN (X ++ [x]) i = hicN X i + if x.2 % 6 = i then 1 else 0 := by
            unfold hicN
            rw [List.countP_append, List.countP_cons, List.countP_nil]
            by_cases h : x.2 % 6 = i <;> simp [h]
          have hb2 := hicN_b X i
          rw [hsn]
          by_cases y : x.2 % 6 = i
          · rw [if_pos y]
            have y2 : ¬ ((i : Int) ≠ (((x.2 % 6).toNat : Nat) : Int)) := by omega
            rw [decide_eq_false y2, Bool.and_false]
            simp; omega
          · rw [if_neg y]
            have y2 : (i : Int) ≠ (((x.2 % 6).toNat : Nat) : Int) := by omega
            rw [decide_eq_true y2, Bool.and_true, Int.add_zero]
        rw [h5, h4]
        by_cases y : (bitsF (fun p => hicN X p == 0) np.toNat).toNat / 2 ^ (x.2 % 6).toNat % 2 = 1
        · rw [if_pos y, if_pos ⟨by omega, h2.mp y⟩]
        · rw [if_neg y, if_neg (fun z => y (h2.mpr z.2)), Int.sub_zero]
      rw [← hs]
      have := ih (X ++ [x]) (by rw [hX]; simp)
      rw [List.length_append] at this
      exact this
  rintro _ rfl
  exact key Hc [] (List.nil_append _).symm

/-! THE CLASS: the tape -/
theorem iAnd255 (x : Int) : iAnd x 255 = x % 256 := by
  unfold iAnd
  have h1 : (Int32.ofInt x &&& Int32.ofInt 255).toBitVec = (Int32.ofInt x).toBitVec &&& 255#32 := rfl
  have h2 : ((Int32.ofInt x).toBitVec &&& 255#32).toNat = (Int32.ofInt x).toBitVec.toNat % 256 := by
    rw [BitVec.toNat_and]
    exact Nat.and_two_pow_sub_one_eq_mod _ 8
  have h3 : (Int32.ofInt x).toBitVec.toNat = (x % 4294967296).toNat := by
    show (BitVec.ofInt 32 x).toNat = _
    rw [BitVec.toNat_ofInt]; rfl
  show (Int32.ofInt x &&& Int32.ofInt 255).toBitVec.toInt = _
  rw [h1, BitVec.toInt_eq_toNat_of_lt (by rw [h2]; omega), h2, h3]
  omega
theorem iShrK (x : Int) (hx : i32 x) (s : Nat) (hs : s < 32) : iShr x s = x / 2 ^ s := by
  unfold iShr
  have hx1 : (Int32.ofInt x).toInt = x := Int32.toInt_ofInt_of_le hx.1 hx.2
  have e : ∀ n : Nat, n < 32 → ((Int32.ofInt (n : Int) &&& 31).toBitVec.smod 32).toNat = n := by decide +kernel
  show (Int32.ofInt x >>> (Int32.ofInt s &&& 31)).toBitVec.toInt = _
  rw [Int32.toBitVec_shiftRight, BitVec.sshiftRight_eq', BitVec.toInt_sshiftRight, e s hs, Int.shiftRight_eq_div_pow]
  show (Int32.ofInt x).toInt / _ = _
  rw [hx1]; simp
theorem iUshrK (x : Int) (s : Nat) (hs : 1 ≤ s ∧ s < 32) : iUshr x s = (x % 4294967296) / 2 ^ s := by
  unfold iUshr
  have e : ∀ n : Nat, n < 32 → ((Int32.ofInt (n : Int)).toUInt32 &&& Int32.toUInt32 31).toNat % 32 = n := by decide +kernel
  have h3 : (Int32.ofInt x).toUInt32.toNat = (x % 4294967296).toNat := by
    show (BitVec.ofInt 32 x).toNat = _
    rw [BitVec.toNat_ofInt]; rfl
  generalize (Int32.ofInt x).toUInt32 = u at *
  have h4 : (u >>> ((Int32.ofInt (s : Int)).toUInt32 &&& Int32.toUInt32 31)).toNat = u.toNat / 2 ^ s := by
    rw [UInt32.toNat_shiftRight, e s hs.2, Nat.shiftRight_eq_div_pow]
  have h5 : u.toNat / 2 ^ s < 2147483648 := by
    have := u.toNat_lt
    have h2 : 2 ^ 1 ≤ 2 ^ s := Nat.pow_le_pow_right (by decide) hs.1
    have h6 : u.toNat / 2 ^ s ≤ u.toNat / 2 ^ 1 := Nat.div_le_div_left h2 (by decide)
    omega
  show (u >>> ((Int32.ofInt (s : Int)).toUInt32 &&& Int32.toUInt32 31)).toBitVec.toInt = _
  rw [BitVec.toInt_eq_toNat_of_lt (by show 2 * (u >>> ((Int32.ofInt (s : Int)).toUInt32 &&& Int32.toUInt32 31)).toNat < _; omega)]
  show ((u >>> ((Int32.ofInt (s : Int)).toUInt32 &&& Int32.toUInt32 31)).toNat : Int) = _
  rw [h4, h3, Int.natCast_ediv, Int.natCast_pow]
  congr 1
  omega
theorem iUshr0 (x : Int) (hx : i32 x) : iUshr x 0 = x := by
  unfold iUshr
  have e : ((Int32.ofInt 0).toUInt32 &&& Int32.toUInt32 31) = 0 := by decide
  rw [e]
  have : (Int32.ofInt x).toUInt32 >>> (0 : UInt32) = (Int32.ofInt x).toUInt32 := by
    apply UInt32.toNat_inj.mp
    rw [UInt32.toNat_shiftRight]; rfl
  rw [this]
  exact Int32.toInt_ofInt_of_le hx.1 hx.2
theorem toB_mod (x : Int) : (toB x - x) % 256 = 0 := by
  unfold toB
  have h1 : (Int32.ofInt x).toInt8.toInt32.toInt = (Int32.ofInt x).toInt8.toInt := by simp
  rw [h1]
  have h2 : (Int32.ofInt x).toInt8.toInt = (Int32.ofInt x).toInt.bmod 256 := Int32.toInt_toInt8 _
  have h3 : (Int32.ofInt x).toInt = x.bmod 4294967296 := Int32.toInt_ofInt
  rw [h2, h3]
  have b1 := Int.bmod_emod (x := x) (m := 4294967296)
  have b2 := Int.bmod_emod (x := x.bmod 4294967296) (m := 256)
  generalize (x.bmod 4294967296) = y at *
  generalize y.bmod 256 = z at *
  omega

def byteS (v k : Int) : Int := (v / (if k = 0 then 16777216 else if k = 1 then 65536 else if k = 2 then 256 else 1)) % 256
theorem byteS_b (v k : Int) : 0 ≤ byteS v k ∧ byteS v k ≤ 255 := by unfold byteS; omega
theorem byte_c {v : Int} (hv : i32 v) {k : Nat} (hk : k < 4) : BY (toB (toB (iUshr v (24 - 8 * (k : Int))))) (byteS v k) := by
  have h0 : -128 ≤ toB (toB (iUshr v (24 - 8 * (k : Int)))) ∧ toB (toB (iUshr v (24 - 8 * (k : Int)))) < 128 := toB_r _
  have h1 := toB_mod (iUshr v (24 - 8 * (k : Int)))
  have h2 := toB_mod (toB (iUshr v (24 - 8 * (k : Int))))
  have h3 : (iUshr v (24 - 8 * (k : Int)) - byteS v k) % 256 = 0 := by
    have : k = 0 ∨ k = 1 ∨ k = 2 ∨ k = 3 := by omega
    rcases this with rfl | rfl | rfl | rfl
    · have := iUshrK v 24 (by decide)
      rw [show (24 : Int) - 8 * ((0 : Nat) : Int) = ((24 : Nat) : Int) by decide, this]
      show (v % 4294967296 / 16777216 - (v / 16777216) % 256) % 256 = 0
      omega
    · have := iUshrK v 16 (by decide)
      rw [show (24 : Int) - 8 * ((1 : Nat) : Int) = ((16 : Nat) : Int) by decide, this]
      show (v % 4294967296 / 65536 - (v / 65536) % 256) % 256 = 0
      omega
    · have := iUshrK v 8 (by decide)
      rw [show (24 : Int) - 8 * ((2 : Nat) : Int) = ((8 : Nat) : Int) by decide, this]
      show (v % 4294967296 / 256 - (v / 256) % 256) % 256 = 0
      omega
    · rw [show (24 : Int) - 8 * ((3 : Nat) : Int) = 0 by decide, iUshr0 v hv]
      show (v - (v / 1) % 256) % 256 = 0
      omega
  exact ⟨by omega, h0⟩
/-- so many bytes of one int are on the tape -/
def TI (μ μ1 : Mem) (v : Int) (k : Nat) : Prop := μ1 0 1 = μ 0 1 + k ∧ (∀ b j, (b = 0 → j ≠ 1) → (b = 1 → j < μ 0 1 ∨ μ 0 1 + 4 ≤ j) → μ1 b j = μ b j) ∧ ∀ i : Nat, i < k → BY (μ1 1 (μ 0 1 + i)) (byteS v i)
theorem ct_tapeInt {d : Nat} {sc : SC} {μ : Mem} {v : Int} (hv : i32 v) (h : 0 ≤ μ 0 1 ∧ μ 0 1 ≤ 896) : CTv mX9_tapeInt d sc [(2, 0), (0, v)] μ (fun μ' => TI μ μ' v 4) := by
  refine CTv_of mp_X9_tapeInt (Nat.le_of_ble_eq_true rfl) ?_
  refine s_X9_tapeInt_0 ?_
  have key : ∀ (r k : Nat) (μ1 : Mem), k + r = 4 → TI μ μ1 v k → WQ mX9_tapeInt d sc (ZV sc (fun μ' => TI μ μ' v 4)) 3 [(2, 0), (0, v), (0, 24 - 8 * (k : Int))] [] μ1 := by
    intro r
    induction r with
    | zero =>
      intro k μ1 hk hT
      refine s_X9_tapeInt_3 ⟨fun _ => ?_, fun z => by omega⟩
      rw [show k = 4 by omega] at hT
      exact hT
    | succ r ih =>
      intro k μ1 hk hT
      obtain ⟨t1, t2, t3⟩ := hT
      refine s_X9_tapeInt_3 ⟨fun z => by omega, fun _ => ⟨fun z => by omega, fun _ => ⟨by omega, ?_⟩⟩⟩
      intro μ6 e6
      have a6 : μ6 0 1 = μ1 0 1 := by rw [e6, mup_ap, if_neg (fun y => by omega)]
      rw [a6]
      refine ⟨by omega, ?_⟩
      intro μ8 e8
      refine ⟨by omega, ?_⟩
      rintro _ rfl
      have := ih (k + 1) μ8 (by omega) ⟨?_, fun b j q1 q2 => ?_, fun i hi => ?_⟩
      · rw [show 24 - 8 * (k : Int) + -8 = 24 - 8 * ((k + 1 : Nat) : Int) by omega]
        exact this
      · rw [e8, mup_at]; omega
      · rw [e8, mup_ap, if_neg (fun y => q1 y.1 y.2), e6, mup_ap, if_neg (fun y => by have := q2 y.1; omega)]
        exact t2 b j q1 q2
      · rw [e8, mup_ap, if_neg (fun y => by omega), e6, mup_ap]
        by_cases q : i = k
        · rw [if_pos ⟨rfl, by omega⟩, q]
          exact byte_c hv (by omega)
        · rw [if_neg (fun y => by omega)]
          exact t3 i (by omega)
  have := key 4 0 μ rfl ⟨by omega, fun _ _ _ _ => rfl, fun i hi => absurd hi (by omega)⟩
  exact this
def argS (a b c d e i : Int) : Int := if i = 0 then a else if i = 1 then b else if i = 2 then c else if i = 3 then d else e
def feedT (A : StT) (a b c d e : Int) : StT := ((aTaped A + 20, fun i => if i < aTaped A then aTape A i else byteS (argS a b c d e ((i - aTaped A) / 4)) ((i - aTaped A) % 4)), A.2)
def feedS (A : StT) : Int := if aTaped A + 20 ≤ 900 then aTaped A + 20 else -5
def feedA (A : StT) (a b c d e : Int) : StT := if aTaped A + 20 ≤ 900 then feedT A a b c d e else A
/-- so many ints are on the tape -/
def TF (μ μ1 : Mem) (f : Int → Int) (n : Nat) : Prop := μ1 0 1 = μ 0 1 + 4 * n ∧ (∀ b j, (b = 0 → j ≠ 1) → (b = 1 → j < μ 0 1) → μ1 b j = μ b j) ∧ ∀ i, 0 ≤ i → i < 4 * (n : Int) → BY (μ1 1 (μ 0 1 + i)) (byteS (f (i / 4)) (i % 4))
theorem TF.up {μ μ1 μ2 : Mem} {f : Int → Int} {n : Nat} {v : Int} (h : TF μ μ1 f n) (h2 : TI μ1 μ2 v 4) (hv : f n = v) : TF μ μ2 f (n + 1) := by
  obtain ⟨a1, a2, a3⟩ := h
  obtain ⟨b1, b2, b3⟩ := h2
  refine ⟨by omega, fun b j q1 q2 => by rw [b2 b j q1 (fun y => by have := q2 y; omega)]; exact a2 b j q1 q2, fun i i0 i1 => ?_⟩
  by_cases q : i < 4 * (n : Int)
  · rw [b2 1 _ (by omega) (fun _ => by omega)]
    exact a3 i i0 q
  · have := b3 (i - 4 * n).toNat (by omega)
    rw [show μ1 0 1 + ((i - 4 * n).toNat : Int) = μ 0 1 + i by omega, show (((i - 4 * n).toNat : Nat) : Int) = i % 4 by omega] at this
    rw [show i / 4 = n by omega, hv]
    exact this
theorem cx_feed {d : Nat} {sc : SC} {μ : Mem} {A : StT} {a b c e g : Int} (hd : 1 ≤ d) (ha : i32 a) (hb : i32 b) (hc : i32 c) (he : i32 e) (hg : i32 g) (h : RX μ A) : CTi mX9_feed d sc [(2, 0), (0, a), (0, b), (0, c), (0, e), (0, g)] μ (AX μ (feedA A a b c e g) (fun x => x = feedS A)) := by
  have ht := h.1.2.1
  have hwt := h.1.wf.1
  refine CTi_of mp_X9_feed (Nat.le_of_ble_eq_true rfl) ?_
  refine s_X9_feed_0 ⟨by omega, fun z => ?_, fun z => AX.here ?_ ?_⟩
  · generalize hf : argS a b c e g = f
    have t0 : TF μ μ f 0 := ⟨by omega, fun _ _ _ _ => rfl, fun i i0 i1 => by omega⟩
    refine byV (d' := 0) (by omega) (ct_tapeInt ha (by omega)) ?_
    intro μ4 h4
    have t4 := t0.up h4 (by rw [← hf]; rfl)
    refine byV (d' := 0) (by omega) (ct_tapeInt hb (by have := t4.1; omega)) ?_
    intro μ6 h6
    have t6 := t4.up h6 (by rw [← hf]; rfl)
    refine byV (d' := 0) (by omega) (ct_tapeInt hc (by have := t6.1; omega)) ?_
    intro μ8 h8
    have t8 := t6.up h8 (by rw [← hf]; rfl)
    refine byV (d' := 0) (by omega) (ct_tapeInt he (by have := t8.1; omega)) ?_
    intro μ10 h10
    have t10 := t8.up h10 (by rw [← hf]; rfl)
    refine byV (d' := 0) (by omega) (ct_tapeInt hg (by have := t10.1; omega)) ?_
    intro μ12 h12
    obtain ⟨q1, q2, q3⟩ := t10.up h12 (by rw [← hf]; rfl)
    refine ⟨?_, ?_, fun b j q => q2 b j (by omega) (by omega)⟩
    · show _ = _
      unfold feedS; rw [if_pos (by omega)]; omega
    · have eF : feedA A a b c e g = feedT A a b c e g := by unfold feedA; rw [if_pos (by omega)]
      rw [eF]
      have g2 : ∀ b j, b ≠ 1 → (b = 0 → j ≠ 1) → μ12 b j = μ b j := fun b j z1 z2 => q2 b j z2 (fun y => absurd y z1)
      obtain ⟨⟨h1, h2, h3, h4, h5, h6, h7, h8, h9, h10, h11⟩, k1, k2, k3⟩ := h
      have hn := nowK h1
      have e2 : μ12 0 2 = μ 0 2 := g2 _ _ (by omega) (by omega)
      refine ⟨⟨by rw [e2, g2 0 3 (by omega) (by omega)]; exact h1, by rw [q1, h2]; rfl, fun i i0 i1 => ?_, by rw [g2 _ _ (by omega) (by omega)]; exact h4, by rw [g2 _ _ (by omega) (by omega)]; exact h5, ?_, ?_, ?_, ?_, ?_, ?_⟩, ?_, ?_, ?_⟩
      · have hi1 : i < aTaped A + 20 := i1
        show BY (μ12 1 i) (if i < aTaped A then aTape A i else byteS (argS a b c e g ((i - aTaped A) / 4)) ((i - aTaped A) % 4))
        by_cases y : i < aTaped A
        · rw [if_pos y, q2 1 i (by omega) (fun _ => by omega)]
          exact h3 i i0 y
        · rw [if_neg y, hf]
          have := q3 (i - aTaped A) (by omega) (by omega)
          rw [show μ 0 1 + (i - aTaped A) = i by omega] at this
          exact this
      · rw [e2]; exact h6.same (fun b j _ _ => g2 b j (by omega) (by omega))
      · rw [e2]; exact h7.same (fun b j _ _ => g2 b j (by omega) (by omega))
      · exact h8.same (fun b j _ _ => g2 b j (by omega) (by omega))
      · intro i i0 i1
        obtain ⟨p1, p2, p3⟩ := h9 i i0 i1
        exact ⟨by rw [g2 _ _ (by omega) (by omega)]; exact p1, by rw [g2 _ _ (by omega) (by omega)]; exact p2, fun z => ⟨(p3 z).1.same (fun b j _ _ => g2 b j (by omega) (by omega)), (p3 z).2.same (fun b j _ _ => g2 b j (by omega) (by omega))⟩⟩
      · intro i i0 i1
        obtain ⟨p1, p2⟩ := h10 i i0 i1
        exact ⟨by rw [g2 _ _ (by omega) (by omega)]; exact p1, p2.same (fun b j _ _ => g2 b j (by omega) (by omega))⟩
      · obtain ⟨w1, w2, w3⟩ := h11
        refine ⟨⟨by show 0 ≤ aTaped A + 20; omega, by show aTaped A + 20 ≤ 900; omega⟩, fun i i0 i1 => ?_, w3⟩
        show 0 ≤ (if i < aTaped A then aTape A i else byteS (argS a b c e g ((i - aTaped A) / 4)) ((i - aTaped A) % 4)) ∧ (if i < aTaped A then aTape A i else byteS (argS a b c e g ((i - aTaped A) / 4)) ((i - aTaped A) % 4)) ≤ 255
        by_cases y : i < aTaped A
        · rw [if_pos y]; exact w2 i i0 y
        · rw [if_neg y]; exact byteS_b _ _
      · rw [g2 _ _ (by omega) (by omega)]
        intro z
        have := k1 z
        exact ⟨by rw [e2]; exact this.1.same (fun b j q => g2 b j (by omega) (by omega)), this.2.same (fun b j _ _ => g2 b j (by omega) (by omega))⟩
      · rw [g2 _ _ (by omega) (by omega)]
        intro z
        exact (k2 z).same (fun b j _ _ => g2 b j (by omega) (by omega))
      · rw [g2 _ _ (by omega) (by omega), g2 _ _ (by omega) (by omega), g2 _ _ (by omega) (by omega), g2 _ _ (by omega) (by omega)]
        exact k3
  · unfold feedA; rw [if_neg (by omega)]; exact h
  · show _ = _
    unfold feedS; rw [if_neg (by omega)]

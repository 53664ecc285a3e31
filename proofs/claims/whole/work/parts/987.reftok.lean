/-! THE REFERENCE READS: tokens -/
def trW : List Int := [0, 1, 5, 6, 7, 9, 10, 11, 12, 13, 14, 15, 21, 22, 23, 8, 2, 3, 4, 16, 17, 18, 19, 20]
def trK (K : Int) : Int := if K < 24 then trW.getD K.toNat 24 else if K = 51 then 24 else if K = 50 then 25 else if K = 52 then 26 else if K = 53 then 27 else K
def keyW : List Nat := [0, 1, 16, 17, 18, 2, 3, 4, 15, 5, 6, 7, 8, 9, 10, 11, 19, 20, 21, 22, 23, 12, 13, 14]
def kW (n : Nat) : Nat := keyW.getD n 0
def kP : Nat → Nat
  | 0 => 1
  | n + 1 => kP n + wLen (kW n) + 1
theorem key_at : ∀ n : Nat, n < 24 → kW n < 24 ∧ trK (kW n : Nat) = n ∧ (kP n + wLen (kW n) : Int) < txLen 2 ∧ txAt 2 ((kP n + wLen (kW n) : Nat)) = 32 ∧ ∀ t : Nat, t < wLen (kW n) → txAt 2 ((kP n + t : Nat)) = wCh (kW n) t ∧ wCh (kW n) t ≠ 32 := by decide +kernel
theorem key_end : (kP 24 : Int) = txLen 2 ∧ txLen 3 = 12 := by decide +kernel
theorem key_all : ∀ w : Nat, w < 24 → ∃ n : Nat, n < 24 ∧ kW n = w := by decide +kernel
theorem words_ne : ∀ w : Nat, w < 24 → ∀ v : Nat, v < 24 → w = v ∨ wLen w ≠ wLen v ∨ ∃ t : Nat, t < wLen w ∧ wCh w t ≠ wCh v t := by decide +kernel
theorem match_one {b : Int → Int} {i j w v : Nat} (hw : w < 24) (hv : v < 24) (h : matchW b i j w = true) (h' : matchW b i j v = true) : w = v := by
  obtain ⟨a1, a2⟩ := matchW_iff.mp h
  obtain ⟨b1, b2⟩ := matchW_iff.mp h'
  rcases words_ne w hw v hv with q | q | ⟨t, t1, t2⟩
  · exact q
  · omega
  · exact absurd ((a2 t t1).symm.trans (b2 t (by omega))) t2
theorem fstF_at {f : Nat → Bool} {w : Nat} (hf : f w = true) (h1 : ∀ v, v < 24 → f v = true → v = w) : ∀ (r x : Nat), x + r = 24 → x ≤ w → w < 24 → fstF f r x = w := by
  intro r
  induction r with
  | zero => intro x hx hxw hw; omega
  | succ r ih =>
    intro x hx hxw hw
    rw [fstF]
    by_cases q : f x = true
    · rw [if_pos q, h1 x (by omega) q]
    · rw [if_neg q]
      have : x ≠ w := fun e => q (by rw [e]; exact hf)
      exact ih (x + 1) (by omega) (by omega) hw
theorem fstF_no {f : Nat → Bool} (h : ∀ v, v < 24 → f v = false) : ∀ (r x : Nat), x + r = 24 → fstF f r x = 51 := by
  intro r
  induction r with
  | zero => intro x _; rfl
  | succ r ih =>
    intro x hx
    rw [fstF, h x (by omega), if_neg (by decide)]
    exact ih (x + 1) (by omega)
theorem cj_len2 {d : Nat} {sc : SC} {μ : Mem} {R : Int → Mem → Prop} (hd : 2 ≤ d) (k : R (kP 24 : Nat) μ) : CAi mJ0_length_8abf5 d sc [(3, 2)] μ R := by
  refine byI (d' := 1) (by omega) (Q := fun x μ' => x = (kP 24 : Nat) ∧ μ' = μ) ?_ (fun x μ' q => by rw [q.1, q.2]; exact k)
  refine CTi_of mp_J0_length_8abf5 (Nat.le_of_ble_eq_true rfl) ?_
  refine s_J0_length_8abf5_0 (byI (d' := 0) (by omega) (Q := fun x μ' => x = 0 ∧ μ' = μ) (CTi_of mp_J0_coder_7d493 (Nat.le_of_ble_eq_true rfl) (s_J0_coder_7d493_0 ⟨rfl, rfl⟩)) ?_)
  rintro _ z0 ⟨rfl, ez⟩
  exact ⟨by rw [← key_end.1]; decide +kernel, ez⟩
theorem cj_len3 {d : Nat} {sc : SC} {μ : Mem} {R : Int → Mem → Prop} (hd : 2 ≤ d) (k : R 12 μ) : CAi mJ0_length_8abf5 d sc [(3, 3)] μ R := by
  refine byI (d' := 1) (by omega) (Q := fun x μ' => x = 12 ∧ μ' = μ) ?_ (fun x μ' q => by rw [q.1, q.2]; exact k)
  refine CTi_of mp_J0_length_8abf5 (Nat.le_of_ble_eq_true rfl) ?_
  refine s_J0_length_8abf5_0 (byI (d' := 0) (by omega) (Q := fun x μ' => x = 0 ∧ μ' = μ) (CTi_of mp_J0_coder_7d493 (Nat.le_of_ble_eq_true rfl) (s_J0_coder_7d493_0 ⟨rfl, rfl⟩)) ?_)
  rintro _ z0 ⟨rfl, ez⟩
  exact ⟨by rw [key_end.2]; decide +kernel, ez⟩
/-- the text lies on the reference's tape -/
def TM (μ : Mem) (b : Int → Int) (n : Nat) : Prop := μ 183 8 = n ∧ n ≤ 900 ∧ ∀ i : Int, 0 ≤ i → i < n → μ 186 i = b i ∧ 0 ≤ b i ∧ b i ≤ 255
theorem TM.same {μ μ' : Mem} {b : Int → Int} {n : Nat} (h : TM μ b n) (h2 : μ' 183 8 = μ 183 8) (h1 : ∀ j, μ' 186 j = μ 186 j) : TM μ' b n := ⟨by rw [h2]; exact h.1, h.2.1, fun i i0 i1 => by rw [h1]; exact h.2.2 i i0 i1⟩
theorem cj_char2 {d : Nat} {sc : SC} {μ : Mem} {i : Nat} {R : Int → Mem → Prop} (hd : 4 ≤ d) (hi : (i : Int) < txLen 2) (k : R (txAt 2 i) μ) : CAi mJ0_charAt_5068e d sc [(3, 2), (0, (i : Int))] μ R := ca_charAt (t := 2) hd (by decide) hi k
theorem cj_char3 {d : Nat} {sc : SC} {μ : Mem} {i : Nat} {R : Int → Mem → Prop} (hd : 4 ≤ d) (hi : (i : Int) < txLen 3) (k : R (txAt 3 i) μ) : CAi mJ0_charAt_5068e d sc [(3, 3), (0, (i : Int))] μ R := ca_charAt (t := 3) hd (by decide) hi k
theorem kP_b : ∀ n : Nat, n < 25 → kP n < 200 := by decide +kernel
theorem cb_keyAt {d : Nat} {sc : SC} {μ : Mem} {b : Int → Int} {n i j : Nat} {R : Int → Mem → Prop} (hd : 5 ≤ d) (hT : TM μ b n) (hij : i < j ∧ j ≤ n) (h6 : μ 183 6 = i) (h7 : μ 183 7 = j) (k : R (trK (wordK b i j)) μ) : CAi mX10_keyAt d sc [(2, 183)] μ R := by
  refine byI (d' := 4) (by omega) (Q := R) ?_ (fun _ _ z => z)
  refine CTi_of mp_X10_keyAt (Nat.le_of_ble_eq_true rfl) ?_
  refine s_X10_keyAt_0 ?_
  have hn9 := hT.2.1
  have key : ∀ (r m : Nat), m + r = 24 → (∀ v, v < m → matchW b i j (kW v) = false) → WQ mX10_keyAt 4 sc (ZI sc R) 4 [(2, 183), (0, (m : Int)), (0, (kP m : Nat)), (9, 0)] [] μ := by
    intro r
    induction r with
    | zero =>
      intro m hm hno
      refine s_X10_keyAt_4 (cj_len2 (by omega) ⟨fun _ => ?_, fun z => by rw [show m = 24 by omega] at z; omega⟩)
      have e : wordK b i j = 51 := fstF_no (fun v hv => by
        obtain ⟨u, u1, u2⟩ := key_all v hv
        rw [← u2]; exact hno u (by omega)) 24 0 rfl
      rw [e] at k
      exact k
    | succ r ih =>
      intro m hm hno
      have hm24 : m < 24 := by omega
      obtain ⟨a1, a2, a3, a4, a5⟩ := key_at m hm24
      have hkl := word_len (kW m) a1
      have hkb := kP_b m (by omega)
      have hkb1 := kP_b (m + 1) (by omega)
      have hk1 : kP (m + 1) = kP m + wLen (kW m) + 1 := rfl
      have hle : kP m < kP 24 := by have := key_end.1; omega
      have nextw : matchW b i j (kW m) = false → ∀ (r2 x : Nat), x + r2 = kP m + wLen (kW m) → kP m ≤ x → WQ mX10_keyAt 4 sc (ZI sc R) 97 [(2, 183), (0, (m : Int)), (0, (x : Int)), (9, 0)] [] μ := by
        intro hmm r2
        induction r2 with
        | zero =>
          intro x hx hx0
          have hx' : x = kP m + wLen (kW m) := by omega
          refine s_X10_keyAt_97 (cj_char2 (Nat.le_refl _) (by rw [hx']; exact a3) ⟨fun _ => ⟨by omega, ?_⟩, fun z => absurd (by rw [hx']; exact a4) z⟩)
          rintro _ rfl
          refine ⟨by omega, ?_⟩
          rintro _ rfl
          have := ih (m + 1) (by omega) (fun v hv => by
            by_cases q : v = m
            · rw [q]; exact hmm
            · exact hno v (by omega))
          rw [hk1, ← hx'] at this
          exact this
        | succ r2 ih2 =>
          intro x hx hx0
          have e5 := a5 (x - kP m) (by omega)
          rw [show kP m + (x - kP m) = x by omega] at e5
          refine s_X10_keyAt_97 (cj_char2 (Nat.le_refl _) (show ((x : Nat) : Int) < txLen 2 by omega) ⟨fun z => absurd (e5.1.symm.trans z) e5.2, fun _ => ⟨by omega, ?_⟩⟩)
          rintro _ rfl
          exact ih2 (x + 1) (by omega) (by omega)
      have inner : ∀ (r2 t : Nat), t + r2 = wLen (kW m) → i + t ≤ j → (∀ s : Nat, s < t → b ((i + s : Nat) : Int) = wCh (kW m) s) → WQ mX10_keyAt 4 sc (ZI sc R) 15 [(2, 183), (0, (m : Int)), (0, (kP m : Nat)), (0, (t : Int))] [] μ := by
        intro r2
        induction r2 with
        | zero =>
          intro t ht htj hs
          have ht' : t = wLen (kW m) := by omega
          have ec : txAt 2 ((kP m + t : Nat)) = 32 := by rw [ht']; exact a4
          have cc : ((kP m : Nat) : Int) + (t : Int) = ((kP m + t : Nat) : Int) := by omega
          refine s_X10_keyAt_15 ?_
          rw [cc]
          refine ⟨by omega, cj_char2 (Nat.le_refl _) (by rw [ht']; exact a3) ?_⟩
          rw [ec]
          refine ⟨fun _ => ⟨by omega, cj_char2 (Nat.le_refl _) (by rw [ht']; exact a3) ?_⟩, fun z => absurd rfl z⟩
          rw [ec]
          refine ⟨fun z => absurd rfl z, fun _ => ⟨by omega, fun z => ?_, fun z => ?_⟩⟩
          · refine nextw (Bool.eq_false_iff.mpr (fun q => ?_)) (wLen (kW m)) (kP m) (by omega) (Nat.le_refl _)
            have := (matchW_iff.mp q).1
            omega
          · have hmat : matchW b i j (kW m) = true := matchW_iff.mpr ⟨by omega, fun s hs2 => hs s (by omega)⟩
            have e : wordK b i j = (kW m : Nat) := fstF_at hmat (fun v hv hv2 => match_one hv a1 hv2 hmat) 24 0 rfl (Nat.zero_le _) a1
            rw [e, a2] at k
            exact k
        | succ r2 ih2 =>
          intro t ht htj hs
          have e5 := a5 t (by omega)
          have cc : ((kP m : Nat) : Int) + (t : Int) = ((kP m + t : Nat) : Int) := by omega
          have hlt : ((kP m + t : Nat) : Int) < txLen 2 := by omega
          refine s_X10_keyAt_15 ?_
          rw [cc]
          refine ⟨by omega, cj_char2 (Nat.le_refl _) hlt ?_⟩
          refine ⟨fun z => absurd (e5.1.symm.trans z) e5.2, fun _ => ⟨by omega, fun z => ⟨by omega, cj_char2 (Nat.le_refl _) hlt ⟨fun _ => ?_, fun y => absurd (e5.1.symm.trans y) e5.2⟩⟩, fun z => ⟨by omega, by omega, by omega, cj_char2 (Nat.le_refl _) hlt ?_⟩⟩⟩
          · refine nextw (Bool.eq_false_iff.mpr (fun q => ?_)) (wLen (kW m)) (kP m) (by omega) (Nat.le_refl _)
            have := (matchW_iff.mp q).1
            omega
          · rw [h6]
            have et : μ 186 ((i : Int) + t) = b ((i + t : Nat) : Int) := by
              have := (hT.2.2 ((i + t : Nat) : Int) (by omega) (by omega)).1
              rw [← this, show ((i + t : Nat) : Int) = (i : Int) + t by omega]
            rw [et, e5.1]
            refine ⟨fun y => ⟨by omega, cj_char2 (Nat.le_refl _) hlt ⟨fun _ => ?_, fun y => absurd (e5.1.symm.trans y) e5.2⟩⟩, fun y => ⟨by omega, ?_⟩⟩
            · refine nextw (Bool.eq_false_iff.mpr (fun q => ?_)) (wLen (kW m)) (kP m) (by omega) (Nat.le_refl _)
              exact y ((matchW_iff.mp q).2 t (by omega))
            · rintro _ rfl
              refine ih2 (t + 1) (by omega) (by omega) (fun s hs2 => ?_)
              by_cases q : s = t
              · rw [q]; exact y
              · exact hs s (by omega)
      refine s_X10_keyAt_4 (cj_len2 (by omega) ⟨fun z => by omega, fun _ => ?_⟩)
      exact inner (wLen (kW m)) 0 (by omega) (by omega) (fun s hs => absurd hs (Nat.not_lt_zero _))
  exact key 24 0 rfl (fun v hv => absurd hv (Nat.not_lt_zero _))

/-! TRAYS: there, sort, size, numbers -/
abbrev TrayT : Type := Int × Int × Int × (Int → Int)
def tThere (T : TrayT) : Int := T.1
def tSort (T : TrayT) : Int := T.2.1
def tN (T : TrayT) : Int := T.2.2.1
def tNum (T : TrayT) : Int → Int := T.2.2.2
def XT (μ : Mem) (y : Int) (T : TrayT) : Prop := μ y 0 = tThere T ∧ (tThere T = 0 ∨ tThere T = 1) ∧ (tThere T = 1 → μ y 1 = tSort T ∧ μ y 2 = tN T ∧ (0 ≤ tSort T ∧ tSort T ≤ 3) ∧ (0 ≤ tN T ∧ tN T ≤ 40) ∧ ∀ i, 0 ≤ i → i < tN T → μ (y + 1) i = tNum T i)
def cutS (sort v : Int) : Int := if sort = 0 then toB (w32 v) else if sort = 1 then toS (w32 v) else if sort = 2 then w32 v else v
theorem cut_min (s m : Int) (hm : 0 ≤ m ∧ m < 100) : cutS s m = m := by
  have H : ∀ n : Nat, n < 100 → toB (w32 n) = n ∧ toS (w32 n) = n ∧ w32 n = n := by decide +kernel
  have h := H m.toNat (by omega)
  rw [show ((m.toNat : Nat) : Int) = m by omega] at h
  unfold cutS
  rw [h.1, h.2.1, h.2.2]
  split <;> (try split) <;> (try split) <;> rfl
theorem XT.same {μ μ' : Mem} {y : Int} {T : TrayT} (h : XT μ y T) (hs : ∀ b j, y ≤ b → b ≤ y + 1 → μ' b j = μ b j) : XT μ' y T := by
  obtain ⟨h1, h2, h3⟩ := h
  refine ⟨by rw [hs _ _ (by omega) (by omega)]; exact h1, h2, fun z => ?_⟩
  obtain ⟨q1, q2, q3, q4, q5⟩ := h3 z
  exact ⟨by rw [hs _ _ (by omega) (by omega)]; exact q1, by rw [hs _ _ (by omega) (by omega)]; exact q2, q3, q4, fun i i0 i1 => by rw [hs _ _ (by omega) (by omega)]; exact q5 i i0 i1⟩
theorem ct_put {d : Nat} {sc : SC} {μ : Mem} {y i v : Int} {T : TrayT} (hy : isK 8 y) (hT : XT μ y T) (ht : tThere T = 1) (hi : 0 ≤ i ∧ i < tN T) : CTl mX8_put d sc [(2, y), (0, i), (1, v)] μ (fun x μ' => x = cutS (tSort T) v ∧ μ' = mup μ (y + 1) i x) := by
  obtain ⟨_, _, h3⟩ := hT
  obtain ⟨q1, q2, q3, q4, q5⟩ := h3 ht
  refine CTl_of mp_X8_put (Nat.le_of_ble_eq_true rfl) ?_
  refine s_X8_put_0 hy ⟨fun z => by omega, fun _ => ⟨fun _ => ?_, fun z => by omega⟩⟩
  rw [q1]
  refine ⟨fun z => ⟨by omega, ?_⟩, fun z => ⟨by omega, ?_⟩, fun z => ⟨by omega, ?_⟩, fun z => ⟨by omega, ?_⟩⟩
  all_goals
    rintro _ rfl
    have e : ∀ x, mup μ (y + 1) i x (y + 1) i = x := fun x => by rw [mup_ap, if_pos ⟨rfl, rfl⟩]
    rw [e]
    refine ⟨by omega, ?_, rfl⟩
    unfold cutS
  · rw [if_pos z]
  · rw [if_neg (by omega), if_pos z]
  · rw [if_neg (by omega), if_neg (by omega), if_pos z]
  · rw [if_neg (by omega), if_neg (by omega), if_neg (by omega)]
theorem ct_lay {d : Nat} {sc : SC} {μ : Mem} {y s n : Int} (hd : 2 ≤ d) (hy : isK 8 y) (hs : 0 ≤ s ∧ s ≤ 3) (hn : 0 ≤ n ∧ n ≤ 40) : CTv mX8_lay d sc [(2, y), (0, s), (0, n)] μ (fun μ' => (∀ b j, b < y ∨ y + 1 < b → μ' b j = μ b j) ∧ XT μ' y (1, s, n, fun _ => 0)) := by
  have hf := kf_8_3 hy
  refine CTv_of mp_X8_lay (Nat.le_of_ble_eq_true rfl) ?_
  refine s_X8_lay_0 hy ?_
  rintro _ rfl _ rfl _ rfl
  refine byV (d' := 1) (by omega) (ct_fillL hf (by decide)) ?_
  intro μ5 h5
  refine ⟨fun b j q => ?_, ?_, Or.inr rfl, fun _ => ⟨?_, ?_, hs, hn, fun i i0 i1 => ?_⟩⟩
  · rw [h5, if_neg (fun z => by omega), mup_ap, if_neg (fun z => by omega), mup_ap, if_neg (fun z => by omega), mup_ap, if_neg (fun z => by omega)]
  · rw [h5, if_neg (fun z => by omega)]; simp [mup_ap, tThere]
  · rw [h5, if_neg (fun z => by omega)]; simp [mup_ap, tSort]
  · rw [h5, if_neg (fun z => by omega)]; simp [mup_ap, tN]
  · simp only [tN] at i1
    rw [h5, if_pos ⟨rfl, i0, by omega⟩]; rfl
/-! minutes of one's hiccups -/
def minsL (Hc : SayL) (p : Int) : List Int := (Hc.filter (fun x => x.2 % 6 == p)).map (·.1)
def mAt (M : List Int) (i : Int) : Int := M[i.toNat]?.getD (-1)
theorem minsL_app (X Y : SayL) (p : Int) : minsL (X ++ Y) p = minsL X p ++ minsL Y p := by simp [minsL]
theorem minsL_len (X : SayL) (p : Int) : ((minsL X p).length : Int) = hicN X p := by
  unfold minsL hicN
  rw [List.length_map, List.countP_eq_length_filter]
theorem mAt_mid (X Y : List Int) (m : Int) : mAt (X ++ m :: Y) X.length = m := by
  unfold mAt
  rw [show ((X.length : Int)).toNat = X.length by omega]
  simp
theorem mAt_out {M : List Int} {i : Int} (h : (M.length : Int) ≤ i) : mAt M i = -1 := by
  unfold mAt
  rw [List.getElem?_eq_none (by omega)]
  rfl
theorem minsL_mem {X : SayL} {p m : Int} (h : m ∈ minsL X p) : ∃ x ∈ X, x.1 = m ∧ x.2 % 6 = p := by
  unfold minsL at h
  obtain ⟨x, hx, rfl⟩ := List.mem_map.mp h
  rw [List.mem_filter] at hx
  exact ⟨x, hx.1, rfl, by simpa using hx.2⟩
/-- what a list's middle has in the rows -/
theorem HR.at {μ : Mem} {a : Int} {X Y : SayL} {x : Int × Int} (h : HR μ a (X ++ x :: Y)) : μ (a + 1) X.length = x.2 ∧ μ (a + 2) X.length = x.1 := by
  have := h.2.1 X.length (by simp)
  simpa using this
def timedP (M : List Int) (n : Int) (f : Int → Int) : Prop := (M.length : Int) = n ∧ ∀ i, 0 ≤ i → i < n → mAt M i = f i
theorem ct_isTimed {d : Nat} {sc : SC} {μ : Mem} {a p y : Int} {Hc : SayL} {T : TrayT} (ha : isK 0 a) (hy : isK 8 y) (hp : 0 ≤ p ∧ p < 6) (hH : HR μ a Hc) (hq : ∀ x ∈ Hc, 0 ≤ x.2) (hl : Hc.length ≤ 512) (hT : XT μ y T) (ht : tThere T = 1) :
    CTi mX0_isTimed d sc [(2, a), (0, p), (2, y)] μ (fun x μ' => (x = 1 ↔ timedP (minsL Hc p) (tN T) (tNum T)) ∧ (x = 0 ∨ x = 1) ∧ μ' = μ) := by
  obtain ⟨_, _, h3⟩ := hT
  obtain ⟨q1, q2, q3, q4, q5⟩ := h3 ht
  have hcnt : μ (a + 3) p = ((minsL Hc p).length : Int) := by rw [hH.2.2 p hp.1 hp.2, minsL_len]; rfl
  refine CTi_of mp_X0_isTimed (Nat.le_of_ble_eq_true rfl) ?_
  refine s_X0_isTimed_0 ha hy ?_
  rw [hcnt, q2]
  refine ⟨hp, fun heq => ?_, fun hne => ⟨⟨fun z => absurd z (by decide), fun z => absurd z.1 hne⟩, Or.inl rfl, rfl⟩⟩
  have key : ∀ (r : SayL) (pre : SayL) (i k : Int), pre ++ r = Hc → i = (minsL pre p).length → k = pre.length → (∀ j, 0 ≤ j → j < i → mAt (minsL Hc p) j = tNum T j) →
      WQ mX0_isTimed d sc (ZI sc (fun x μ' => (x = 1 ↔ timedP (minsL Hc p) (tN T) (tNum T)) ∧ (x = 0 ∨ x = 1) ∧ μ' = μ)) 20 [(2, a), (0, p), (2, y), (0, i), (0, k)] [] μ := by
    intro r
    induction r with
    | nil =>
      intro pre i k hpr hi hk hj
      rw [List.append_nil] at hpr
      have hfin : timedP (minsL Hc p) (tN T) (tNum T) := ⟨heq, fun j j0 j1 => hj j j0 (by rw [hi, hpr]; omega)⟩
      refine s_X0_isTimed_20 ha hy ⟨fun _ => ⟨⟨fun _ => hfin, fun _ => rfl⟩, Or.inr rfl, rfl⟩, fun z => ?_⟩
      rw [hH.1, ← hpr] at z
      omega
    | cons x r ih =>
      intro pre i k hpr hi hk hj
      have hx : x ∈ Hc := by rw [← hpr]; simp
      have hat := HR.at (by rw [hpr]; exact hH : HR μ a (pre ++ x :: r))
      rw [← hk] at hat
      have hlen : (Hc.length : Int) = pre.length + (r.length + 1) := by rw [← hpr]; simp
      have hMe : minsL Hc p = minsL pre p ++ minsL (x :: r) p := by rw [← hpr, minsL_app]
      refine s_X0_isTimed_20 ha hy ⟨fun z => by rw [hH.1] at z; omega, fun _ => ?_⟩
      rw [q2]
      refine ⟨fun z => ⟨⟨fun _ => ⟨heq, fun j j0 j1 => hj j j0 (by omega)⟩, fun _ => rfl⟩, Or.inr rfl, rfl⟩, fun hin => ⟨by omega, by rw [hat.1]; exact hq x hx, ?_, ?_⟩⟩
      · rw [hat.1]
        intro hm
        refine ⟨by omega, ?_⟩
        rintro _ rfl
        refine ih (pre ++ [x]) _ _ (by rw [← hpr]; simp) ?_ (by rw [hk]; simp) hj
        rw [hi, minsL_app, show minsL [x] p = [] by simp [minsL, hm], List.append_nil]
      · rw [hat.1, hat.2]
        intro hm
        have hMi : mAt (minsL Hc p) i = x.1 := by
          rw [hMe, show minsL (x :: r) p = x.1 :: minsL r p by simp [minsL, hm], hi]
          exact mAt_mid _ _ _
        refine ⟨by omega, by omega, ?_⟩
        rw [q5 i (by omega) hin]
        refine ⟨fun he => ⟨by omega, ?_⟩, fun hne => ⟨⟨fun z => absurd z (by decide), fun z => absurd (z.2 i (by omega) hin) (by rw [hMi]; exact hne)⟩, Or.inl rfl, rfl⟩⟩
        rintro _ rfl
        refine ⟨by omega, ?_⟩
        rintro _ rfl
        refine ih (pre ++ [x]) _ _ (by rw [← hpr]; simp) ?_ (by rw [hk]; simp) (fun j j0 j1 => ?_)
        · rw [hi, minsL_app, show minsL [x] p = [x.1] by simp [minsL, hm]]; simp
        · by_cases hji : j = i
          · rw [hji, hMi]; exact he
          · exact hj j j0 (by omega)
  exact key Hc [] 0 0 rfl rfl rfl (fun j j0 j1 => by omega)
/-- a tray into which some minutes are put -/
def listS (T : TrayT) (M : List Int) (n : Int) : TrayT := (1, tSort T, tN T, fun i => if 0 ≤ i ∧ i < n then mAt M i else tNum T i)
theorem ct_listInto {d : Nat} {sc : SC} {μ : Mem} {a p y : Int} {Hc : SayL} {T : TrayT} (hd : 1 ≤ d) (ha : isK 0 a) (hy : isK 8 y) (hH : HR μ a Hc) (hq : ∀ x ∈ Hc, 0 ≤ x.2 ∧ 0 ≤ x.1 ∧ x.1 < 100) (hl : Hc.length ≤ 512) (hT : XT μ y T) (ht : tThere T = 1) :
    CTi mX0_listInto d sc [(2, a), (2, y), (0, p)] μ (fun x μ' => x = min ((minsL Hc p).length : Int) (tN T) ∧ (∀ b j, b < y ∨ y + 1 < b → μ' b j = μ b j) ∧ XT μ' y (listS T (minsL Hc p) x)) := by
  have hay : ∀ b, y ≤ b ∧ b ≤ y + 1 → b < a ∨ a + 11 < b := by
    have h1 := ik_0 ha
    have h2 := ik_8 hy
    omega
  have hn40 := (hT.2.2 ht).2.2.2.1
  refine CTi_of mp_X0_listInto (Nat.le_of_ble_eq_true rfl) ?_
  refine s_X0_listInto_0 ha hy ?_
  have key : ∀ (r : SayL) (pre : SayL) (i k : Int) (μ1 : Mem), pre ++ r = Hc → i = (minsL pre p).length → i ≤ tN T → k = pre.length → (∀ b j, b < y ∨ y + 1 < b → μ1 b j = μ b j) → XT μ1 y (listS T (minsL Hc p) i) →
      WQ mX0_listInto d sc (ZI sc (fun x μ' => x = min ((minsL Hc p).length : Int) (tN T) ∧ (∀ b j, b < y ∨ y + 1 < b → μ' b j = μ b j) ∧ XT μ' y (listS T (minsL Hc p) x))) 5 [(2, a), (2, y), (0, p), (0, i), (0, k)] [] μ1 := by
    intro r
    induction r with
    | nil =>
      intro pre i k μ1 hpr hi hin hk hfr hX
      rw [List.append_nil] at hpr
      have h10 : μ1 a 0 = μ a 0 := hfr _ _ (by have := hay y; have := hay (y + 1); omega)
      refine s_X0_listInto_5 ha hy ⟨fun _ => ⟨?_, hfr, hX⟩, fun z => ?_⟩
      · rw [← hpr]; omega
      · rw [h10, hH.1, ← hpr] at z
        omega
    | cons x r ih =>
      intro pre i k μ1 hpr hi hin hk hfr hX
      have hx : x ∈ Hc := by rw [← hpr]; simp
      have hat := HR.at (by rw [hpr]; exact hH : HR μ a (pre ++ x :: r))
      rw [← hk] at hat
      have hlen : (Hc.length : Int) = pre.length + (r.length + 1) := by rw [← hpr]; simp
      have hMe : minsL Hc p = minsL pre p ++ minsL (x :: r) p := by rw [← hpr, minsL_app]
      have hMl : ((minsL Hc p).length : Int) = i + (minsL (x :: r) p).length := by rw [hMe, List.length_append]; omega
      have fa : ∀ b j, a ≤ b → b ≤ a + 11 → μ1 b j = μ b j := fun b j q1 q2 => hfr b j (by have := hay y; have := hay (y + 1); omega)
      obtain ⟨_, _, x3⟩ := id hX
      obtain ⟨x4, x5, _⟩ := x3 rfl
      have x5 : μ1 y 2 = tN T := x5
      refine s_X0_listInto_5 ha hy ⟨fun z => by rw [fa _ _ (by omega) (by omega), hH.1] at z; omega, fun _ => ?_⟩
      rw [x5, fa (a + 1) _ (by omega) (by omega), fa (a + 2) _ (by omega) (by omega), hat.1, hat.2]
      refine ⟨fun z => ⟨by omega, hfr, hX⟩, fun hin2 => ⟨by omega, (hq x hx).1, fun hm => ⟨by omega, ?_⟩, fun hm => ⟨by omega, ?_⟩⟩⟩
      · rintro _ rfl
        refine ih (pre ++ [x]) _ _ μ1 (by rw [← hpr]; simp) ?_ hin (by rw [hk]; simp) hfr hX
        rw [hi, minsL_app, show minsL [x] p = [] by simp [minsL, hm], List.append_nil]
      · have hMi : mAt (minsL Hc p) i = x.1 := by
          rw [hMe, show minsL (x :: r) p = x.1 :: minsL r p by simp [minsL, hm], hi]
          exact mAt_mid _ _ _
        refine byL (d' := 0) (by omega) (ct_put hy hX rfl ⟨by omega, hin2⟩) ?_
        rintro v μ10 ⟨hv, rfl⟩
        rw [cut_min _ _ (hq x hx).2] at hv
        refine ⟨by omega, ?_⟩
        rintro _ rfl
        refine ⟨by omega, ?_⟩
        rintro _ rfl
        refine ih (pre ++ [x]) _ _ _ (by rw [← hpr]; simp) ?_ (by omega) (by rw [hk]; simp) (fun b j q => ?_) ?_
        · rw [hi, minsL_app, show minsL [x] p = [x.1] by simp [minsL, hm]]; simp
        · rw [mup_ap, if_neg (fun z => by omega)]; exact hfr b j q
        · obtain ⟨w1, w2, w3⟩ := hX
          obtain ⟨w4, w5, w6, w7, w8⟩ := w3 rfl
          refine ⟨?_, w2, fun _ => ⟨?_, ?_, w6, w7, fun j j0 j1 => ?_⟩⟩
          · rw [mup_ap, if_neg (fun z => by omega)]; exact w1
          · rw [mup_ap, if_neg (fun z => by omega)]; exact w4
          · rw [mup_ap, if_neg (fun z => by omega)]; exact w5
          · rw [mup_ap]
            by_cases hji : j = i
            · rw [if_pos ⟨rfl, hji⟩, hv, hji]
              show x.1 = if 0 ≤ i ∧ i < i + 1 then mAt (minsL Hc p) i else tNum T i
              rw [if_pos (by omega), hMi]
            · rw [if_neg (fun z => hji z.2), w8 j j0 j1]
              show (if 0 ≤ j ∧ j < i then mAt (minsL Hc p) j else tNum T j) = if 0 ≤ j ∧ j < i + 1 then mAt (minsL Hc p) j else tNum T j
              by_cases hj2 : j < i
              · rw [if_pos ⟨j0, hj2⟩, if_pos ⟨j0, by omega⟩]
              · rw [if_neg (by omega), if_neg (by omega)]
  refine key Hc [] 0 0 μ rfl rfl hn40.1 rfl (fun _ _ _ => rfl) ?_
  obtain ⟨w1, w2, w3⟩ := hT
  obtain ⟨w4, w5, w6, w7, w8⟩ := w3 ht
  refine ⟨by rw [w1, ht]; rfl, Or.inr rfl, fun _ => ⟨w4, w5, w6, w7, fun j j0 j1 => ?_⟩⟩
  rw [w8 j j0 j1]
  show tNum T j = if 0 ≤ j ∧ j < 0 then mAt (minsL Hc p) j else tNum T j
  rw [if_neg (by omega)]

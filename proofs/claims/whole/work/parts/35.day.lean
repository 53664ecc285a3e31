/-! SPEC 2: the day. What is said and comes ahead of minute 100: (due, pair), in the order in which it is said; a pair is 6 times who and whom -/
abbrev SayL : Type := List (Int × Int)
def hicAt (S : SayL) (t : Int) : List Int := (S.filter (fun q => q.1 == t)).map (·.2)
def muteB (hs : List Int) (p : Int) : Bool := hs.any (fun q => q % 6 == p)
def nams (P : PlanT) (t : Int) (hs : List Int) : List Int := ((List.range (pN P).toNat).filter (fun (k : Nat) => pAt P k == t && !muteB hs (pWho P k))).map (fun (k : Nat) => pWho P k * 6 + pWhom P k)
def anss (ans : Int → Int → Bool) (t : Int) (hs hb : List Int) : List Int := (hb.filter (fun q => !muteB hs (q % 6) && ans q (t - 1))).map (fun q => (q % 6) * 6 + q / 6)
def dueL (gap : Int → Int) (t : Int) (ps : List Int) : SayL := (ps.map (fun q => (t + gap q, q))).filter (fun x => decide (x.1 < 100))
def newS (gap : Int → Int) (ans : Int → Int → Bool) (P : PlanT) (t : Int) (S : SayL) : SayL := dueL gap t (nams P t (hicAt S t) ++ anss ans t (hicAt S t) (hicAt S (t - 1)))
def daySt (gap : Int → Int) (ans : Int → Int → Bool) (P : PlanT) : Nat → SayL
  | 0 => []
  | t + 1 => daySt gap ans P t ++ newS gap ans P t (daySt gap ans P t)
/-- the hiccups ahead of a minute: (minute, pair) -/
def hicL (S : SayL) : Nat → SayL
  | 0 => []
  | t + 1 => hicL S t ++ (hicAt S t).map (fun q => ((t : Int), q))
theorem hicAt_app (S T : SayL) (t : Int) : hicAt (S ++ T) t = hicAt S t ++ hicAt T t := by simp [hicAt]
theorem hicAt_none {S : SayL} {t : Int} (h : ∀ x ∈ S, x.1 ≠ t) : hicAt S t = [] := by
  unfold hicAt
  rw [List.map_eq_nil_iff, List.filter_eq_nil_iff]
  intro x hx
  simpa using h x hx
theorem mem_dueL {gap : Int → Int} {t : Int} {ps : List Int} {x : Int × Int} (h : x ∈ dueL gap t ps) : x.2 ∈ ps ∧ x.1 = t + gap x.2 ∧ x.1 < 100 := by
  unfold dueL at h
  rw [List.mem_filter, List.mem_map] at h
  obtain ⟨⟨q, hq, rfl⟩, h2⟩ := h
  exact ⟨hq, rfl, by simpa using h2⟩
/-- gaps of at least one minute -/
def gapOK (gap : Int → Int) : Prop := ∀ q, 1 ≤ gap q
theorem daySt_due {gap : Int → Int} {ans : Int → Int → Bool} {P : PlanT} (hg : gapOK gap) : ∀ (t : Nat) (x : Int × Int), x ∈ daySt gap ans P t → 1 ≤ x.1 ∧ x.1 < 100 := by
  intro t
  induction t with
  | zero => intro x hx; simp [daySt] at hx
  | succ t ih =>
    intro x hx
    rw [daySt, List.mem_append] at hx
    rcases hx with hx | hx
    · exact ih x hx
    · have := mem_dueL hx
      have := hg x.2
      omega
/-- what a minute had stays what it was -/
theorem hicAt_later {gap : Int → Int} {ans : Int → Int → Bool} {P : PlanT} (hg : gapOK gap) {t : Nat} {u : Int} (hu : u ≤ t) : hicAt (daySt gap ans P (t + 1)) u = hicAt (daySt gap ans P t) u := by
  rw [daySt, hicAt_app, hicAt_none (S := newS gap ans P t (daySt gap ans P t)), List.append_nil]
  intro x hx
  have := mem_dueL hx
  have := hg x.2
  omega
theorem hicL_same {S T : SayL} : ∀ (t : Nat), (∀ u : Int, u < t → hicAt S u = hicAt T u) → hicL S t = hicL T t := by
  intro t
  induction t with
  | zero => intro _; rfl
  | succ t ih =>
    intro h
    rw [hicL, hicL, ih (fun u hu => h u (by omega)), h t (by omega)]
theorem hicL_later {gap : Int → Int} {ans : Int → Int → Bool} {P : PlanT} (hg : gapOK gap) {t : Nat} : hicL (daySt gap ans P (t + 1)) (t + 1) = hicL (daySt gap ans P t) (t + 1) :=
  hicL_same _ (fun u hu => hicAt_later hg (by omega))
/-! how many they can be -/
def wt (t : Int) (x : Int × Int) : Int := 1 + (if t - 1 ≤ x.1 then (99 - x.1) / 2 else 0)
def wts (t : Int) (S : SayL) : Int := (S.map (wt t)).sum
theorem wts_app (t : Int) (S T : SayL) : wts t (S ++ T) = wts t S + wts t T := by simp [wts]
theorem wts_nil (t : Int) : wts t [] = 0 := rfl
theorem wts_cons (t : Int) (x : Int × Int) (S : SayL) : wts t (x :: S) = wt t x + wts t S := by simp [wts]
theorem wts_len {t : Int} : ∀ {S : SayL}, (∀ x ∈ S, x.1 < 100) → (S.length : Int) ≤ wts t S := by
  intro S
  induction S with
  | nil => intro _; simp [wts]
  | cons x S ih =>
    intro h
    rw [wts_cons, List.length_cons]
    have h1 := ih (fun y hy => h y (List.mem_cons_of_mem _ hy))
    have h2 := h x List.mem_cons_self
    have h3 : 1 ≤ wt t x := by unfold wt; split <;> omega
    omega
/-- one minute on, an entry that is answered now is worth no more -/
theorem wts_next {t : Int} : ∀ {S : SayL}, (∀ x ∈ S, x.1 < 100) → wts (t + 1) S + ((100 - t) / 2) * (hicAt S (t - 1)).length = wts t S := by
  intro S
  induction S with
  | nil => intro _; simp [wts, hicAt]
  | cons x S ih =>
    intro h
    have h1 := ih (fun y hy => h y (List.mem_cons_of_mem _ hy))
    have h2 := h x List.mem_cons_self
    rw [wts_cons, wts_cons]
    by_cases hx : x.1 = t - 1
    · have e : hicAt (x :: S) (t - 1) = x.2 :: hicAt S (t - 1) := by simp [hicAt, hx]
      rw [e, List.length_cons]
      have e1 : wt t x = 1 + (100 - t) / 2 := by unfold wt; rw [if_pos (by omega), hx]; congr 2; omega
      have e2 : wt (t + 1) x = 1 := by unfold wt; rw [if_neg (by omega)]; rfl
      rw [e1, e2]
      have : ((100 - t) / 2) * (((hicAt S (t - 1)).length + 1 : Nat) : Int) = ((100 - t) / 2) * ((hicAt S (t - 1)).length : Int) + (100 - t) / 2 := by
        rw [Int.natCast_add, Int.mul_add]; simp
      rw [this]
      omega
    · have e : hicAt (x :: S) (t - 1) = hicAt S (t - 1) := by simp [hicAt, hx]
      rw [e]
      have e1 : wt t x = wt (t + 1) x := by
        unfold wt
        by_cases q : t - 1 ≤ x.1
        · rw [if_pos q, if_pos (by omega)]
        · rw [if_neg q, if_neg (by omega)]
      rw [e1]
      omega
theorem wts_due {gap : Int → Int} (hg : gapOK gap) {t : Int} (ht : 0 ≤ t) (ht2 : t < 100) : ∀ ps : List Int, wts (t + 1) (dueL gap t ps) ≤ ((100 - t) / 2) * ps.length := by
  intro ps
  induction ps with
  | nil => simp [dueL, wts]
  | cons q ps ih =>
    have hq := hg q
    have e : ((100 - t) / 2) * (((q :: ps).length : Nat) : Int) = ((100 - t) / 2) * (ps.length : Int) + (100 - t) / 2 := by
      rw [List.length_cons, Int.natCast_add, Int.mul_add]; simp
    rw [e]
    by_cases h : t + gap q < 100
    · have e2 : dueL gap t (q :: ps) = (t + gap q, q) :: dueL gap t ps := by simp [dueL, h]
      rw [e2, wts_cons]
      have : wt (t + 1) (t + gap q, q) ≤ (100 - t) / 2 := by unfold wt; rw [if_pos (by simp only; omega)]; simp only; omega
      omega
    · have e2 : dueL gap t (q :: ps) = dueL gap t ps := by simp [dueL, h]
      rw [e2]
      omega
/-- how many namings lie ahead of a minute -/
def cntB (P : PlanT) (t : Int) : Nat := ((List.range (pN P).toNat).filter (fun (k : Nat) => decide (0 ≤ pAt P k ∧ pAt P k < t))).length
theorem cntB_le (P : PlanT) (t : Int) : cntB P t ≤ (pN P).toNat := by
  unfold cntB
  exact Nat.le_trans (List.length_filter_le _ _) (by simp)
theorem cntB_next (P : PlanT) (t : Int) (ht : 0 ≤ t) (hs : List Int) : cntB P t + (nams P t hs).length ≤ cntB P (t + 1) := by
  unfold cntB nams
  rw [List.length_map]
  generalize List.range (pN P).toNat = l
  induction l with
  | nil => simp
  | cons k l ih =>
    simp only [List.filter_cons]
    by_cases h1 : 0 ≤ pAt P k ∧ pAt P k < t
    · have h2 : ¬ (pAt P k == t) = true := by simp; omega
      have h3 : 0 ≤ pAt P k ∧ pAt P k < t + 1 := by omega
      simp [h1, h2, h3]
      simp at ih
      omega
    · by_cases h2 : pAt P k = t
      · have h5 : t < t + 1 := by omega
        cases hm : muteB hs (pWho P k)
        · simp [h2, hm, ht, h5]
          simp at ih
          omega
        · simp [h2, hm, ht, h5]
          simp at ih
          omega
      · have h4 : ¬ (pAt P k == t) = true := by simpa using h2
        have h3 : ¬ (0 ≤ pAt P k ∧ pAt P k < t + 1) := by omega
        simp [h1, h3, h4]
        simp at ih
        omega
theorem daySt_wt {gap : Int → Int} {ans : Int → Int → Bool} {P : PlanT} (hg : gapOK gap) : ∀ t : Nat, t ≤ 100 → wts t (daySt gap ans P t) ≤ 50 * (cntB P t : Int) := by
  intro t
  induction t with
  | zero => intro _; simp [daySt, wts]; omega
  | succ t ih =>
    intro ht
    have h1 := ih (by omega)
    have h2 := wts_next (t := (t : Int)) (S := daySt gap ans P t) (fun x hx => (daySt_due hg t x hx).2)
    have h3 := wts_due hg (t := (t : Int)) (by omega) (by omega) (nams P t (hicAt (daySt gap ans P t) t) ++ anss ans t (hicAt (daySt gap ans P t) t) (hicAt (daySt gap ans P t) (t - 1)))
    have h4 := cntB_next P t (by omega) (hicAt (daySt gap ans P t) t)
    have h5 : (anss ans t (hicAt (daySt gap ans P t) t) (hicAt (daySt gap ans P t) (t - 1))).length ≤ (hicAt (daySt gap ans P t) (t - 1)).length := by
      unfold anss
      rw [List.length_map]
      exact List.length_filter_le _ _
    rw [List.length_append] at h3
    rw [daySt, wts_app, Int.natCast_add]
    have e1 : ((t : Int) + ((1 : Nat) : Int)) = (t : Int) + 1 := rfl
    rw [e1] at *
    generalize (nams P t (hicAt (daySt gap ans P t) t)).length = a at *
    generalize (anss ans t (hicAt (daySt gap ans P t) t) (hicAt (daySt gap ans P t) (t - 1))).length = b at *
    generalize (hicAt (daySt gap ans P t) (t - 1)).length = c at *
    have h6 : wts ((t : Int) + 1) (newS gap ans P t (daySt gap ans P t)) ≤ ((100 - (t : Int)) / 2) * ((a + b : Nat) : Int) := h3
    generalize hw : (100 - (t : Int)) / 2 = w at *
    have hw2 : 0 ≤ w ∧ w ≤ 50 := by omega
    have m1 : w * ((a + b : Nat) : Int) = w * (a : Int) + w * (b : Int) := by rw [Int.natCast_add, Int.mul_add]
    have m2 : w * (b : Int) ≤ w * (c : Int) := Int.mul_le_mul_of_nonneg_left (by omega) hw2.1
    have m3 : w * (a : Int) ≤ 50 * (a : Int) := Int.mul_le_mul_of_nonneg_right hw2.2 (by omega)
    have h7 : ((cntB P t : Nat) : Int) + (a : Int) ≤ ((cntB P ((t : Int) + 1) : Nat) : Int) := by omega
    omega
/-- never more than fifty a naming -/
theorem daySt_len {gap : Int → Int} {ans : Int → Int → Bool} {P : PlanT} (hg : gapOK gap) (hn : pN P ≤ 10) {t : Nat} (ht : t ≤ 100) : (daySt gap ans P t).length ≤ 500 := by
  have h1 := wts_len (t := (t : Int)) (S := daySt gap ans P t) (fun x hx => (daySt_due hg t x hx).2)
  have h2 := daySt_wt (ans := ans) (P := P) hg t ht
  have h3 := cntB_le P t
  omega

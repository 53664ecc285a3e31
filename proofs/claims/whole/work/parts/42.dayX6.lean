/-! THE CLASS'S DAY: run -/
theorem wfN_10 (P : PlanT) : True := trivial
theorem ksF_mem {P : PlanT} {m n : Nat} {u k : Int} : k ∈ ksF P m n u ↔ (m : Int) ≤ k ∧ k < (m : Int) + n ∧ pAt P k = u := by
  unfold ksF
  rw [List.mem_map]
  constructor
  · rintro ⟨x, hx, rfl⟩
    rw [List.mem_filter, List.mem_range'_1] at hx
    have := hx.2
    simp at this
    omega
  · rintro ⟨h1, h2, h3⟩
    refine ⟨k.toNat, ?_, by omega⟩
    rw [List.mem_filter, List.mem_range'_1]
    refine ⟨by omega, ?_⟩
    rw [show ((k.toNat : Nat) : Int) = k by omega]
    simpa using h3
theorem hicL_len (S : SayL) : ∀ t : Nat, (hicL S t).length = S.countP (fun x => decide (0 ≤ x.1 ∧ x.1 < (t : Int))) := by
  intro t
  induction t with
  | zero =>
    have : ∀ x ∈ S, ¬ (decide (0 ≤ x.1 ∧ x.1 < ((0 : Nat) : Int))) = true := fun x _ => by simp
    rw [List.countP_eq_zero.mpr this]; rfl
  | succ t ih =>
    rw [hicL, List.length_append, ih, List.length_map]
    unfold hicAt
    rw [List.length_map]
    clear ih
    induction S with
    | nil => rfl
    | cons x S ih =>
      rw [List.countP_cons, List.countP_cons, List.filter_cons, ← ih]
      by_cases h1 : 0 ≤ x.1 ∧ x.1 < (t : Int)
      · have h2 : (x.1 == (t : Int)) = false := by simp; omega
        have h3 : 0 ≤ x.1 ∧ x.1 < ((t + 1 : Nat) : Int) := by omega
        rw [h2, decide_eq_true h1, decide_eq_true h3]
        simp
        omega
      · by_cases h2 : x.1 = (t : Int)
        · have h3 : 0 ≤ x.1 ∧ x.1 < ((t + 1 : Nat) : Int) := by omega
          rw [show (x.1 == (t : Int)) = true by simpa using h2, decide_eq_false h1, decide_eq_true h3]
          simp
          omega
        · have h3 : ¬ (0 ≤ x.1 ∧ x.1 < ((t + 1 : Nat) : Int)) := by omega
          rw [show (x.1 == (t : Int)) = false by simpa using h2, decide_eq_false h1, decide_eq_false h3]
          simp
theorem hicL_le (S : SayL) (t : Nat) : (hicL S t).length ≤ S.length := by rw [hicL_len]; exact List.countP_le_length
def ansL (gap : Int → Int) (ans : Int → Int → Bool) (P : PlanT) : Nat → List Int
  | 0 => []
  | t + 1 => ansL gap ans P t ++ anss ans t (hicAt (daySt gap ans P t) t) (hicAt (daySt gap ans P t) (t - 1))
def spkAt (gap : Int → Int) (ans : Int → Int → Bool) (P : PlanT) (w : Int) (u : Nat) : Bool := spk P (muteB (hicAt (daySt gap ans P u) u)) w (ksF P 0 (pN P).toNat u)
def saidF (gap : Int → Int) (ans : Int → Int → Bool) (P : PlanT) (n : Nat) (k : Int) : Bool := decide (0 ≤ k ∧ k < pN P ∧ pAt P k < n) && !muteB (hicAt (daySt gap ans P n) (pAt P k)) (pWho P k)
theorem daySt_mono (gap : Int → Int) (ans : Int → Int → Bool) (P : PlanT) (t : Nat) : (daySt gap ans P t).length ≤ (daySt gap ans P (t + 1)).length := by
  rw [daySt, List.length_append]; omega
theorem hicAt_len (S : SayL) (t : Int) : (hicAt S t).length ≤ S.length := by
  unfold hicAt
  rw [List.length_map]
  exact List.length_filter_le _ _
theorem ansL_len {gap : Int → Int} {ans : Int → Int → Bool} {P : PlanT} (hg : gapOK gap) (hn : pN P ≤ 10) : ∀ t : Nat, t ≤ 100 → (ansL gap ans P t).length ≤ 500 * t := by
  intro t
  induction t with
  | zero => intro _; simp [ansL]
  | succ t ih =>
    intro ht
    rw [ansL, List.length_append]
    have := ih (by omega)
    have := anss_len ans t (hicAt (daySt gap ans P t) t) (hicAt (daySt gap ans P t) (t - 1))
    have := hicAt_len (daySt gap ans P t) ((t : Int) - 1)
    have := daySt_len (ans := ans) hg hn (t := t) (by omega)
    omega
def wfNp (np : Int) (P : PlanT) : Prop := (0 ≤ pN P ∧ pN P ≤ 10) ∧ ∀ k, 0 ≤ k → k < pN P → (0 ≤ pWho P k ∧ pWho P k < np) ∧ (0 ≤ pWhom P k ∧ pWhom P k < np) ∧ pWho P k ≠ pWhom P k ∧ (0 ≤ pAt P k ∧ pAt P k < 100)
theorem daySt_good {gap : Int → Int} {ans : Int → Int → Bool} {P : PlanT} {np : Int} (hnp : np ≤ 6) (hw : wfNp np P) : ∀ (t : Nat) (x : Int × Int), x ∈ daySt gap ans P t → goodQ np x.2 := by
  intro t
  induction t with
  | zero => intro x hx; simp [daySt] at hx
  | succ t ih =>
    intro x hx
    rw [daySt, List.mem_append] at hx
    rcases hx with hx | hx
    · exact ih x hx
    · have h1 := (mem_dueL hx).1
      rw [List.mem_append] at h1
      rcases h1 with h1 | h1
      · rw [nams_ks] at h1
        unfold sayKs at h1
        obtain ⟨k, hk, he⟩ := List.mem_map.mp h1
        have hk := ksF_mem.mp (List.mem_filter.mp hk).1
        obtain ⟨w1, w2, w3, w4⟩ := hw.2 k (by omega) (by omega)
        have := pair6 (a := pWho P k) (b := pWhom P k) (by omega) (by omega)
        rw [← he]
        unfold goodQ
        omega
      · unfold anss at h1
        obtain ⟨q, hq, he⟩ := List.mem_map.mp h1
        have hq := (List.mem_filter.mp hq).1
        unfold hicAt at hq
        obtain ⟨y, hy, rfl⟩ := List.mem_map.mp hq
        obtain ⟨g1, g2, g3, g4⟩ := ih y (List.mem_filter.mp hy).1
        have := pair6 (a := y.2 % 6) (b := y.2 / 6) (by omega) (by omega)
        rw [← he]
        unfold goodQ
        omega
theorem hicAt_mem {S : SayL} {t q : Int} (h : q ∈ hicAt S t) : ∃ x ∈ S, x.1 = t ∧ x.2 = q := by
  unfold hicAt at h
  obtain ⟨y, hy, rfl⟩ := List.mem_map.mp h
  have := List.mem_filter.mp hy
  exact ⟨y, this.1, by simpa using this.2, rfl⟩
theorem saidF_next {gap : Int → Int} {ans : Int → Int → Bool} {P : PlanT} (hg : gapOK gap) {t : Nat} {k : Int} : saidF gap ans P (t + 1) k = if 0 ≤ k ∧ k < pN P ∧ pAt P k = t then !muteB (hicAt (daySt gap ans P t) t) (pWho P k) else saidF gap ans P t k := by
  unfold saidF
  by_cases h : 0 ≤ k ∧ k < pN P ∧ pAt P k = t
  · rw [if_pos h, h.2.2, hicAt_later hg (Int.le_refl _)]
    have : (0 ≤ k ∧ k < pN P ∧ (t : Int) < ((t + 1 : Nat) : Int)) := ⟨h.1, h.2.1, by omega⟩
    rw [decide_eq_true this, Bool.true_and]
  · rw [if_neg h]
    by_cases h2 : 0 ≤ k ∧ k < pN P ∧ pAt P k < t
    · rw [hicAt_later hg (by omega)]
      rw [decide_eq_true (show 0 ≤ k ∧ k < pN P ∧ pAt P k < ((t + 1 : Nat) : Int) from ⟨h2.1, h2.2.1, by omega⟩), decide_eq_true h2]
    · rw [decide_eq_false h2, decide_eq_false (show ¬ (0 ≤ k ∧ k < pN P ∧ pAt P k < ((t + 1 : Nat) : Int)) from fun z => by omega), Bool.false_and, Bool.false_and]
theorem gapQ_ok (H : HillT) (P : PlanT) : gapOK (gapQ H P) := fun q => (gapS_b _ _ _ _).1
theorem HR.same {μ μ' : Mem} {a : Int} {Hc : List (Int × Int)} (h : HR μ a Hc) (h0 : μ' a 0 = μ a 0) (hs : ∀ b j, a + 1 ≤ b → b ≤ a + 3 → μ' b j = μ b j) : HR μ' a Hc := by
  obtain ⟨q1, q2, q3⟩ := h
  refine ⟨by rw [h0]; exact q1, fun i hi => ?_, fun p p0 p1 => ?_⟩
  · rw [hs _ _ (by omega) (by omega), hs _ _ (by omega) (by omega)]; exact q2 i hi
  · rw [hs _ _ (by omega) (by omega)]; exact q3 p p0 p1
theorem NC.same {μ μ' : Mem} {a : Int} {P : PlanT} (h : NC μ a P) (hs : ∀ b j, a + 6 ≤ b → b ≤ a + 7 → μ' b j = μ b j) : NC μ' a P := by
  intro u u0 u1
  rw [hs (a + 6) _ (by omega) (by omega), show μ' (a + 7) = μ (a + 7) from funext (fun j => hs _ j (by omega) (by omega))]
  exact h u u0 u1

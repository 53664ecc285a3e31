/-! THE TEXT: tokens -/
def isLetB (c : Int) : Bool := decide (97 ≤ c ∧ c ≤ 122)
def isDigB (c : Int) : Bool := decide (48 ≤ c ∧ c ≤ 57)
def isWsB (c : Int) : Bool := decide (c = 10 ∨ c = 32)
def runF (p : Int → Bool) (b : Int → Int) (n : Nat) : Nat → Nat → Nat
  | 0, i => i
  | f + 1, i => if i < n ∧ p (b i) = true then runF p b n f (i + 1) else i
def runE (p : Int → Bool) (b : Int → Int) (n i : Nat) : Nat := runF p b n n i
theorem runF_more {p : Int → Bool} {b : Int → Int} {n : Nat} : ∀ (f f' i : Nat), n ≤ i + f → n ≤ i + f' → runF p b n f i = runF p b n f' i := by
  intro f
  induction f with
  | zero =>
    intro f' i h h'
    cases f' with
    | zero => rfl
    | succ f' => rw [runF, runF, if_neg (fun q => by omega)]
  | succ f ih =>
    intro f' i h h'
    cases f' with
    | zero => rw [runF, runF, if_neg (fun q => by omega)]
    | succ f' =>
      rw [runF, runF]
      by_cases q : i < n ∧ p (b i) = true
      · rw [if_pos q, if_pos q]; exact ih f' (i + 1) (by omega) (by omega)
      · rw [if_neg q, if_neg q]
theorem runE_go {p : Int → Bool} {b : Int → Int} {n i : Nat} (h : i < n) (hp : p (b i) = true) : runE p b n i = runE p b n (i + 1) := by
  unfold runE
  rw [runF_more n (n + 1) i (by omega) (by omega), runF, if_pos ⟨h, hp⟩]
theorem runE_stop {p : Int → Bool} {b : Int → Int} {n i : Nat} (h : ¬ (i < n ∧ p (b i) = true)) : runE p b n i = i := by
  unfold runE
  rw [runF_more n (n + 1) i (by omega) (by omega), runF, if_neg h]
theorem runF_b {p : Int → Bool} {b : Int → Int} {n : Nat} : ∀ (f i : Nat), i ≤ runF p b n f i ∧ (i ≤ n → runF p b n f i ≤ n) ∧ (∀ k, i ≤ k → k < runF p b n f i → p (b k) = true) := by
  intro f
  induction f with
  | zero => intro i; exact ⟨Nat.le_refl _, fun h => h, fun k h0 h1 => by rw [runF] at h1; omega⟩
  | succ f ih =>
    intro i
    rw [runF]
    by_cases q : i < n ∧ p (b i) = true
    · rw [if_pos q]
      have := ih (i + 1)
      refine ⟨by omega, fun _ => this.2.1 (by omega), fun k k0 k1 => ?_⟩
      by_cases e : k = i
      · rw [e]; exact q.2
      · exact this.2.2 k (by omega) k1
    · rw [if_neg q]; exact ⟨Nat.le_refl _, fun h => h, fun k h0 h1 => by omega⟩
theorem runE_b {p : Int → Bool} {b : Int → Int} {n i : Nat} : i ≤ runE p b n i ∧ (i ≤ n → runE p b n i ≤ n) ∧ (∀ k, i ≤ k → k < runE p b n i → p (b k) = true) := runF_b n i
def wordsT : List (List Int) := [[104, 105, 108, 108], [112, 101, 114, 115, 111, 110], [110, 97, 109, 101, 115], [97, 116], [115, 117, 114, 101], [103, 97, 112, 115], [112, 105, 116, 99, 104], [97, 110, 115, 119, 101, 114, 115], [105, 102], [116, 104, 101, 110], [101, 108, 115, 101], [101, 110, 100], [97, 110, 100], [111, 114], [110, 111, 116], [119, 105, 110, 100], [108, 111, 117, 100], [100, 101, 97, 102], [118, 111, 105, 99, 101], [119, 104, 111], [119, 104, 111, 109], [102, 97, 114], [103, 97, 112], [109, 105, 110, 117, 116, 101]]
def wLen (w : Nat) : Nat := (wordsT.getD w []).length
def wCh (w t : Nat) : Int := (wordsT.getD w []).getD t 32
def matN (b : Int → Int) (i w : Nat) : Nat → Bool
  | 0 => true
  | t + 1 => matN b i w t && decide (b ((i + t : Nat) : Int) = wCh w t)
def matchW (b : Int → Int) (i j w : Nat) : Bool := decide (j = i + wLen w) && matN b i w (wLen w)
def fstF (f : Nat → Bool) : Nat → Nat → Int
  | 0, _ => 51
  | r + 1, w => if f w = true then (w : Int) else fstF f r (w + 1)
def wordK (b : Int → Int) (i j : Nat) : Int := fstF (matchW b i j) 24 0
def signK (c : Int) : Int := if c = 59 then 30 else if c = 58 then 31 else if c = 43 then 32 else if c = 45 then 33 else if c = 42 then 34 else if c = 40 then 35 else if c = 41 then 36 else if c = 91 then 37 else if c = 93 then 38 else if c = 61 then 39 else if c = 60 then 40 else if c = 62 then 41 else 53
def numF (b : Int → Int) (i : Nat) : Nat → Int
  | 0 => 0
  | k + 1 => numF b i k * 10 + (b ((i + k : Nat) : Int) - 48)
def tkP (b : Int → Int) (n pos : Nat) : Nat := runE isWsB b n pos
def tkK (b : Int → Int) (n pos : Nat) : Int := if n ≤ tkP b n pos then 52 else if isLetB (b (tkP b n pos)) = true then wordK b (tkP b n pos) (runE isLetB b n (tkP b n pos)) else if isDigB (b (tkP b n pos)) = true then (if 3 < runE isDigB b n (tkP b n pos) - tkP b n pos then 53 else 50) else signK (b (tkP b n pos))
def tkE (b : Int → Int) (n pos : Nat) : Nat := if n ≤ tkP b n pos then n else if isLetB (b (tkP b n pos)) = true then runE isLetB b n (tkP b n pos) else if isDigB (b (tkP b n pos)) = true then runE isDigB b n (tkP b n pos) else tkP b n pos + 1
def tkV (b : Int → Int) (n pos : Nat) : Int := if tkK b n pos = 50 then numF b (tkP b n pos) (runE isDigB b n (tkP b n pos) - tkP b n pos) else 0
def posk (b : Int → Int) (n : Nat) : Nat → Nat
  | 0 => 0
  | k + 1 => tkE b n (posk b n k)
abbrev TxT : Type := (Nat → Int) × (Nat → Int) × (Nat → Int)
def txt (b : Int → Int) (n : Nat) : TxT := (fun k => tkK b n (posk b n k), fun k => (tkP b n (posk b n k) : Nat), fun k => tkV b n (posk b n k))
theorem tkE_b (b : Int → Int) (n pos : Nat) (h : pos ≤ n) : tkE b n pos ≤ n ∧ (tkP b n pos < n → pos < tkE b n pos) := by
  have h1 := runE_b (p := isWsB) (b := b) (n := n) (i := pos)
  have h2 := runE_b (p := isLetB) (b := b) (n := n) (i := tkP b n pos)
  have h3 := runE_b (p := isDigB) (b := b) (n := n) (i := tkP b n pos)
  have h4 : runE isWsB b n pos = tkP b n pos := rfl
  rw [h4] at h1
  have h1' := h1.2.1 h
  have h2' := h2.2.1 h1'
  have h3' := h3.2.1 h1'
  unfold tkE
  by_cases q : n ≤ tkP b n pos
  · rw [if_pos q]; exact ⟨Nat.le_refl _, fun z => by omega⟩
  rw [if_neg q]
  by_cases ql : isLetB (b (tkP b n pos)) = true
  · rw [if_pos ql]
    have := runE_go (p := isLetB) (b := b) (n := n) (i := tkP b n pos) (by omega) ql
    have h5 := runE_b (p := isLetB) (b := b) (n := n) (i := tkP b n pos + 1)
    exact ⟨h2', fun _ => by omega⟩
  rw [if_neg ql]
  by_cases qd : isDigB (b (tkP b n pos)) = true
  · rw [if_pos qd]
    have := runE_go (p := isDigB) (b := b) (n := n) (i := tkP b n pos) (by omega) qd
    have h5 := runE_b (p := isDigB) (b := b) (n := n) (i := tkP b n pos + 1)
    exact ⟨h3', fun _ => by omega⟩
  rw [if_neg qd]
  exact ⟨by omega, fun _ => by omega⟩
theorem posk_b (b : Int → Int) (n : Nat) : ∀ k : Nat, posk b n k ≤ n := by
  intro k
  induction k with
  | zero => exact Nat.zero_le _
  | succ k ih => rw [posk]; exact (tkE_b b n _ ih).1
theorem fstF_b (f : Nat → Bool) : ∀ (r w : Nat), fstF f r w = 51 ∨ (∃ v : Nat, w ≤ v ∧ v < w + r ∧ fstF f r w = v) := by
  intro r
  induction r with
  | zero => intro w; exact Or.inl rfl
  | succ r ih =>
    intro w
    rw [fstF]
    by_cases q : f w = true
    · rw [if_pos q]; exact Or.inr ⟨w, Nat.le_refl _, by omega, rfl⟩
    · rw [if_neg q]
      rcases ih (w + 1) with h | ⟨v, v0, v1, h⟩
      · exact Or.inl h
      · exact Or.inr ⟨v, by omega, by omega, h⟩
theorem wordK_b (b : Int → Int) (i j : Nat) : wordK b i j = 51 ∨ (0 ≤ wordK b i j ∧ wordK b i j < 24) := by
  rcases fstF_b (matchW b i j) 24 0 with h | ⟨v, v0, v1, h⟩
  · exact Or.inl h
  · have h' : wordK b i j = v := h
    exact Or.inr ⟨by omega, by omega⟩
theorem signK_b (c : Int) : 30 ≤ signK c ∧ signK c ≤ 53 ∧ signK c ≠ 50 ∧ signK c ≠ 51 ∧ signK c ≠ 52 := by
  unfold signK
  repeat' split
  all_goals decide
theorem numF_b {b : Int → Int} {i : Nat} : ∀ (k : Nat), (∀ t, i ≤ t → t < i + k → isDigB (b t) = true) → 0 ≤ numF b i k ∧ (numF b i k) < 10 ^ k := by
  intro k
  induction k with
  | zero => intro _; exact ⟨Int.le_refl _, (by decide : (0 : Int) < 10 ^ 0)⟩
  | succ k ih =>
    intro h
    have h1 := ih (fun t t0 t1 => h t t0 (by omega))
    have h2 := of_decide_eq_true (h (i + k) (by omega) (by omega))
    rw [numF, Int.pow_succ]
    omega
/-- what is known of the tokens of a text -/
theorem tkK_end (b : Int → Int) (n pos : Nat) : tkK b n pos = 52 ↔ n ≤ tkP b n pos := by
  unfold tkK
  by_cases q : n ≤ tkP b n pos
  · rw [if_pos q]; exact ⟨fun _ => q, fun _ => rfl⟩
  rw [if_neg q]
  refine ⟨fun h => ?_, fun h => absurd h q⟩
  by_cases ql : isLetB (b (tkP b n pos)) = true
  · rw [if_pos ql] at h
    have := wordK_b b (tkP b n pos) (runE isLetB b n (tkP b n pos))
    omega
  rw [if_neg ql] at h
  by_cases qd : isDigB (b (tkP b n pos)) = true
  · rw [if_pos qd] at h
    split at h <;> exact absurd h (by decide)
  rw [if_neg qd] at h
  exact absurd h (signK_b _).2.2.2.2
theorem tkK_num (b : Int → Int) (n pos : Nat) (h : tkK b n pos = 50) : tkP b n pos < n ∧ isLetB (b (tkP b n pos)) = false ∧ isDigB (b (tkP b n pos)) = true ∧ runE isDigB b n (tkP b n pos) - tkP b n pos ≤ 3 := by
  unfold tkK at h
  by_cases q : n ≤ tkP b n pos
  · rw [if_pos q] at h; exact absurd h (by decide)
  rw [if_neg q] at h
  by_cases ql : isLetB (b (tkP b n pos)) = true
  · rw [if_pos ql] at h
    have := wordK_b b (tkP b n pos) (runE isLetB b n (tkP b n pos))
    omega
  rw [if_neg ql] at h
  by_cases qd : isDigB (b (tkP b n pos)) = true
  · rw [if_pos qd] at h
    by_cases q3 : 3 < runE isDigB b n (tkP b n pos) - tkP b n pos
    · rw [if_pos q3] at h; exact absurd h (by decide)
    · exact ⟨by omega, Bool.eq_false_iff.mpr ql, qd, by omega⟩
  rw [if_neg qd] at h
  exact absurd h (signK_b _).2.2.1
theorem tkV_b (b : Int → Int) (n pos : Nat) : 0 ≤ tkV b n pos ∧ tkV b n pos ≤ 999 := by
  unfold tkV
  by_cases q : tkK b n pos = 50
  · rw [if_pos q]
    have h := tkK_num b n pos q
    have hr := runE_b (p := isDigB) (b := b) (n := n) (i := tkP b n pos)
    have hn := numF_b (b := b) (i := tkP b n pos) (runE isDigB b n (tkP b n pos) - tkP b n pos) (fun t t0 t1 => hr.2.2 t t0 (by omega))
    have hp : ∀ m : Nat, m ≤ 3 → (10 : Int) ^ m ≤ 1000 := by
      intro m hm
      have : m = 0 ∨ m = 1 ∨ m = 2 ∨ m = 3 := by omega
      rcases this with rfl | rfl | rfl | rfl <;> decide
    have := hp _ h.2.2.2
    omega
  · rw [if_neg q]; decide
/-- the end's token: the first that is an end; there is one -/
theorem txt_end (b : Int → Int) (n : Nat) : ∃ N : Nat, N ≤ n ∧ (txt b n).1 N = 52 ∧ ∀ k, k < N → (txt b n).1 k ≠ 52 := by
  have h : ∀ k : Nat, (∃ N : Nat, N ≤ k ∧ (txt b n).1 N = 52 ∧ ∀ j, j < N → (txt b n).1 j ≠ 52) ∨ ((∀ j, j ≤ k → (txt b n).1 j ≠ 52) ∧ k < posk b n (k + 1)) := by
    intro k
    induction k with
    | zero =>
      by_cases q : (txt b n).1 0 = 52
      · exact Or.inl ⟨0, Nat.le_refl _, q, fun j hj => by omega⟩
      · refine Or.inr ⟨fun j hj => by rw [show j = 0 by omega]; exact q, ?_⟩
        have h1 : ¬ n ≤ tkP b n (posk b n 0) := fun z => q ((tkK_end b n _).mpr z)
        have := (tkE_b b n _ (posk_b b n 0)).2 (by omega)
        rw [posk]; omega
    | succ k ih =>
      rcases ih with ⟨N, n1, n2, n3⟩ | ⟨h1, h2⟩
      · exact Or.inl ⟨N, by omega, n2, n3⟩
      · by_cases q : (txt b n).1 (k + 1) = 52
        · exact Or.inl ⟨k + 1, Nat.le_refl _, q, fun j hj => h1 j (by omega)⟩
        · refine Or.inr ⟨fun j hj => ?_, ?_⟩
          · by_cases e : j = k + 1
            · rw [e]; exact q
            · exact h1 j (by omega)
          · have h3 : ¬ n ≤ tkP b n (posk b n (k + 1)) := fun z => q ((tkK_end b n _).mpr z)
            have := (tkE_b b n _ (posk_b b n (k + 1))).2 (by omega)
            rw [posk]; omega
  rcases h n with h | h
  · exact h
  · have := posk_b b n (n + 1)
    have := h.2
    omega

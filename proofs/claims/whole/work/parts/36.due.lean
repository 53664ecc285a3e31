/-! WHAT IS DUE, hung up under its minute: chains of places -/
def chain (nxt : Int → Int) : List Int → Int → Prop
  | [], i => i = -1
  | x :: l, i => i = x ∧ chain nxt l (nxt x)
/-- places of what is due at a minute, counted from k on -/
def idxF (k : Int) : SayL → Int → List Int
  | [], _ => []
  | x :: S, u => if x.1 = u then k :: idxF (k + 1) S u else idxF (k + 1) S u
theorem idxF_app : ∀ (S T : SayL) (k u : Int), idxF k (S ++ T) u = idxF k S u ++ idxF (k + S.length) T u := by
  intro S
  induction S with
  | nil => intro T k u; simp [idxF]
  | cons x S ih =>
    intro T k u
    have e : k + 1 + (S.length : Int) = k + ((x :: S).length : Int) := by rw [List.length_cons]; omega
    rw [List.cons_append, idxF, idxF, ih, e]
    split <;> simp
theorem idxF_b : ∀ (S : SayL) (k u x : Int), x ∈ idxF k S u → k ≤ x ∧ x < k + S.length := by
  intro S
  induction S with
  | nil => intro k u x h; simp [idxF] at h
  | cons y S ih =>
    intro k u x h
    rw [idxF] at h
    have e : ((y :: S).length : Int) = S.length + 1 := by simp
    split at h
    · rw [List.mem_cons] at h
      rcases h with rfl | h
      · omega
      · have := ih _ _ _ h; omega
    · have := ih _ _ _ h; omega
theorem idxF_lt : ∀ (S : SayL) (k u : Int), (idxF k S u).Pairwise (· < ·) := by
  intro S
  induction S with
  | nil => intro k u; simp [idxF]
  | cons y S ih =>
    intro k u
    rw [idxF]
    split
    · rw [List.pairwise_cons]
      exact ⟨fun x hx => by have := idxF_b _ _ _ _ hx; omega, ih _ _⟩
    · exact ih _ _
/-- a place has one minute -/
theorem idxF_one : ∀ (S : SayL) (k u v x : Int), x ∈ idxF k S u → x ∈ idxF k S v → u = v := by
  intro S
  induction S with
  | nil => intro k u v x h; simp [idxF] at h
  | cons y S ih =>
    intro k u v x h1 h2
    rw [idxF] at h1 h2
    split at h1 <;> split at h2
    · omega
    · rw [List.mem_cons] at h1
      rcases h1 with rfl | h1
      · have := idxF_b _ _ _ _ h2; omega
      · exact ih _ _ _ _ h1 h2
    · rw [List.mem_cons] at h2
      rcases h2 with rfl | h2
      · have := idxF_b _ _ _ _ h1; omega
      · exact ih _ _ _ _ h1 h2
    · exact ih _ _ _ _ h1 h2
/-- what lies at these places -/
theorem idxF_val : ∀ (S : SayL) (k u : Int) (f : Int → Int), (∀ i : Nat, ∀ h : i < S.length, f (k + i) = (S[i]).2) → (idxF k S u).map f = hicAt S u := by
  intro S
  induction S with
  | nil => intro k u f _; rfl
  | cons y S ih =>
    intro k u f h
    have h0 := h 0 (by simp)
    have h1 := ih (k + 1) u f (fun i hi => by
      have := h (i + 1) (by simp; omega)
      rw [show k + ((i + 1 : Nat) : Int) = k + 1 + i by omega] at this
      simpa using this)
    rw [idxF]
    simp at h0
    by_cases hy : y.1 = u
    · rw [if_pos hy, List.map_cons, h1, h0]
      simp [hicAt, hy]
    · rw [if_neg hy, h1]
      simp [hicAt, hy]
theorem chain_congr {nxt nxt' : Int → Int} : ∀ (l : List Int) (i : Int), (∀ x ∈ l, nxt' x = nxt x) → chain nxt l i → chain nxt' l i := by
  intro l
  induction l with
  | nil => intro i _ h; exact h
  | cons x l ih =>
    intro i h hc
    refine ⟨hc.1, ?_⟩
    rw [h x List.mem_cons_self]
    exact ih _ (fun y hy => h y (List.mem_cons_of_mem _ hy)) hc.2
/-- one more at the end -/
theorem chain_add {nxt nxt' : Int → Int} {N : Int} : ∀ (l : List Int) (i z : Int), l.getLast? = some z → l.Pairwise (· < ·) → (∀ x ∈ l, x < N) → nxt' N = -1 → nxt' z = N → (∀ x, x ≠ N → x ≠ z → nxt' x = nxt x) → chain nxt l i → chain nxt' (l ++ [N]) i := by
  intro l
  induction l with
  | nil => intro i z h; simp at h
  | cons x l ih =>
    intro i z hz hp hN h1 h2 h3 hc
    obtain ⟨rfl, hc⟩ := hc
    refine ⟨rfl, ?_⟩
    cases l with
    | nil =>
      simp at hz
      subst hz
      show chain nxt' [N] (nxt' _)
      rw [h2]
      exact ⟨rfl, h1⟩
    | cons y l =>
      rw [List.pairwise_cons] at hp
      have hz2 : (y :: l).getLast? = some z := by simpa [List.getLast?_cons_cons] using hz
      have hzm : z ∈ y :: l := List.mem_of_getLast? hz2
      have hxz := hp.1 z hzm
      have hxN := hN _ (List.mem_cons_self)
      rw [h3 _ (by omega) (by omega)]
      exact ih _ z hz2 hp.2 (fun w hw => hN w (List.mem_cons_of_mem _ hw)) h1 h2 h3 hc
/-- the rows that hold what was said: from a minute on -/
def DueRep (fst lst nxt pr : Int → Int) (S : SayL) (t0 : Int) : Prop :=
  (∀ i : Nat, ∀ h : i < S.length, pr i = (S[i]).2) ∧ ∀ u, t0 ≤ u → u < 100 → chain nxt (idxF 0 S u) (fst u) ∧ ∀ z, (idxF 0 S u).getLast? = some z → lst u = z
theorem DueRep.later {fst lst nxt pr : Int → Int} {S : SayL} {t0 t1 : Int} (h : DueRep fst lst nxt pr S t0) (ht : t0 ≤ t1) : DueRep fst lst nxt pr S t1 := ⟨h.1, fun u hu hu2 => h.2 u (by omega) hu2⟩
theorem DueRep.congr {fst lst nxt pr fst' lst' nxt' pr' : Int → Int} {S : SayL} {t0 : Int} (h : DueRep fst lst nxt pr S t0) (h1 : ∀ u, 0 ≤ u → u < 100 → fst' u = fst u ∧ lst' u = lst u) (h2 : ∀ i : Int, 0 ≤ i → i < S.length → nxt' i = nxt i ∧ pr' i = pr i) (h0 : 0 ≤ t0) : DueRep fst' lst' nxt' pr' S t0 := by
  refine ⟨fun i hi => by rw [(h2 i (by omega) (by omega)).2]; exact h.1 i hi, fun u hu hu2 => ?_⟩
  obtain ⟨q1, q2⟩ := h.2 u hu hu2
  rw [(h1 u (by omega) hu2).1, (h1 u (by omega) hu2).2]
  refine ⟨chain_congr _ _ (fun x hx => ?_) q1, q2⟩
  have := idxF_b _ _ _ _ hx
  exact (h2 x (by omega) (by omega)).1
theorem chain_nil {nxt : Int → Int} {l : List Int} {i : Int} (hl : ∀ x ∈ l, 0 ≤ x) (h : chain nxt l i) : (l = [] ↔ i < 0) ∧ (i < 0 → i = -1) := by
  cases l with
  | nil => simp only [chain] at h; subst h; exact ⟨⟨fun _ => by decide, fun _ => rfl⟩, fun _ => rfl⟩
  | cons x l => have := hl x List.mem_cons_self; have := h.1; exact ⟨⟨fun z => (List.cons_ne_nil _ _ z).elim, fun z => by omega⟩, fun z => by omega⟩
/-- one more is said -/
theorem DueRep.say {fst lst nxt pr fst' lst' nxt' pr' : Int → Int} {S : SayL} {t0 due q N : Int} (h : DueRep fst lst nxt pr S t0) (hN : N = S.length) (hd : t0 ≤ due ∧ due < 100)
    (hpr : ∀ i, 0 ≤ i → i ≤ N → pr' i = if i = N then q else pr i)
    (hf : ∀ u, t0 ≤ u → u < 100 → fst' u = if u = due ∧ fst due < 0 then N else fst u)
    (hl : ∀ u, t0 ≤ u → u < 100 → lst' u = if u = due then N else lst u)
    (hn : ∀ i, 0 ≤ i → i ≤ N → nxt' i = if 0 ≤ fst due ∧ i = lst due then N else if i = N then -1 else nxt i) : DueRep fst' lst' nxt' pr' (S ++ [(due, q)]) t0 := by
  have hpos : ∀ u, ∀ x ∈ idxF 0 S u, 0 ≤ x ∧ x < N := fun u x hx => by have := idxF_b _ _ _ _ hx; omega
  refine ⟨fun i hi => ?_, fun u hu hu2 => ?_⟩
  · rw [List.length_append] at hi
    simp at hi
    rw [hpr i (by omega) (by omega)]
    by_cases hi2 : i < S.length
    · rw [if_neg (by omega), List.getElem_append_left hi2]
      exact h.1 i hi2
    · have : i = S.length := by omega
      subst this
      rw [if_pos hN.symm]
      simp
  · obtain ⟨q1, q2⟩ := h.2 u hu hu2
    have hcn := chain_nil (fun x hx => (hpos u x hx).1) q1
    rw [idxF_app, Int.zero_add, ← hN]
    rw [hf u hu hu2, hl u hu hu2]
    by_cases hud : u = due
    · subst hud
      have e : idxF N [(u, q)] u = [N] := by simp [idxF]
      rw [e]
      refine ⟨?_, fun z hz => by simp at hz; rw [if_pos rfl]; exact hz⟩
      by_cases hfn : fst u < 0
      · rw [if_pos ⟨rfl, hfn⟩, hcn.1.mpr hfn, List.nil_append]
        refine ⟨rfl, ?_⟩
        rw [hn N (by omega) (by omega), if_neg (by omega), if_pos rfl]
        rfl
      · rw [if_neg (fun z => hfn z.2)]
        have hne : idxF 0 S u ≠ [] := fun z => hfn (hcn.1.mp z)
        obtain ⟨z, hz⟩ : ∃ z, (idxF 0 S u).getLast? = some z := by
          cases hx : (idxF 0 S u).getLast? with
          | none => rw [List.getLast?_eq_none_iff] at hx; exact absurd hx hne
          | some z => exact ⟨z, rfl⟩
        have hzl := q2 z hz
        have hzm := hpos u z (List.mem_of_getLast? hz)
        refine chain_add (nxt := fun i => if 0 ≤ i ∧ i ≤ N then nxt i else nxt' i) _ _ z hz (idxF_lt _ _ _) (fun x hx => (hpos u x hx).2) ?_ ?_ (fun x hx1 hx2 => ?_) (chain_congr _ _ (fun x hx => ?_) q1)
        · rw [hn N (by omega) (by omega), if_neg (by omega), if_pos rfl]
        · rw [hn z (by omega) (by omega), if_pos ⟨by omega, hzl.symm⟩]
        · by_cases hr : 0 ≤ x ∧ x ≤ N
          · rw [if_pos hr, hn x hr.1 hr.2, if_neg (fun y => hx2 (y.2.trans hzl)), if_neg hx1]
          · rw [if_neg hr]
        · have := hpos u x hx
          rw [if_pos (by omega)]
    · have e : idxF N [(due, q)] u = [] := by simp [idxF, Ne.symm hud]
      rw [e, List.append_nil, if_neg (fun z => hud z.1), if_neg hud]
      refine ⟨chain_congr _ _ (fun x hx => ?_) q1, q2⟩
      have hxb := hpos u x hx
      rw [hn x (by omega) (by omega), if_neg ?_, if_neg (by omega)]
      rintro ⟨z1, z2⟩
      obtain ⟨p1, p2⟩ := h.2 due hd.1 hd.2
      have hcn2 := chain_nil (fun x hx => (hpos due x hx).1) p1
      have hne : idxF 0 S due ≠ [] := fun z => by have := hcn2.1.mp z; omega
      obtain ⟨z, hz⟩ : ∃ z, (idxF 0 S due).getLast? = some z := by
        cases hx : (idxF 0 S due).getLast? with
        | none => rw [List.getLast?_eq_none_iff] at hx; exact absurd hx hne
        | some z => exact ⟨z, rfl⟩
      have hzl := p2 z hz
      have : x ∈ idxF 0 S due := by rw [z2, hzl]; exact List.mem_of_getLast? hz
      exact hud (idxF_one _ _ _ _ _ hx this)

/-! SPEC 1: plans, hills, the laws' code, far, gap, pitch, answers: functions of numbers, no memory -/
theorem mup_ap (μ : Mem) (a i x b j : Int) : mup μ a i x b j = if b = a ∧ j = i then x else μ b j := rfl
theorem mcp_ap (μ : Mem) (a0 a n b j : Int) : mcp μ a0 a n b j = if b = a ∧ 0 ≤ j ∧ j < n then μ a0 j else μ b j := rfl
/-- namings: how many, who, whom, at, sure; cells; wind -/
abbrev PlanT : Type := Int × (Int → Int) × (Int → Int) × (Int → Int) × (Int → Int) × (Int → Int) × Int
def pN (p : PlanT) : Int := p.1
def pWho (p : PlanT) : Int → Int := p.2.1
def pWhom (p : PlanT) : Int → Int := p.2.2.1
def pAt (p : PlanT) : Int → Int := p.2.2.2.1
def pSure (p : PlanT) : Int → Int := p.2.2.2.2.1
def pCell (p : PlanT) : Int → Int := p.2.2.2.2.2.1
def pWind (p : PlanT) : Int := p.2.2.2.2.2.2
/-- rows, columns, lines, people; loud, deaf, voice; how long each law's code is (0: there is none), its code -/
abbrev HillT : Type := Int × Int × Int × Int × (Int → Int) × (Int → Int) × (Int → Int) × (Int → Int) × (Int → Int → Int)
def hR (h : HillT) : Int := h.1
def hC (h : HillT) : Int := h.2.1
def hLines (h : HillT) : Int := h.2.2.1
def hP (h : HillT) : Int := h.2.2.2.1
def hLoud (h : HillT) : Int → Int := h.2.2.2.2.1
def hDeaf (h : HillT) : Int → Int := h.2.2.2.2.2.1
def hVoice (h : HillT) : Int → Int := h.2.2.2.2.2.2.1
def hLen (h : HillT) : Int → Int := h.2.2.2.2.2.2.2.1
def hCode (h : HillT) : Int → Int → Int := h.2.2.2.2.2.2.2.2
def clamp (lo hi x : Int) : Int := max lo (min hi x)
/-! the code: numbers below 1000; 1015 to 1023 names; 1014 not; 1008 if; 1012 and; 1013 or; 1039 = ; 1040 < ; 1041 > ; 1032 + ; 1033 - ; 1034 * -/
def taken (op : Int) : Int := if op < 1000 ∨ (1015 ≤ op ∧ op ≤ 1023) then 0 else if op = 1014 then 1 else if op = 1008 then 3 else 2
/-- what comes of it: a, b, c from the one that lies deepest on -/
def made (env : Int → Int) (op a b c : Int) : Int :=
  if op < 1000 then op else if 1015 ≤ op ∧ op ≤ 1023 then env (op - 1015)
  else if op = 1014 then 1 - a else if op = 1008 then (if a ≠ 0 then b else c)
  else if op = 1012 then (if a ≠ 0 ∧ b ≠ 0 then 1 else 0) else if op = 1013 then (if a ≠ 0 ∨ b ≠ 0 then 1 else 0)
  else if op = 1039 then (if a = b then 1 else 0) else if op = 1040 then (if a < b then 1 else 0) else if op = 1041 then (if b < a then 1 else 0)
  else if op = 1032 then clamp (-1000000) 1000000 (a + b) else if op = 1033 then clamp (-1000000) 1000000 (a - b) else clamp (-1000000) 1000000 (a * b)
/-- how many values lie there, and which -/
abbrev StkT : Type := Int × (Int → Int)
def evStep (env : Int → Int) (op : Int) (s : StkT) : StkT :=
  (s.1 - taken op + 1, fun j => if j = s.1 - taken op then made env op (s.2 (s.1 - taken op)) (s.2 (s.1 - taken op + 1)) (s.2 (s.1 - taken op + 2)) else s.2 j)
def evN (env : Int → Int) (c : Int → Int) : Nat → StkT
  | 0 => (0, fun _ => 0)
  | k + 1 => evStep env (c k) (evN env c k)
/-- what a law tells -/
def ev (env : Int → Int) (c : Int → Int) (n : Int) : Int := (evN env c n.toNat).2 0
/-- the same with sorts: 1 a truth, 0 a number -/
def tyStep (op : Int) (s : StkT) : StkT :=
  (s.1 - taken op + 1, fun j => if j = s.1 - taken op then (if op = 1014 ∨ op = 1012 ∨ op = 1013 ∨ op = 1039 ∨ op = 1040 ∨ op = 1041 then 1 else 0) else s.2 j)
def tyN (c : Int → Int) : Nat → StkT
  | 0 => (0, fun _ => 0)
  | k + 1 => tyStep (c k) (tyN c k)
def okOp (op : Int) : Prop := (0 ≤ op ∧ op < 1000) ∨ (1015 ≤ op ∧ op ≤ 1023) ∨ op = 1014 ∨ op = 1008 ∨ op = 1012 ∨ op = 1013 ∨ op = 1039 ∨ op = 1040 ∨ op = 1041 ∨ op = 1032 ∨ op = 1033 ∨ op = 1034
def okStep (op : Int) (s : StkT) : Prop := okOp op ∧ taken op ≤ s.1 ∧ s.1 - taken op + 1 ≤ 40 ∧
  ((op = 1014 → s.2 (s.1 - 1) = 1) ∧ (op = 1008 → s.2 (s.1 - 3) = 1 ∧ s.2 (s.1 - 2) = 0 ∧ s.2 (s.1 - 1) = 0) ∧ ((op = 1012 ∨ op = 1013) → s.2 (s.1 - 2) = 1 ∧ s.2 (s.1 - 1) = 1) ∧ ((op = 1039 ∨ op = 1040 ∨ op = 1041 ∨ op = 1032 ∨ op = 1033 ∨ op = 1034) → s.2 (s.1 - 2) = 0 ∧ s.2 (s.1 - 1) = 0))
/-- a code that leaves one value of a sort -/
def wfCode (c : Int → Int) (n : Int) (b : Int) : Prop := (∀ k : Nat, (k : Int) < n → okStep (c k) (tyN c k)) ∧ (tyN c n.toNat).1 = 1 ∧ (tyN c n.toNat).2 0 = b
theorem ty_ev (env : Int → Int) (c : Int → Int) : ∀ k : Nat, (tyN c k).1 = (evN env c k).1 := by
  intro k
  induction k with
  | zero => rfl
  | succ k ih => simp only [tyN, evN, tyStep, evStep, ih]
theorem clamp_b (x : Int) : -1000000 ≤ clamp (-1000000) 1000000 x ∧ clamp (-1000000) 1000000 x ≤ 1000000 := by unfold clamp; omega
/-- values lie in their bounds, truths are 0 or 1 -/
theorem ev_ok {env : Int → Int} (he : ∀ i, -1000000 ≤ env i ∧ env i ≤ 1000000) {c : Int → Int} {n b : Int} (h : wfCode c n b) : ∀ k : Nat, (k : Int) ≤ n → 0 ≤ (evN env c k).1 ∧ (evN env c k).1 ≤ 40 ∧ ∀ j, 0 ≤ j → j < (evN env c k).1 → (-1000000 ≤ (evN env c k).2 j ∧ (evN env c k).2 j ≤ 1000000) ∧ ((tyN c k).2 j = 1 → (evN env c k).2 j = 0 ∨ (evN env c k).2 j = 1) := by
  intro k
  induction k with
  | zero => intro _; exact ⟨Int.le_refl _, (by decide : (0 : Int) ≤ 40), fun j h0 h1 => by simp only [evN] at h1; omega⟩
  | succ k ih =>
    intro hk
    obtain ⟨i1, i2, i3⟩ := ih (by omega)
    obtain ⟨o1, o2, o3, o4⟩ := h.1 k (by omega)
    have ht := ty_ev env c k
    have e1 : (evN env c (k + 1)).1 = (evN env c k).1 - taken (c k) + 1 := rfl
    have e2 : (tyN c (k + 1)).2 = fun j => if j = (tyN c k).1 - taken (c k) then (if c k = 1014 ∨ c k = 1012 ∨ c k = 1013 ∨ c k = 1039 ∨ c k = 1040 ∨ c k = 1041 then 1 else 0) else (tyN c k).2 j := rfl
    have e3 : (evN env c (k + 1)).2 = fun j => if j = (evN env c k).1 - taken (c k) then made env (c k) ((evN env c k).2 ((evN env c k).1 - taken (c k))) ((evN env c k).2 ((evN env c k).1 - taken (c k) + 1)) ((evN env c k).2 ((evN env c k).1 - taken (c k) + 2)) else (evN env c k).2 j := rfl
    rw [e1, e2, e3]
    generalize (evN env c k).1 = top at *
    generalize (evN env c k).2 = f at *
    generalize (tyN c k).2 = g at *
    generalize (tyN c k).1 = top2 at *
    subst ht
    generalize c k = op at *
    have hl : 0 ≤ taken op := by unfold taken; split <;> (try split) <;> (try split) <;> omega
    refine ⟨by omega, o3, fun j h0 h1 => ?_⟩
    dsimp only
    by_cases hj : j = top2 - taken op
    · rw [if_pos hj, if_pos hj]
      have henv := he (op - 1015)
      have hc := clamp_b
      rcases o1 with q | q | q | q | q | q | q | q | q | q | q | q
      · have e5 : ∀ a b c, made env op a b c = op := fun a b c => by unfold made; rw [if_pos q.2]
        rw [e5, if_neg (by omega)]; omega
      · have e5 : ∀ a b c, made env op a b c = env (op - 1015) := fun a b c => by unfold made; rw [if_neg (by omega), if_pos q]
        rw [e5, if_neg (by omega)]; omega
      all_goals
        subst q
        have b0 := i3 (top2 - 3)
        have b1 := i3 (top2 - 2)
        have b2 := i3 (top2 - 1)
        simp [taken, made, okOp] at o2 o4 ⊢
        try (have s1 : top2 - 2 + 1 = top2 - 1 := by omega)
        try (have s2 : top2 - 3 + 1 = top2 - 2 := by omega)
        try (have s3 : top2 - 3 + 2 = top2 - 1 := by omega)
        grind
    · rw [if_neg hj, if_neg hj]
      exact i3 j h0 (by unfold taken at *; grind)
/-! who, whom, far .. -/
def farS (cols a b : Int) : Int := iabs (a / cols - b / cols) + iabs (a % cols - b % cols)
def farOf (h : HillT) (p : PlanT) (who whom : Int) : Int := farS (hC h) (pCell p who) (pCell p whom)
/-- wind, loud, deaf, voice, who, whom, far, gap, minute -/
def envS (h : HillT) (p : PlanT) (who whom gap minute : Int) : Int → Int := fun i =>
  if i = 0 then pWind p else if i = 1 then hLoud h who else if i = 2 then hDeaf h whom else if i = 3 then hVoice h who else if i = 4 then who else if i = 5 then whom else if i = 6 then farOf h p who whom else if i = 7 then gap else minute
def gapS (h : HillT) (p : PlanT) (who whom : Int) : Int := clamp 1 20 (if 0 < hLen h 0 then ev (envS h p who whom 0 0) (hCode h 0) (hLen h 0) else farOf h p who whom + 1)
def pitchS (h : HillT) (p : PlanT) (who whom : Int) : Int := clamp 0 9 (if 0 < hLen h 1 then ev (envS h p who whom 0 0) (hCode h 1) (hLen h 1) else hVoice h who)
def ansS (h : HillT) (p : PlanT) (who whom minute : Int) : Prop := 0 < hLen h 2 ∧ ev (envS h p who whom (gapS h p who whom) minute) (hCode h 2) (hLen h 2) = 1
/-- a hill and a plan that are as they can be -/
def wfP (h : HillT) (p : PlanT) : Prop := (∀ q, 0 ≤ q → q < hP h → 0 ≤ pCell p q ∧ pCell p q < hR h * hC h) ∧ (0 ≤ pWind p ∧ pWind p ≤ 9)
def wfN (h : HillT) (p : PlanT) : Prop := 0 ≤ pN p ∧ ∀ k, 0 ≤ k → k < pN p → (0 ≤ pWho p k ∧ pWho p k < hP h) ∧ (0 ≤ pWhom p k ∧ pWhom p k < hP h) ∧ pWho p k ≠ pWhom p k ∧ (0 ≤ pAt p k ∧ pAt p k < 100) ∧ (0 ≤ pSure p k ∧ pSure p k ≤ 10)
/-- in a law but that of answers gap and minute are not told -/
def wfH (h : HillT) : Prop := (1 ≤ hR h ∧ hR h ≤ 8) ∧ (1 ≤ hC h ∧ hC h ≤ 8) ∧ (0 ≤ hP h ∧ hP h ≤ 6) ∧ (∀ q, 0 ≤ q → q < hP h → (0 ≤ hLoud h q ∧ hLoud h q ≤ 9) ∧ (0 ≤ hDeaf h q ∧ hDeaf h q ≤ 9) ∧ (0 ≤ hVoice h q ∧ hVoice h q ≤ 9)) ∧
  ∀ l, 0 ≤ l → l < 3 → (0 ≤ hLen h l ∧ hLen h l ≤ 900) ∧ (0 < hLen h l → wfCode (hCode h l) (hLen h l) (if l = 2 then 1 else 0)) ∧ (l < 2 → ∀ k, 0 ≤ k → k < hLen h l → hCode h l k ≠ 1022 ∧ hCode h l k ≠ 1023)
theorem gapS_b (h : HillT) (p : PlanT) (who whom : Int) : 1 ≤ gapS h p who whom ∧ gapS h p who whom ≤ 20 := by unfold gapS clamp; omega
theorem pitchS_b (h : HillT) (p : PlanT) (who whom : Int) : 0 ≤ pitchS h p who whom ∧ pitchS h p who whom ≤ 9 := by unfold pitchS clamp; omega

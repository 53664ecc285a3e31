/-! THE TEXT: laws read -/
abbrev ES : Type := Nat × Int × Int × List Int
def eK (e : ES) : Nat := e.1
def eF (e : ES) : Int := e.2.1
def eP (e : ES) : Int := e.2.2.1
def eC (e : ES) : List Int := e.2.2.2
def failE (T : TxT) (why : Int) (e : ES) : ES := if eF e = 0 then (eK e, (if T.1 (eK e) = 53 then 1 else why), T.2.1 (eK e), eC e) else e
def isE (T : TxT) (e : ES) (K : Int) : Bool := decide (eF e = 0 ∧ T.1 (eK e) = K)
def stepE (e : ES) : ES := if eF e = 0 then (eK e + 1, eF e, eP e, eC e) else e
def expE (T : TxT) (K : Int) (e : ES) : ES := if isE T e K = true then stepE e else failE T 2 e
def emitE (op : Int) (e : ES) : ES := if eF e = 0 then (eK e, eF e, eP e, eC e ++ [op]) else e
def repE (c : ES → Bool) (g : ES → ES) : Nat → ES → ES
  | 0, e => e
  | n + 1, e => if c e = true then repE c g n (g e) else e
def termE (T : TxT) (a : ES → ES) (e : ES) : ES := repE (fun e => isE T e 34) (fun e => emitE 1034 (a (stepE e))) 1000 (a e)
def sumE (T : TxT) (a : ES → ES) (e : ES) : ES := repE (fun e => isE T e 32 || isE T e 33) (fun e => emitE (1000 + T.1 (eK e)) (termE T a (stepE e))) 1000 (termE T a e)
def cmpE (T : TxT) (e : ES) : ES := if isE T e 39 || isE T e 40 || isE T e 41 then stepE e else failE T 2 e
def unitB (T : TxT) (a : ES → ES) (e : ES) : ES := if eF (cmpE T (sumE T a e)) = 0 then emitE (1000 + T.1 (eK (sumE T a e))) (sumE T a (cmpE T (sumE T a e))) else cmpE T (sumE T a e)
def bothE (T : TxT) (u : ES → ES) (e : ES) : ES := repE (fun e => isE T e 12) (fun e => emitE 1012 (u (stepE e))) 1000 (u e)
def truthE (T : TxT) (u : ES → ES) (e : ES) : ES := repE (fun e => isE T e 13) (fun e => emitE 1013 (bothE T u (stepE e))) 1000 (bothE T u e)
def sumIf (T : TxT) (a : ES → ES) (e : ES) : ES := if eF e = 0 then sumE T a e else e
def ifE (T : TxT) (a u : ES → ES) (e : ES) : ES := emitE 1008 (expE T 11 (sumIf T a (expE T 10 (sumIf T a (expE T 9 (truthE T u e))))))
def leafE (T : TxT) (mx : Int) (e : ES) : ES := if T.1 (eK e) = 50 then stepE (emitE (T.2.2 (eK e)) e) else if 15 ≤ T.1 (eK e) ∧ T.1 (eK e) ≤ mx then stepE (emitE (1000 + T.1 (eK e)) e) else failE T 2 e
def atom0 (T : TxT) (mx : Int) (e : ES) : ES := if isE T e 35 = true then failE T 4 e else if isE T e 8 = true then failE T 4 e else leafE T mx e
def atomS (T : TxT) (mx : Int) (a u : ES → ES) (e : ES) : ES := if isE T e 35 = true then expE T 36 (sumE T a (stepE e)) else if isE T e 8 = true then ifE T a u (stepE e) else leafE T mx e
def unit0 (T : TxT) (a : ES → ES) (e : ES) : ES := if isE T e 14 = true then failE T 4 e else if isE T e 37 = true then failE T 4 e else unitB T a e
def unitS (T : TxT) (a u : ES → ES) (e : ES) : ES := if isE T e 14 = true then emitE 1014 (u (stepE e)) else if isE T e 37 = true then expE T 38 (truthE T u (stepE e)) else unitB T a e
def lvE (T : TxT) (mx : Int) : Nat → (ES → ES) × (ES → ES)
  | 0 => (atom0 T mx, unit0 T (atom0 T mx))
  | m + 1 => (atomS T mx (lvE T mx m).1 (lvE T mx m).2, unitS T (atomS T mx (lvE T mx m).1 (lvE T mx m).2) (lvE T mx m).2)
/-! what code comes of it -/
def TyL (b h : Int) (l : List Int) : Prop := ∀ (c : Int → Int) (q : Nat), (∀ i : Nat, ∀ hi : i < l.length, c ((q + i : Nat) : Int) = l[i]) → 0 ≤ (tyN c q).1 → (tyN c q).1 + h ≤ 40 →
  (∀ i : Nat, i < l.length → okStep (c ((q + i : Nat) : Int)) (tyN c (q + i))) ∧ (tyN c (q + l.length)).1 = (tyN c q).1 + 1 ∧ (tyN c (q + l.length)).2 (tyN c q).1 = b ∧ ∀ j, j < (tyN c q).1 → (tyN c (q + l.length)).2 j = (tyN c q).2 j
theorem TyL.mono {b h h' : Int} {l : List Int} (hT : TyL b h l) (hh : h ≤ h') : TyL b h' l := fun c q h1 h2 h3 => hT c q h1 h2 (by omega)
theorem TyL.leaf {op : Int} (h : (0 ≤ op ∧ op < 1000) ∨ (1015 ≤ op ∧ op ≤ 1023)) : TyL 0 1 [op] := by
  intro c q h1 h2 h3
  have e := h1 0 (by simp)
  simp only [Nat.add_zero, List.getElem_cons_zero] at e
  have ht : taken op = 0 := by unfold taken; rw [if_pos (by omega)]
  have e2 : tyN c (q + 1) = tyStep (c q) (tyN c q) := rfl
  refine ⟨fun i hi => ?_, ?_, ?_, fun j hj => ?_⟩
  · have : i = 0 := by simp at hi; omega
    subst this
    rw [Nat.add_zero, e]
    refine ⟨by unfold okOp; omega, by omega, by omega, fun z => by omega, fun z => by omega, fun z => by omega, fun z => by omega⟩
  · show (tyN c (q + 1)).1 = _
    rw [e2, e]; unfold tyStep; dsimp only; omega
  · show (tyN c (q + 1)).2 _ = _
    rw [e2, e]; unfold tyStep; dsimp only; rw [if_pos (by omega), if_neg (by omega)]
  · show (tyN c (q + 1)).2 _ = _
    rw [e2, e]; unfold tyStep; dsimp only; rw [if_neg (by omega)]
theorem TyL.un {h : Int} {l : List Int} (hT : TyL 1 h l) : TyL 1 h (l ++ [1014]) := by
  intro c q h1 h2 h3
  have hl : (l ++ [1014]).length = l.length + 1 := by simp
  obtain ⟨a1, a2, a3, a4⟩ := hT c q (fun i hi => by rw [h1 i (by omega), List.getElem_append_left hi]) h2 h3
  have e : c ((q + l.length : Nat) : Int) = 1014 := by rw [h1 l.length (by omega)]; simp
  have e2 : tyN c (q + (l.length + 1)) = tyStep (c ((q + l.length : Nat) : Int)) (tyN c (q + l.length)) := rfl
  have ht : taken 1014 = 1 := by decide
  rw [hl, e2, e]
  refine ⟨fun i hi => ?_, ?_, ?_, fun j hj => ?_⟩
  · by_cases z : i < l.length
    · exact a1 i z
    · rw [show i = l.length by omega, e]
      refine ⟨by unfold okOp; omega, by omega, ?_, fun _ => ?_, fun z => absurd z (by decide), fun z => absurd z (by decide), fun z => absurd z (by decide)⟩
      · have := (a1 (l.length - 1))
        by_cases y : l.length = 0
        · rw [y, Nat.add_zero] at a2; omega
        · have := (a1 (l.length - 1) (by omega)).2.2.1
          have e3 : tyN c (q + l.length) = tyStep (c ((q + (l.length - 1) : Nat) : Int)) (tyN c (q + (l.length - 1))) := by rw [show q + l.length = q + (l.length - 1) + 1 by omega]; rfl
          have e4 : (tyN c (q + l.length)).1 = (tyN c (q + (l.length - 1))).1 - taken (c ((q + (l.length - 1) : Nat) : Int)) + 1 := by rw [e3]; rfl
          omega
      · rw [a2, show (tyN c q).1 + 1 - 1 = (tyN c q).1 by omega]; exact a3
  · unfold tyStep; dsimp only; omega
  · unfold tyStep; dsimp only; rw [if_pos (by omega), if_pos (Or.inl rfl)]
  · unfold tyStep; dsimp only; rw [if_neg (by omega)]; exact a4 j hj
theorem TyL.bin {t b h h1' h2' op : Int} {l m : List Int} (hl : TyL t h1' l) (hm : TyL t h2' m) (hh : 1 ≤ h ∧ h1' ≤ h ∧ 1 + h2' ≤ h) (hop : (t = 1 ∧ b = 1 ∧ (op = 1012 ∨ op = 1013)) ∨ (t = 0 ∧ b = 1 ∧ (op = 1039 ∨ op = 1040 ∨ op = 1041)) ∨ (t = 0 ∧ b = 0 ∧ (op = 1032 ∨ op = 1033 ∨ op = 1034))) : TyL b h (l ++ (m ++ [op])) := by
  intro c q h1 h2 h3
  have hlen : (l ++ (m ++ [op])).length = l.length + (m.length + 1) := by simp
  obtain ⟨a1, a2, a3, a4⟩ := hl c q (fun i hi => by rw [h1 i (by omega), List.getElem_append_left hi]) h2 (by omega)
  obtain ⟨b1, b2, b3, b4⟩ := hm c (q + l.length) (fun i hi => by
    have := h1 (l.length + i) (by omega)
    rw [← Nat.add_assoc] at this
    rw [this, List.getElem_append_right (by omega), List.getElem_append_left (by omega)]
    congr 1; omega) (by omega) (by omega)
  have e : c ((q + l.length + m.length : Nat) : Int) = op := by
    have := h1 (l.length + m.length) (by omega)
    rw [← Nat.add_assoc] at this
    rw [this, List.getElem_append_right (by omega), List.getElem_append_right (by omega)]
    simp
  have e2 : tyN c (q + (l.length + (m.length + 1))) = tyStep (c ((q + l.length + m.length : Nat) : Int)) (tyN c (q + l.length + m.length)) := by rw [show q + (l.length + (m.length + 1)) = q + l.length + m.length + 1 by omega]; rfl
  have ht : taken op = 2 := by unfold taken; rw [if_neg (by omega), if_neg (by omega), if_neg (by omega)]
  rw [hlen, e2, e]
  have b4' : (tyN c (q + l.length + m.length)).2 (tyN c q).1 = t := by rw [b4 _ (by omega)]; exact a3
  have b3' : (tyN c (q + l.length + m.length)).2 ((tyN c q).1 + 1) = t := by rw [← a2]; exact b3
  refine ⟨fun i hi => ?_, ?_, ?_, fun j hj => ?_⟩
  · by_cases z : i < l.length
    · exact a1 i z
    · by_cases z2 : i < l.length + m.length
      · have := b1 (i - l.length) (by omega)
        rw [show q + l.length + (i - l.length) = q + i by omega] at this
        exact this
      · rw [show i = l.length + m.length by omega, ← Nat.add_assoc, e]
        have f1 : (tyN c (q + l.length + m.length)).1 - 2 = (tyN c q).1 := by omega
        have f2 : (tyN c (q + l.length + m.length)).1 - 1 = (tyN c q).1 + 1 := by omega
        refine ⟨by unfold okOp; omega, by omega, by omega, fun z => by omega, fun z => by omega, fun z => ?_, fun z => ?_⟩
        · rw [f1, f2, b4', b3']; omega
        · rw [f1, f2, b4', b3']; omega
  · unfold tyStep; dsimp only; omega
  · unfold tyStep; dsimp only; rw [if_pos (by omega)]
    rcases hop with ⟨_, rfl, rfl | rfl⟩ | ⟨_, rfl, rfl | rfl | rfl⟩ | ⟨_, rfl, rfl | rfl | rfl⟩ <;> decide
  · unfold tyStep; dsimp only; rw [if_neg (by omega), b4 j (by omega)]; exact a4 j hj
theorem TyL.ite {h h1' h2' h3' : Int} {l m r : List Int} (hl : TyL 1 h1' l) (hm : TyL 0 h2' m) (hr : TyL 0 h3' r) (hh : 1 ≤ h ∧ h1' ≤ h ∧ 1 + h2' ≤ h ∧ 2 + h3' ≤ h) : TyL 0 h (l ++ (m ++ (r ++ [1008]))) := by
  intro c q h1 h2 h3
  have hlen : (l ++ (m ++ (r ++ [1008]))).length = l.length + (m.length + (r.length + 1)) := by simp
  obtain ⟨a1, a2, a3, a4⟩ := hl c q (fun i hi => by rw [h1 i (by omega), List.getElem_append_left hi]) h2 (by omega)
  obtain ⟨b1, b2, b3, b4⟩ := hm c (q + l.length) (fun i hi => by
    have := h1 (l.length + i) (by omega)
    rw [← Nat.add_assoc] at this
    rw [this, List.getElem_append_right (by omega), List.getElem_append_left (by omega)]
    congr 1; omega) (by omega) (by omega)
  obtain ⟨c1, c2, c3, c4⟩ := hr c (q + l.length + m.length) (fun i hi => by
    have := h1 (l.length + (m.length + i)) (by omega)
    rw [← Nat.add_assoc, ← Nat.add_assoc] at this
    rw [this, List.getElem_append_right (by omega), List.getElem_append_right (by omega), List.getElem_append_left (by omega)]
    congr 1; omega) (by omega) (by omega)
  have e : c ((q + l.length + m.length + r.length : Nat) : Int) = 1008 := by
    have := h1 (l.length + (m.length + r.length)) (by omega)
    rw [← Nat.add_assoc, ← Nat.add_assoc] at this
    rw [this, List.getElem_append_right (by omega), List.getElem_append_right (by omega), List.getElem_append_right (by omega)]
    simp
  have e2 : tyN c (q + (l.length + (m.length + (r.length + 1)))) = tyStep (c ((q + l.length + m.length + r.length : Nat) : Int)) (tyN c (q + l.length + m.length + r.length)) := by rw [show q + (l.length + (m.length + (r.length + 1))) = q + l.length + m.length + r.length + 1 by omega]; rfl
  have ht : taken 1008 = 3 := by decide
  rw [hlen, e2, e]
  have g1 : (tyN c (q + l.length + m.length + r.length)).2 (tyN c q).1 = 1 := by rw [c4 _ (by omega), b4 _ (by omega)]; exact a3
  have g2 : (tyN c (q + l.length + m.length + r.length)).2 ((tyN c q).1 + 1) = 0 := by rw [c4 _ (by omega), ← a2]; exact b3
  have g3 : (tyN c (q + l.length + m.length + r.length)).2 ((tyN c q).1 + 2) = 0 := by rw [show (tyN c q).1 + 2 = (tyN c (q + l.length + m.length)).1 by omega]; exact c3
  refine ⟨fun i hi => ?_, ?_, ?_, fun j hj => ?_⟩
  · by_cases z : i < l.length
    · exact a1 i z
    · by_cases z2 : i < l.length + m.length
      · have := b1 (i - l.length) (by omega)
        rw [show q + l.length + (i - l.length) = q + i by omega] at this
        exact this
      · by_cases z3 : i < l.length + (m.length + r.length)
        · have := c1 (i - (l.length + m.length)) (by omega)
          rw [show q + l.length + m.length + (i - (l.length + m.length)) = q + i by omega] at this
          exact this
        · rw [show i = l.length + (m.length + r.length) by omega, ← Nat.add_assoc, ← Nat.add_assoc, e]
          have f1 : (tyN c (q + l.length + m.length + r.length)).1 - 3 = (tyN c q).1 := by omega
          have f2 : (tyN c (q + l.length + m.length + r.length)).1 - 2 = (tyN c q).1 + 1 := by omega
          have f3 : (tyN c (q + l.length + m.length + r.length)).1 - 1 = (tyN c q).1 + 2 := by omega
          refine ⟨by unfold okOp; omega, by omega, by omega, fun z => by omega, fun _ => ?_, fun z => by omega, fun z => by omega⟩
          rw [f1, f2, f3, g1, g2, g3]; exact ⟨rfl, rfl, rfl⟩
  · unfold tyStep; dsimp only; omega
  · unfold tyStep; dsimp only; rw [if_pos (by omega), if_neg (by omega)]
  · unfold tyStep; dsimp only; rw [if_neg (by omega), c4 j (by omega), b4 j (by omega)]; exact a4 j hj

/-! THE TEXT: lines read -/
abbrev GS : Type := ES × HillT × PlanT × (Int → Int)
def gE (g : GS) : ES := g.1
def gH (g : GS) : HillT := g.2.1
def gP (g : GS) : PlanT := g.2.2.1
def gO (g : GS) : Int → Int := g.2.2.2
def numE (T : TxT) (lo hi : Int) (e : ES) : Int × ES := if isE T e 50 = true then (if T.2.2 (eK e) < lo ∨ hi < T.2.2 (eK e) then (0, failE T 3 e) else (T.2.2 (eK e), stepE e)) else (0, failE T 2 e)
def setA (f : Int → Int) (i v : Int) : Int → Int := fun k => if k = i then v else f k
def peopleH (H : HillT) (n : Int) : HillT := (hR H, hC H, hLines H, n, hLoud H, hDeaf H, hVoice H, hLen H, hCode H)
def linesH (H : HillT) (n : Int) : HillT := (hR H, hC H, n, hP H, hLoud H, hDeaf H, hVoice H, hLen H, hCode H)
def sizeH (H : HillT) (r c : Int) : HillT := (r, c, hLines H, hP H, hLoud H, hDeaf H, hVoice H, hLen H, hCode H)
def flagH (H : HillT) (K p v : Int) : HillT := (hR H, hC H, hLines H, hP H, (if K = 16 then setA (hLoud H) p v else hLoud H), (if K = 17 then setA (hDeaf H) p v else hDeaf H), (if K = 16 ∨ K = 17 then hVoice H else setA (hVoice H) p v), hLen H, hCode H)
def plainH (H : HillT) (p : Int) : HillT := (hR H, hC H, hLines H, hP H, setA (hLoud H) p 0, setA (hDeaf H) p 0, setA (hVoice H) p 0, hLen H, hCode H)
def lenH (H : HillT) (l n : Int) : HillT := (hR H, hC H, hLines H, hP H, hLoud H, hDeaf H, hVoice H, setA (hLen H) l n, hCode H)
def codeH (H : HillT) (c : Int → Int → Int) : HillT := (hR H, hC H, hLines H, hP H, hLoud H, hDeaf H, hVoice H, hLen H, c)
def repA {α : Type} (c : α → Bool) (g : α → α) : Nat → α → α
  | 0, e => e
  | n + 1, e => if c e = true then repA c g n (g e) else e
def flagC (T : TxT) (g : GS) : Bool := isE T (gE g) 16 || (isE T (gE g) 17 || isE T (gE g) 18)
def flagB (T : TxT) (g : GS) : GS := ((numE T 0 9 (stepE (gE g))).2, flagH (gH g) (T.1 (eK (gE g))) (hP (gH g)) (numE T 0 9 (stepE (gE g))).1, gP g, gO g)
def person1 (T : TxT) (g : GS) : GS := ((numE T 0 (hR (gH g) * hC (gH g) - 1) (stepE (gE g))).2, plainH (gH g) (hP (gH g)), moveC (gP g) (hP (gH g)) (numE T 0 (hR (gH g) * hC (gH g) - 1) (stepE (gE g))).1, gO g)
def person2 (T : TxT) (g : GS) : GS := repA (flagC T) (flagB T) 1000 (person1 T g)
def moreP (g : GS) : GS := (gE g, peopleH (gH g) (hP (gH g) + 1), gP g, gO g)
def failG (T : TxT) (w : Int) (g : GS) : GS := (failE T w (gE g), gH g, gP g, gO g)
def personG (T : TxT) (g : GS) : GS := if 6 ≤ hP (gH g) then failG T 4 g else moreP (person2 T g)
def sureB (T : TxT) (x : Int × ES) : Int × ES := numE T 0 10 (stepE x.2)
def sureR (T : TxT) (e : ES) : Int × ES := repA (fun x : Int × ES => isE T x.2 4) (sureB T) 1000 (10, e)
def sameE (T : TxT) (r : Int × ES) : ES := if isE T r.2 50 = true ∧ T.2.2 (eK r.2) = r.1 then failE T 3 r.2 else r.2
def names1 (T : TxT) (g : GS) : Int × ES := numE T 0 (hP (gH g) - 1) (stepE (gE g))
def names2 (T : TxT) (g : GS) : Int × ES := numE T 0 (hP (gH g) - 1) (sameE T (names1 T g))
def names3 (T : TxT) (g : GS) : Int × ES := numE T 0 99 (expE T 3 (names2 T g).2)
def names4 (T : TxT) (g : GS) : Int × ES := sureR T (names3 T g).2
def namesG (T : TxT) (g : GS) : GS := if 8 ≤ pN (gP g) then failG T 4 g else ((names4 T g).2, gH g, addN (gP g) (names1 T g).1 (names2 T g).1 (names3 T g).1 (names4 T g).1, gO g)
def law1 (T : TxT) (g : GS) : ES := expE T 31 (stepE (gE g))
def law2 (T : TxT) (l : Int) (g : GS) : ES := if l = 2 then truthE T (lvE T 23 6).2 (law1 T g) else sumE T (lvE T 21 6).1 (law1 T g)
def lawG (T : TxT) (l : Int) (g : GS) : GS := (law2 T l g, lenH (gH g) l (((eC (law2 T l g)).length : Int) - ((eC (law1 T g)).length : Int)), gP g, setA (gO g) l ((eC (law1 T g)).length : Int))
def windG (T : TxT) (g : GS) : GS := ((numE T 0 9 (stepE (gE g))).2, gH g, windP (gP g) (numE T 0 9 (stepE (gE g))).1, gO g)
def midG (T : TxT) (g : GS) : GS := if T.1 (eK (gE g)) = 1 then personG T g else if T.1 (eK (gE g)) = 2 then namesG T g else if T.1 (eK (gE g)) = 5 then lawG T 0 g else if T.1 (eK (gE g)) = 6 then lawG T 1 g else if T.1 (eK (gE g)) = 7 then lawG T 2 g else if T.1 (eK (gE g)) = 15 then windG T g else failG T 2 g
def closeG (T : TxT) (g : GS) : GS := (expE T 30 (gE g), linesH (gH g) (hLines (gH g) + 1), gP g, gO g)
def lineG (T : TxT) (g : GS) : GS := closeG T (midG T g)
def hill0 : HillT := (1, 1, 0, 0, (fun _ => 0), (fun _ => 0), (fun _ => 0), (fun _ => 0), fun _ _ => 0)
def g0S : GS := ((0, 0, -1, []), hill0, planDef, fun _ => 0)
def first1 (T : TxT) : ES := expE T 0 (gE g0S)
def first2 (T : TxT) : Int × ES := numE T 1 8 (first1 T)
def first3 (T : TxT) : Int × ES := numE T 1 8 (first2 T).2
def firstG (T : TxT) : GS := (expE T 30 (first3 T).2, linesH (sizeH hill0 (first2 T).1 (first3 T).1) 1, planDef, fun _ => 0)
def lineC (T : TxT) (g : GS) : Bool := decide (eF (gE g) = 0 ∧ T.1 (eK (gE g)) ≠ 52)
def textG (T : TxT) : GS := repA (lineC T) (lineG T) 1000 (firstG T)
def codeS (g : GS) (l k : Int) : Int := (eC (gE g)).getD (gO g l + k).toNat 0
def hillOf (g : GS) : HillT := codeH (gH g) (codeS g)
/-! what a line does -/
def OE (N : Nat) (e : ES) : Prop := eK e ≤ N ∧ (eF e = 0 ∨ (1 ≤ eF e ∧ eF e ≤ 4))
def SG (e e' : ES) : Prop := eF e' = 0 → eF e = 0 ∧ eK e ≤ eK e' ∧ eP e' = eP e ∧ eC e' = eC e
theorem SG.refl (e : ES) : SG e e := fun h => ⟨h, Nat.le_refl _, rfl, rfl⟩
theorem SG.tr {e e1 e2 : ES} (h : SG e e1) (h' : SG e1 e2) : SG e e2 := fun z => by
  obtain ⟨a1, a2, a3, a4⟩ := h' z
  obtain ⟨b1, b2, b3, b4⟩ := h a1
  exact ⟨b1, by omega, by rw [a3, b3], by rw [a4, b4]⟩
theorem OE.fail {T : TxT} {N : Nat} {w : Int} {e : ES} (hw : 1 ≤ w ∧ w ≤ 4) (h : OE N e) : OE N (failE T w e) ∧ eF (failE T w e) ≠ 0 := by
  by_cases z : eF e = 0
  · have := fail_f (T := T) hw z
    exact ⟨⟨by have := h.1; omega, Or.inr this.2.1⟩, by omega⟩
  · rw [fail_no z]; exact ⟨h, z⟩
theorem SG.fail {T : TxT} {N : Nat} {w : Int} {e e0 : ES} (hw : 1 ≤ w ∧ w ≤ 4) (h : OE N e) : SG e0 (failE T w e) := fun z => absurd z (h.fail hw).2
theorem OE.exp {T : TxT} {N : Nat} {K : Int} {e : ES} (hT : TH T N) (hK : K ≠ 52) (h : OE N e) : OE N (expE T K e) := by
  unfold expE
  by_cases y : isE T e K = true
  · rw [if_pos y]
    have y2 := isE_t.mp y
    have hlt := hT.lt h.1 (by rw [y2.2]; exact hK)
    have s := step_y y2.1
    exact ⟨by omega, Or.inl s.2.1⟩
  · rw [if_neg y]; exact (h.fail (by decide)).1
theorem SG.exp {T : TxT} {K : Int} {e : ES} : SG e (expE T K e) := fun z => by
  obtain ⟨a1, a2, a3⟩ := exp_ok z
  have s := step_y a1
  rw [a3]
  exact ⟨a1, by omega, s.2.2.1, s.2.2.2⟩
theorem OE.step {T : TxT} {N : Nat} {e : ES} (hT : TH T N) (h : OE N e) (hk : T.1 (eK e) ≠ 52) : OE N (stepE e) := by
  by_cases z : eF e = 0
  · have hlt := hT.lt h.1 hk
    have s := step_y z
    exact ⟨by omega, Or.inl s.2.1⟩
  · rw [step_no z]; exact h
theorem SG.step {e : ES} : SG e (stepE e) := fun z => by
  by_cases y : eF e = 0
  · have s := step_y y
    exact ⟨y, by omega, s.2.2.1, s.2.2.2⟩
  · rw [step_no y] at z; exact absurd z y
theorem num_no {T : TxT} {lo hi : Int} {e : ES} (h : eF e ≠ 0) : numE T lo hi e = (0, e) := by unfold numE; rw [isE_no h, if_neg (by decide), fail_no h]
theorem num_ok {T : TxT} {lo hi : Int} {e : ES} (h : eF (numE T lo hi e).2 = 0) : eF e = 0 ∧ T.1 (eK e) = 50 ∧ (numE T lo hi e) = (T.2.2 (eK e), stepE e) ∧ lo ≤ T.2.2 (eK e) ∧ T.2.2 (eK e) ≤ hi := by
  unfold numE at h ⊢
  by_cases y : isE T e 50 = true
  · have y2 := isE_t.mp y
    rw [if_pos y] at h ⊢
    by_cases z : T.2.2 (eK e) < lo ∨ hi < T.2.2 (eK e)
    · rw [if_pos z] at h
      have := (fail_f (T := T) (w := 3) (by decide) y2.1).2.1
      have h' : eF (failE T 3 e) = 0 := h
      omega
    · rw [if_neg z]; exact ⟨y2.1, y2.2, rfl, by omega, by omega⟩
  · rw [if_neg y] at h
    have h' : eF (failE T 2 e) = 0 := h
    by_cases z : eF e = 0
    · have := (fail_f (T := T) (w := 2) (by decide) z).2.1
      omega
    · rw [fail_no z] at h'; exact absurd h' z
theorem OE.num {T : TxT} {N : Nat} {lo hi : Int} {e : ES} (hT : TH T N) (h : OE N e) : OE N (numE T lo hi e).2 := by
  unfold numE
  by_cases y : isE T e 50 = true
  · rw [if_pos y]
    have y2 := isE_t.mp y
    by_cases z : T.2.2 (eK e) < lo ∨ hi < T.2.2 (eK e)
    · rw [if_pos z]; exact (h.fail (by decide)).1
    · rw [if_neg z]; exact h.step hT (by rw [y2.2]; decide)
  · rw [if_neg y]; exact (h.fail (by decide)).1
theorem SG.num {T : TxT} {lo hi : Int} {e : ES} : SG e (numE T lo hi e).2 := fun z => by
  obtain ⟨a1, a2, a3, _⟩ := num_ok z
  have s := step_y a1
  rw [a3]
  exact ⟨a1, by show eK e ≤ eK (stepE e); omega, s.2.2.1, s.2.2.2⟩
theorem num_b {T : TxT} {lo hi : Int} {e : ES} (h : eF (numE T lo hi e).2 = 0) : lo ≤ (numE T lo hi e).1 ∧ (numE T lo hi e).1 ≤ hi := by
  obtain ⟨a1, a2, a3, a4, a5⟩ := num_ok h
  rw [a3]; exact ⟨a4, a5⟩
/-- of a law's code, where it stands -/
def LawK (C : List Int) (o n : Int) (l : Int) : Prop := ∃ l1 l2 l3, C = l1 ++ (l2 ++ l3) ∧ o = (l1.length : Int) ∧ n = (l2.length : Int) ∧ (0 < n → TyL (if l = 2 then 1 else 0) 40 l2 ∧ (l < 2 → ∀ x ∈ l2, x ≠ 1022 ∧ x ≠ 1023))
theorem LawK.app {C D : List Int} {o n l : Int} (h : LawK C o n l) : LawK (C ++ D) o n l := by
  obtain ⟨l1, l2, l3, h1, h2, h3, h4⟩ := h
  exact ⟨l1, l2, l3 ++ D, by rw [h1]; simp [List.append_assoc], h2, h3, h4⟩
/-- a hill half read -/
def WG (N : Nat) (g : GS) : Prop := (1 ≤ hR (gH g) ∧ hR (gH g) ≤ 8) ∧ (1 ≤ hC (gH g) ∧ hC (gH g) ≤ 8) ∧ (0 ≤ hP (gH g) ∧ hP (gH g) ≤ 6) ∧ (∀ q, 0 ≤ q → q < hP (gH g) → (0 ≤ hLoud (gH g) q ∧ hLoud (gH g) q ≤ 9) ∧ (0 ≤ hDeaf (gH g) q ∧ hDeaf (gH g) q ≤ 9) ∧ (0 ≤ hVoice (gH g) q ∧ hVoice (gH g) q ≤ 9)) ∧
  wfS (gH g) (gP g) ∧ (∀ l, 0 ≤ l → l < 3 → LawK (eC (gE g)) (gO g l) (hLen (gH g) l) l) ∧ (eC (gE g)).length ≤ eK (gE g) ∧ (1 ≤ hLines (gH g) ∧ hLines (gH g) ≤ eK (gE g)) ∧ eP (gE g) = -1
def LN (N : Nat) (g g' : GS) : Prop := OE N (gE g') ∧ (eF (gE g') = 0 → eF (gE g) = 0 ∧ eK (gE g) < eK (gE g') ∧ WG N g')
theorem WG.wf {N : Nat} {g : GS} (h : WG N g) (hN : N ≤ 900) (hk : eK (gE g) ≤ N) : wfH (hillOf g) ∧ wfS (hillOf g) (gP g) := by
  obtain ⟨h1, h2, h3, h4, h5, h6, h7, h8, h9⟩ := h
  refine ⟨⟨h1, h2, h3, h4, fun l l0 l1 => ?_⟩, h5⟩
  obtain ⟨a, b, c, e1, e2, e3, e4⟩ := h6 l l0 l1
  have hl : (eC (gE g)).length = a.length + (b.length + c.length) := by rw [e1]; simp
  have hc : ∀ k : Nat, ∀ hk : k < b.length, hCode (hillOf g) l k = b[k] := by
    intro k hk
    show (eC (gE g)).getD (gO g l + k).toNat 0 = _
    rw [e1, e2, show ((a.length : Int) + (k : Int)).toNat = a.length + k by omega, List.getD_eq_getElem?_getD, List.getElem?_append_right (by omega), show a.length + k - a.length = k by omega, List.getElem?_append_left hk, List.getElem?_eq_getElem hk]; rfl
  have hn : hLen (hillOf g) l = b.length := e3
  refine ⟨by rw [hn]; omega, fun z => ?_, fun z k k0 k1 => ?_⟩
  · rw [hn] at z ⊢
    obtain ⟨t1, t2⟩ := e4 (by rw [e3]; exact z)
    have := t1 (hCode (hillOf g) l) 0 (fun i hi => by rw [Nat.zero_add]; exact hc i hi) (Int.le_refl 0) (by show (0 : Int) + 40 ≤ 40; decide)
    obtain ⟨u1, u2, u3, _⟩ := this
    refine ⟨fun k hk => ?_, ?_, ?_⟩
    · have := u1 k (by omega)
      rw [Nat.zero_add] at this
      exact this
    · rw [Int.toNat_natCast, ← Nat.zero_add b.length]; exact u2
    · rw [Int.toNat_natCast]
      rw [Nat.zero_add] at u3
      exact u3
  · rw [hn] at k1
    have := hc k.toNat (by omega)
    rw [show ((k.toNat : Nat) : Int) = k by omega] at this
    rw [this]
    exact (e4 (by rw [e3]; omega)).2 z _ (List.getElem_mem _)

/-! THE CLASS'S DAY: run, the loop -/
def DayD (μ : Mem) (a : Int) (H : HillT) (P PN : PlanT) (n : Nat) : Prop := HR μ a (hicL (daySt (gapQ H P) (ansQ H P) PN n) n) ∧ (∀ q, 0 ≤ q → q < 6 → μ (a + 4) q = cntA (ansL (gapQ H P) (ansQ H P) PN n) q) ∧ (∀ k, 0 ≤ k → k < 10 → μ (a + 5) k = if saidF (gapQ H P) (ansQ H P) PN n k = true then 1 else 0) ∧ μ a 6 = -1
theorem DR.same {μ μ' : Mem} {a t0 : Int} {S : SayL} (h : DR μ a S t0) (ht : 0 ≤ t0) (h13 : μ' a 13 = μ a 13) (hs : ∀ b j, a + 8 ≤ b → b ≤ a + 11 → μ' b j = μ b j) : DR μ' a S t0 := by
  obtain ⟨q1, q2⟩ := h
  exact ⟨q1.congr (fun u _ _ => ⟨hs _ _ (by omega) (by omega), hs _ _ (by omega) (by omega)⟩) (fun j _ _ => ⟨hs _ _ (by omega) (by omega), hs _ _ (by omega) (by omega)⟩) ht, by rw [h13]; exact q2⟩
theorem HR.mid {μ : Mem} {a : Int} {X Z : SayL} {t : Int} {Y : List Int} (h : HR μ a (X ++ Y.map (fun q => (t, q)) ++ Z)) : ∀ i : Nat, ∀ z : i < Y.length, μ (a + 1) ((X.length : Int) + i) = Y[i] := by
  intro i hi
  have h2 := h.2.1 (X.length + i) (by simp; omega)
  rw [show ((X.length + i : Nat) : Int) = (X.length : Int) + i by omega] at h2
  rw [h2.1, List.getElem_append_left (by simp; omega), List.getElem_append_right (by omega)]
  simp
theorem ct_run {d : Nat} {sc : SC} {μ : Mem} {a L h p tp last w : Int} {H : HillT} {P PN : PlanT} (hd : 6 ≤ d) (ha : isK 0 a) (htp : isK 6 tp) (hX : LRep μ L h p H P) (hN : XN μ tp PN) (hw : wfNp (hP H) PN) (hl : -1 ≤ last ∧ last ≤ 1000) :
    CTi mX0_run d sc [(2, a), (2, tp), (2, L), (0, last), (0, w)] μ (fun x μ' => (∀ b j, b < a ∨ a + 11 < b → b ≠ L + 4 → b ≠ L + 5 → b ≠ L + 6 → b ≠ L + 7 → μ' b j = μ b j) ∧ LRep μ' L h p H P ∧
      ((x = 1 ∧ DayD μ' a H P PN (min (last + 1) 100).toNat ∧ ∀ u : Nat, u < (min (last + 1) 100).toNat → spkAt (gapQ H P) (ansQ H P) PN w u = false) ∨
       (x = 0 ∧ ∃ u : Nat, u < (min (last + 1) 100).toNat ∧ spkAt (gapQ H P) (ansQ H P) PN w u = true ∧ μ' a 6 = u ∧ ∀ v : Nat, v < u → spkAt (gapQ H P) (ansQ H P) PN w v = false))) := by
  have hL := hX.1.1
  have apL := apart03 ha hL
  have ap1 := apart01 ha hX.1.2.1
  have ap6 := apart0 ha hX.1.2.2.1
  have apt := apart0 ha htp
  have hp6 := hX.1.2.2.2.2.2.2.2.1.2.2.1
  have hg := gapQ_ok H P
  have hn10 := hw.1
  generalize hn : (min (last + 1) 100).toNat = n
  have key : ∀ (r t : Nat) (bf : Int) (μ1 : Mem), t + r = n → (∀ b j, b < a ∨ a + 11 < b → b ≠ L + 4 → b ≠ L + 5 → b ≠ L + 6 → b ≠ L + 7 → μ1 b j = μ b j) → μ1 a 7 = tp → μ1 a 8 = L → LRep μ1 L h p H P →
      DR μ1 a (daySt (gapQ H P) (ansQ H P) PN t) t → DayD μ1 a H P PN t → NC μ1 a PN → bf = (hicL (daySt (gapQ H P) (ansQ H P) PN t) (t - 1)).length → (∀ u : Nat, u < t → spkAt (gapQ H P) (ansQ H P) PN w u = false) →
      WQ mX0_run d sc (ZI sc (fun x μ' => (∀ b j, b < a ∨ a + 11 < b → b ≠ L + 4 → b ≠ L + 5 → b ≠ L + 6 → b ≠ L + 7 → μ' b j = μ b j) ∧ LRep μ' L h p H P ∧
      ((x = 1 ∧ DayD μ' a H P PN n ∧ ∀ u : Nat, u < n → spkAt (gapQ H P) (ansQ H P) PN w u = false) ∨
       (x = 0 ∧ ∃ u : Nat, u < n ∧ spkAt (gapQ H P) (ansQ H P) PN w u = true ∧ μ' a 6 = u ∧ ∀ v : Nat, v < u → spkAt (gapQ H P) (ansQ H P) PN w v = false)))) 20 [(2, a), (9, 0), (9, 0), (0, last), (0, w), (0, bf), (0, (t : Int)), (9, 0), (9, 0)] [] μ1 := by
    intro r
    induction r with
    | zero =>
      intro t bf μ1 ht hfr h7 h8 hLR hDR hDD hNC hbf hsp
      rw [Nat.add_zero] at ht
      rw [ht] at hDD hsp ⊢
      exact s_X0_run_20 ha ⟨fun _ => ⟨hfr, hLR, Or.inl ⟨rfl, hDD, hsp⟩⟩, fun _ => ⟨fun _ => ⟨hfr, hLR, Or.inl ⟨rfl, hDD, hsp⟩⟩, fun z => by omega⟩⟩
    | succ r ih =>
      intro t bf μ1 ht hfr h7 h8 hLR hDR hDD hNC hbf hsp
      have ht100 : t + 1 ≤ 100 ∧ (t : Int) ≤ last := by omega
      obtain ⟨hHR, hAB, hSD, h6⟩ := hDD
      generalize hS : daySt (gapQ H P) (ansQ H P) PN t = S at *
      have hS1 : daySt (gapQ H P) (ansQ H P) PN (t + 1) = S ++ newS (gapQ H P) (ansQ H P) PN t S := by rw [daySt, hS]
      have hSl : S.length ≤ 500 := by rw [← hS]; exact daySt_len hg hn10.2 (by omega)
      have hSl1 : (S ++ newS (gapQ H P) (ansQ H P) PN t S).length ≤ 500 := by rw [← hS1]; exact daySt_len hg hn10.2 (by omega)
      have hgood : ∀ x ∈ S, goodQ (hP H) x.2 := by rw [← hS]; exact daySt_good hp6.2 hw t
      have hdue : ∀ x ∈ S, 1 ≤ x.1 ∧ x.1 < 100 := by rw [← hS]; exact daySt_due hg t
      -- what lies between before and from
      have hhb : hicL S t = hicL S (t - 1) ++ (hicAt S ((t : Int) - 1)).map (fun q => ((t : Int) - 1, q)) := by
        cases t with
        | zero =>
          have e : hicAt S (((0 : Nat) : Int) - 1) = [] := hicAt_none (fun x hx => by have := hdue x hx; omega)
          rw [e]; rfl
        | succ t =>
          rw [hicL, show (((t + 1 : Nat) : Int) - 1) = (t : Int) by omega]; rfl
      have hfrom : μ1 a 0 = bf + (hicAt S ((t : Int) - 1)).length := by
        rw [hHR.1, hhb, hbf, List.length_append, List.length_map]; omega
      have hlater : hicL (daySt (gapQ H P) (ansQ H P) PN (t + 1)) (t + 1) = hicL S t ++ (hicAt S t).map (fun q => ((t : Int), q)) := by rw [hicL_later hg, hS]; rfl
      have hlat0 : hicL (daySt (gapQ H P) (ansQ H P) PN (t + 1)) (t + 1 - 1) = hicL S t := by
        rw [Nat.add_sub_cancel, ← hS]
        exact hicL_same _ (fun u hu => hicAt_later hg (by omega))
      have hlens : (hicL S t).length + (hicAt S t).length ≤ 500 := by
        have := hicL_le S (t + 1)
        rw [hicL, List.length_append, List.length_map] at this
        omega
      have hspk : spkAt (gapQ H P) (ansQ H P) PN w t = spk PN (muteB (hicAt S t)) w (ksF PN 0 (pN PN).toNat t) := by unfold spkAt; rw [hS]
      have hans : ansL (gapQ H P) (ansQ H P) PN (t + 1) = ansL (gapQ H P) (ansQ H P) PN t ++ anss (ansQ H P) t (hicAt S t) (hicAt S ((t : Int) - 1)) := by rw [ansL, hS]
      have step : CAi mX0_come d sc [(2, a), (0, (t : Int))] μ1 (fun r6 μ7 => CAv mX0_sayNamings d sc [(2, a), (0, (t : Int)), (0, r6), (0, w)] μ7 (fun μ9 => (μ9 a 6 = (-1) → CAv mX0_sayAnswers d sc [(2, a), (0, (t : Int)), (0, r6), (0, bf), (0, μ1 a 0)] μ9 (fun μ12 => (-2147483648 ≤ (t : Int) + 1 ∧ (t : Int) + 1 < 2147483648) ∧ ∀ v14 : Int, v14 = (t : Int) + 1 → WQ mX0_run d sc (ZI sc (fun x μ' => (∀ b j, b < a ∨ a + 11 < b → b ≠ L + 4 → b ≠ L + 5 → b ≠ L + 6 → b ≠ L + 7 → μ' b j = μ b j) ∧ LRep μ' L h p H P ∧
      ((x = 1 ∧ DayD μ' a H P PN n ∧ ∀ u : Nat, u < n → spkAt (gapQ H P) (ansQ H P) PN w u = false) ∨
       (x = 0 ∧ ∃ u : Nat, u < n ∧ spkAt (gapQ H P) (ansQ H P) PN w u = true ∧ μ' a 6 = u ∧ ∀ v : Nat, v < u → spkAt (gapQ H P) (ansQ H P) PN w v = false)))) 20 [(2, a), (9, 0), (9, 0), (0, last), (0, w), (0, μ1 a 0), (0, v14), (9, 0), (9, 0)] [] μ12)) ∧ (μ9 a 6 ≠ (-1) → (∀ b j, b < a ∨ a + 11 < b → b ≠ L + 4 → b ≠ L + 5 → b ≠ L + 6 → b ≠ L + 7 → μ9 b j = μ b j) ∧ LRep μ9 L h p H P ∧
      (((0 : Int) = 1 ∧ DayD μ9 a H P PN n ∧ ∀ u : Nat, u < n → spkAt (gapQ H P) (ansQ H P) PN w u = false) ∨
       ((0 : Int) = 0 ∧ ∃ u : Nat, u < n ∧ spkAt (gapQ H P) (ansQ H P) PN w u = true ∧ μ9 a 6 = u ∧ ∀ v : Nat, v < u → spkAt (gapQ H P) (ansQ H P) PN w v = false))))) := by
        refine byI (d' := 5) (by omega) (ct_come ha ⟨by omega, by omega⟩ hDR hHR (fun x hx => by have := hgood x hx; unfold goodQ at this; omega) (by omega) (by omega)) ?_
        rintro bz μ7 ⟨c1, c2, c3, c4⟩
        have f7 : ∀ b j, b < a ∨ a + 11 < b → μ7 b j = μ1 b j := fun b j q => c4 b j (by omega) (by omega) (by omega) (by omega)
        have L7 : LRep μ7 L h p H P := hLR.same (fun b j q => f7 b j (by have := apL b; have := ap1 b; have := ap6 b; omega))
        have hN7 : XN μ7 tp PN := hN.same (fun b j q1 q2 => by
          have := apt b ⟨q1, by omega⟩
          rw [f7 b j this]
          have e : ∀ i, 4 ≤ i → i ≤ 7 → b ≠ L + i := fun i i0 i1 z => by
            have h1 := ik_3 hL
            have h2 := ik_6 htp
            omega
          exact hfr b j this (e 4 (by decide) (by decide)) (e 5 (by decide) (by decide)) (e 6 (by decide) (by decide)) (e 7 (by decide) (by decide)))
        have D7 : DR μ7 a S t := hDR.same (by omega) (c4 _ _ (by omega) (by omega) (by omega) (by omega)) (fun b j q1 q2 => c4 b j (by omega) (by omega) (by omega) (by omega))
        have NC7 : NC μ7 a PN := hNC.same (fun b j q1 q2 => c4 b j (by omega) (by omega) (by omega) (by omega))
        refine byV (d' := 2) (by omega) (ct_sayNamings (gap := gapQ H P) (bm := muteB (hicAt S t)) (np := hP H) (Nat.le_refl _) ha htp hL (by rw [c4 _ _ (by omega) (by omega) (by omega) (by omega)]; exact h7) (by rw [c4 _ _ (by omega) (by omega) (by omega) (by omega)]; exact h8) ⟨by omega, by omega⟩ hN7 hn10 hp6
          (fun k k0 k1 => by obtain ⟨w1, w2, w3, _⟩ := hw.2 k k0 k1; exact ⟨w1, w2, w3⟩) (NC7 t (by omega) (by omega)) D7 ⟨by omega, by omega⟩ (by omega) c2
          (fun x y x0 x1 y0 y1 hxy => by
            have hpr := pair6 (a := x) (b := y) (by omega) (by omega)
            rw [(L7.2.1 x y x0 x1 y0 y1 hxy).1]; unfold gapQ; rw [hpr.1, hpr.2.1]) (fun q => gapS_b _ _ _ _)) ?_
        rintro μ9 ⟨n1, n2, n3, n4⟩
        have hks : sayKs PN (muteB (hicAt S t)) (ksF PN 0 (pN PN).toNat t) = nams PN t (hicAt S t) := (nams_ks _ _ _).symm
        rw [hks] at n2
        have f9 : ∀ b j, b < a ∨ a + 11 < b → μ9 b j = μ1 b j := fun b j q => by rw [n1 b j (by omega) (by omega) (by omega) (by omega) (by omega) (by omega), f7 b j q]
        have L9 : LRep μ9 L h p H P := hLR.same (fun b j q => f9 b j (by have := apL b; have := ap1 b; have := ap6 b; omega))
        have h76 : μ7 a 6 = -1 := by rw [c4 _ _ (by omega) (by omega) (by omega) (by omega)]; exact h6
        rw [h76] at n4
        refine ⟨fun hs6 => ?_, fun hs6 => ?_⟩
        · have hnsp : spkAt (gapQ H P) (ansQ H P) PN w t = false := by
            rw [hspk]
            cases hb : spk PN (muteB (hicAt S t)) w (ksF PN 0 (pN PN).toNat t) with
            | false => rfl
            | true => rw [hb, if_pos rfl] at n4; omega
          rw [hfrom]
          have HR9 : HR μ9 a (hicL S t ++ (hicAt S t).map (fun q => ((t : Int), q))) := c3.same (n1 _ _ (by omega) (by omega) (by omega) (by omega) (by omega) (by omega)) (fun b j q1 q2 => n1 b j (by omega) (by omega) (by omega) (by omega) (by omega) (by omega))
          have hnew : newS (gapQ H P) (ansQ H P) PN t S = dueL (gapQ H P) t (nams PN t (hicAt S t)) ++ dueL (gapQ H P) t (anss (ansQ H P) t (hicAt S t) (hicAt S ((t : Int) - 1))) := by unfold newS; rw [dueL_app]
          rw [hnew, ← List.append_assoc, List.length_append] at hSl1
          have h94 : ∀ q, 0 ≤ q → q < 6 → μ9 (a + 4) q = cntA (ansL (gapQ H P) (ansQ H P) PN t) q := fun q q0 q1 => by
            rw [n1 _ _ (by omega) (by omega) (by omega) (by omega) (by omega) (by omega), c4 _ _ (by omega) (by omega) (by omega) (by omega)]
            exact hAB q q0 q1
          have hal : (ansL (gapQ H P) (ansQ H P) PN t).length ≤ 50000 := by
            have := ansL_len (ans := ansQ H P) (P := PN) hg hn10.2 t (by omega)
            omega
          have hhl := hicAt_len S ((t : Int) - 1)
          refine byV (d' := 5) (by omega) (ct_sayAnswers (S := S ++ dueL (gapQ H P) t (nams PN t (hicAt S t))) (hs := hicAt S t) (hb := hicAt S ((t : Int) - 1)) (t0 := t) (Nat.le_refl _) ha ?_ ⟨by omega, by omega⟩ ?_ L9 ?_ ?_ ?_ c2 n2 ⟨by omega, by omega⟩ ?_ ?_) ?_
          · rw [n1 _ _ (by omega) (by omega) (by omega) (by omega) (by omega) (by omega), c4 _ _ (by omega) (by omega) (by omega) (by omega)]; exact h8
          · intro hne
            cases t with
            | zero => exact absurd (hicAt_none (fun x hx => by have := hdue x hx; omega)) hne
            | succ t => omega
          · rw [hhb] at HR9
            rw [hbf]
            exact HR9.mid
          · have := hicL_le S t
            rw [hhb, List.length_append, List.length_map] at this
            omega
          · intro q hq
            obtain ⟨x, hx, _, rfl⟩ := hicAt_mem hq
            exact hgood x hx
          · omega
          · intro q q0 q1
            rw [h94 q q0 q1]
            have := List.countP_le_length (p := fun z => z / 6 == q) (l := ansL (gapQ H P) (ansQ H P) PN t)
            unfold cntA
            omega
          rintro μ12 ⟨m1, m2, m3, m4⟩
          have f12 : ∀ b j, b < a ∨ a + 11 < b → b ≠ L + 4 → b ≠ L + 5 → b ≠ L + 6 → b ≠ L + 7 → μ12 b j = μ b j := fun b j q q4 q5 q6 q7 => by
            rw [m1 b j (by omega) (by omega) (by omega) (by omega) (by omega) (by omega) q4 q5 q6 q7, f9 b j q]
            exact hfr b j q q4 q5 q6 q7
          have a12 : ∀ b j, (b = a → j ≠ 13) → b ≠ a + 4 → b < a + 8 → a ≤ b → μ12 b j = μ9 b j := fun b j q1 q2 q3 q4 =>
            m1 b j q1 q2 (by omega) (by omega) (by omega) (by omega) (by have := apL (L + 4); omega) (by have := apL (L + 5); omega) (by have := apL (L + 6); omega) (by have := apL (L + 7); omega)
          refine ⟨by omega, ?_⟩
          rintro _ rfl
          rw [List.append_assoc, ← hnew, ← hS1] at m3
          have e1 : (t : Int) + 1 = ((t + 1 : Nat) : Int) := rfl
          have := ih (t + 1) (bf + (hicAt S ((t : Int) - 1)).length) μ12 (by omega) f12 ?_ ?_ m2 ⟨m3.1.later (by omega), m3.2⟩ ⟨?_, ?_, ?_, ?_⟩ ?_ ?_ ?_
          · exact this
          · rw [a12 _ _ (by omega) (by omega) (by omega) (by omega), n1 _ _ (by omega) (by omega) (by omega) (by omega) (by omega) (by omega), c4 _ _ (by omega) (by omega) (by omega) (by omega)]; exact h7
          · rw [a12 _ _ (by omega) (by omega) (by omega) (by omega), n1 _ _ (by omega) (by omega) (by omega) (by omega) (by omega) (by omega), c4 _ _ (by omega) (by omega) (by omega) (by omega)]; exact h8
          · rw [hlater]
            exact HR9.same (a12 _ _ (by omega) (by omega) (by omega) (by omega)) (fun b j q1 q2 => a12 b j (by omega) (by omega) (by omega) (by omega))
          · intro q q0 q1
            rw [m4 q q0 q1, h94 q q0 q1, hans, cntA_app]
          · intro k k0 k1
            rw [a12 _ _ (by omega) (by omega) (by omega) (by omega), n3 k k0 k1, saidF_next hg, hS, c4 _ _ (by omega) (by omega) (by omega) (by omega), hSD k k0 k1]
            by_cases hk : 0 ≤ k ∧ k < pN PN ∧ pAt PN k = t
            · rw [if_pos hk]
              have hkm : k ∈ ksF PN 0 (pN PN).toNat t := ksF_mem.mpr ⟨by omega, by omega, hk.2.2⟩
              have hns : saidF (gapQ H P) (ansQ H P) PN t k = false := by
                unfold saidF
                rw [decide_eq_false (fun z => by omega), Bool.false_and]
              rw [hns]
              cases muteB (hicAt S t) (pWho PN k) <;> simp [hkm]
            · rw [if_neg hk, if_neg (fun z => by have := ksF_mem.mp z.1; omega)]
          · rw [a12 _ _ (by omega) (by omega) (by omega) (by omega)]; exact hs6
          · exact NC7.same (fun b j q1 q2 => by rw [a12 b j (by omega) (by omega) (by omega) (by omega), n1 b j (by omega) (by omega) (by omega) (by omega) (by omega) (by omega)])
          · rw [hlat0, ← hfrom, hHR.1]
          · intro u hu
            by_cases hut : u = t
            · rw [hut]; exact hnsp
            · exact hsp u (by omega)
        · refine ⟨fun b j q q4 q5 q6 q7 => by rw [f9 b j q]; exact hfr b j q q4 q5 q6 q7, L9, Or.inr ⟨rfl, t, by omega, ?_, ?_, hsp⟩⟩
          · rw [hspk]
            cases hb : spk PN (muteB (hicAt S t)) w (ksF PN 0 (pN PN).toNat t) with
            | true => rfl
            | false => rw [hb] at n4; exact absurd n4 hs6
          · cases hb : spk PN (muteB (hicAt S t)) w (ksF PN 0 (pN PN).toNat t) with
            | true => rw [hb, if_pos rfl] at n4; exact n4
            | false => rw [hb] at n4; exact absurd n4 hs6
      refine s_X0_run_20 ha ⟨fun z => by omega, fun _ => ⟨fun z => by omega, fun _ => ?_⟩⟩
      rintro _ rfl
      refine ⟨⟨by omega, by omega⟩, fun _ => step, fun hdu => ⟨⟨by omega, by omega⟩, fun _ => step, fun hna => ⟨fun hle => ⟨⟨by omega, by omega⟩, ?_⟩, fun _ => step⟩⟩⟩
      rintro _ rfl
      have q0 := hDR.1.2 t (Int.le_refl _) (by omega)
      have hid : idxF 0 S t = [] := (chain_nil (fun x hx => by have := idxF_b _ _ _ _ hx; omega) q0.1).1.mpr hdu
      have hA : hicAt S t = [] := by
        have := idxF_val S 0 t (fun i => μ1 (a + 10) i) (fun i hi => by rw [Int.zero_add]; exact hDR.1.1 i hi)
        rw [hid] at this
        exact this.symm
      have hK : ksF PN 0 (pN PN).toNat t = [] := (chain_nil (fun x hx => by have := ksF_b hx; omega) (hNC t (by omega) (by omega))).1.mpr hna
      have hB : hicAt S ((t : Int) - 1) = [] := by
        rw [← List.length_eq_zero_iff]
        omega
      have hnew : newS (gapQ H P) (ansQ H P) PN t S = [] := by
        unfold newS
        rw [nams_ks, hK, hB]
        simp [sayKs, anss, dueL]
      rw [hnew, List.append_nil] at hS1
      have e1 : (t : Int) + 1 = ((t + 1 : Nat) : Int) := rfl
      have := ih (t + 1) (μ1 a 0) μ1 (by omega) hfr h7 h8 hLR (by rw [hS1]; exact ⟨hDR.1.later (by omega), hDR.2⟩) ⟨?_, ?_, ?_, h6⟩ hNC ?_ ?_
      · exact this
      · rw [hlater, hA, List.map_nil, List.append_nil]; exact hHR
      · intro q q0 q1
        rw [hans, hB, hAB q q0 q1]
        simp [anss]
      · intro k k0 k1
        have hneg : ¬ (0 ≤ k ∧ k < pN PN ∧ pAt PN k = t) := by
          intro z
          have : k ∈ ksF PN 0 (pN PN).toNat t := ksF_mem.mpr ⟨by omega, by omega, z.2.2⟩
          rw [hK] at this
          exact absurd this (by simp)
        rw [saidF_next hg, if_neg hneg]
        exact hSD k k0 k1
      · rw [hlat0, hHR.1]
      · intro u hu
        by_cases hut : u = t
        · rw [hut, hspk, hK]; rfl
        · exact hsp u (by omega)
  refine CTi_of mp_X0_run (Nat.le_of_ble_eq_true rfl) ?_
  refine s_X0_run_0 ha htp hL ?_
  rintro _ rfl _ rfl
  refine byV (d' := 2) (by omega) (ct_clear (P := PN) (Nat.le_refl _) ha htp ?_ ?_ hn10 ?_) ?_
  · simp [mup_ap]
  · exact hN.same (fun b j q1 q2 => by
      have := apt b ⟨q1, by omega⟩
      rw [mup_ap, if_neg (fun z => by omega), mup_ap, if_neg (fun z => by omega)])
  · intro k k0 k1
    exact (hw.2 k k0 k1).2.2.2
  rintro μ4 ⟨q1, q2, q3, q4, q5, q6, q7, q8, q9⟩
  have f4 : ∀ b j, b < a ∨ a + 11 < b → μ4 b j = μ b j := fun b j q => by rw [q1 b j q, mup_ap, if_neg (fun z => by omega), mup_ap, if_neg (fun z => by omega)]
  refine key n 0 0 μ4 (by omega) (fun b j q _ _ _ _ => f4 b j q) q2 ?_ (hX.same (fun b j q => f4 b j (by have := apL b; have := ap1 b; have := ap6 b; omega))) q5 ⟨q6, ?_, ?_, q4⟩ q9 rfl (fun u hu => by omega)
  · rw [q3]; simp [mup_ap]
  · intro q z0 z1
    rw [q7 q z0 z1]; rfl
  · intro k k0 k1
    rw [q8 k k0 k1]
    have hns : saidF (gapQ H P) (ansQ H P) PN 0 k = false := by
      unfold saidF
      rw [decide_eq_false (fun z => by have := (hw.2 k z.1 z.2.1).2.2.2; omega), Bool.false_and]
    rw [hns]; rfl

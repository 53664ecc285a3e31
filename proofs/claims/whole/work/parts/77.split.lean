/-! THE CLASS READS: all tokens -/
def TKn (μ : Mem) (T : TxT) (c : Nat) : Prop := μ 28 4 = c ∧ ∀ k : Nat, k < c → μ 29 k = T.1 k ∧ μ 30 k = T.2.1 k ∧ μ 31 k = T.2.2 k
def FRt (μ μ' : Mem) : Prop := ∀ b j, (b = 28 → j ≠ 4) → b ≠ 29 → b ≠ 30 → b ≠ 31 → μ' b j = μ b j
theorem FRt.refl (μ : Mem) : FRt μ μ := fun _ _ _ _ _ _ => rfl
theorem FRt.tr {μ1 μ2 μ3 : Mem} (h : FRt μ1 μ2) (h' : FRt μ2 μ3) : FRt μ1 μ3 := fun b j q1 q2 q3 q4 => by rw [h' b j q1 q2 q3 q4]; exact h b j q1 q2 q3 q4
theorem ca_putToken {d : Nat} {sc : SC} {μ : Mem} {T : TxT} {c : Nat} {K P V : Int} {R : Mem → Prop} (hd : 1 ≤ d) (hc : c ≤ 900) (h : TKn μ T c) (hK : K = T.1 c) (hP : P = T.2.1 c) (hV : V = T.2.2 c) (k : ∀ μ', TKn μ' T (c + 1) → FRt μ μ' → R μ') : CAv mX7_putToken d sc [(2, 28), (0, K), (0, P), (0, V)] μ R := by
  refine byV (d' := 0) (by omega) (Q := R) ?_ (fun _ z => z)
  refine CTv_of mp_X7_putToken (Nat.le_of_ble_eq_true rfl) ?_
  obtain ⟨h1, h2⟩ := h
  refine s_X7_putToken_0 ⟨fun z => by omega, fun _ => ⟨by omega, ?_⟩⟩
  intro μ3 e3
  have a3 : μ3 28 4 = c := by rw [e3, mup_ap, if_neg (fun y => by omega)]; exact h1
  rw [a3]
  refine ⟨by omega, ?_⟩
  intro μ5 e5
  have a5 : μ5 28 4 = c := by rw [e5, mup_ap, if_neg (fun y => by omega)]; exact a3
  rw [a5]
  refine ⟨by omega, ?_⟩
  intro μ7 e7
  have a7 : μ7 28 4 = c := by rw [e7, mup_ap, if_neg (fun y => by omega)]; exact a5
  rw [a7]
  refine ⟨by omega, ?_⟩
  intro μ9 e9
  have g : ∀ b j : Int, (b = 28 → j ≠ 4) → (b = 29 ∨ b = 30 ∨ b = 31 → j ≠ c) → μ9 b j = μ b j := fun b j z1 z2 => by
    rw [e9, mup_ap, if_neg (fun y => z1 y.1 y.2), e7, mup_ap, if_neg (fun y => z2 (by omega) y.2), e5, mup_ap, if_neg (fun y => z2 (by omega) y.2), e3, mup_ap, if_neg (fun y => z2 (by omega) (by rw [← h1]; exact y.2))]
  refine k μ9 ⟨by rw [e9, mup_at]; omega, fun i hi => ?_⟩ (fun b j z1 z2 z3 z4 => g b j z1 (by omega))
  by_cases q : i = c
  · rw [q]
    refine ⟨?_, ?_, ?_⟩
    · rw [e9, mup_ap, if_neg (fun y => by omega), e7, mup_ap, if_neg (fun y => by omega), e5, mup_ap, if_neg (fun y => by omega), e3, mup_ap, if_pos ⟨rfl, h1.symm⟩]; exact hK
    · rw [e9, mup_ap, if_neg (fun y => by omega), e7, mup_ap, if_neg (fun y => by omega), e5, mup_at]; exact hP
    · rw [e9, mup_ap, if_neg (fun y => by omega), e7, mup_at]; exact hV
  · rw [g _ _ (by omega) (by omega), g _ _ (by omega) (by omega), g _ _ (by omega) (by omega)]
    exact h2 i (by omega)
theorem ca_putNumber {d : Nat} {sc : SC} {μ : Mem} {b : Int → Int} {n c i j : Nat} {R : Mem → Prop} (hd : 2 ≤ d) (hc : c ≤ 900) (hT : TB μ b n) (h : TKn μ (txt b n) c) (hij : i < j ∧ j ≤ n) (hl : ∀ k : Nat, i ≤ k → k < j → isDigB (b k) = true) (hK : (txt b n).1 c = if 3 < j - i then 53 else 50) (hP : (txt b n).2.1 c = i) (hV : (txt b n).2.2 c = if 3 < j - i then 0 else numF b i (j - i)) (k : ∀ μ', TKn μ' (txt b n) (c + 1) → FRt μ μ' → R μ') : CAv mX7_putNumber d sc [(2, 28), (0, (i : Int)), (0, (j : Int))] μ R := by
  have hn := hT.2.1
  refine byV (d' := 1) (by omega) (Q := R) ?_ (fun _ z => z)
  refine CTv_of mp_X7_putNumber (Nat.le_of_ble_eq_true rfl) ?_
  refine s_X7_putNumber_0 ⟨by omega, fun z => ?_, fun z => ca_putToken (Nat.le_refl _) hc h (by rw [hK, if_pos (by omega)]) hP.symm (by rw [hV, if_pos (by omega)]) k⟩
  have key : ∀ (r t : Nat), i + t + r = j → WQ mX7_putNumber 1 sc (ZV sc R) 21 [(2, 28), (0, (i : Int)), (0, (j : Int)), (0, numF b i t), (0, ((i + t : Nat) : Int))] [] μ := by
    intro r
    induction r with
    | zero =>
      intro t ht
      refine s_X7_putNumber_21 ⟨fun _ => ca_putToken (Nat.le_refl _) hc h (by rw [hK, if_neg (by omega)]) hP.symm (by rw [hV, if_neg (by omega), show j - i = t by omega]) k, fun z => by omega⟩
    | succ r ih =>
      intro t ht
      have hb := hT.2.2 ((i + t : Nat) : Int) (by omega) (by omega)
      have hd1 := hl (i + t) (by omega) (by omega)
      have hd2 := of_decide_eq_true hd1
      have he : μ 1 ((i + t : Nat) : Int) = b ((i + t : Nat) : Int) := by
        obtain ⟨⟨q1, q2⟩, q3⟩ := hb
        omega
      have hnb := numF_b (b := b) (i := i) t (fun k k0 k1 => hl k k0 (by omega))
      have hp : ∀ m : Nat, m ≤ 3 → (10 : Int) ^ m ≤ 1000 := by
        intro m hm
        have : m = 0 ∨ m = 1 ∨ m = 2 ∨ m = 3 := by omega
        rcases this with rfl | rfl | rfl | rfl <;> decide
      have := hp t (by omega)
      refine s_X7_putNumber_21 ⟨fun z => by omega, fun _ => ⟨by omega, by rw [hT.1]; exact kf_9_0 k_0, by omega, ?_⟩⟩
      rw [hT.1, he]
      refine ⟨by omega, by omega, ?_⟩
      intro v hv
      refine ⟨by omega, ?_⟩
      rintro _ rfl
      have e : v = numF b i (t + 1) := by rw [hv, numF]; omega
      rw [e]
      have := ih (t + 1) (by omega)
      rw [show ((i + (t + 1) : Nat) : Int) = ((i + t : Nat) : Int) + 1 by omega] at this
      exact this
  exact key (j - i) 0 (by omega)
/-- so far: the place in the text is the place of the next token -/
def PZ (b : Int → Int) (n c i : Nat) : Prop := i ≤ n ∧ c ≤ i ∧ tkP b n (posk b n c) = runE isWsB b n i ∧ ∀ k, k < c → (txt b n).1 k ≠ 52
theorem PZ.at {b : Int → Int} {n c i : Nat} (h : PZ b n c i) (hw : ¬ (i < n ∧ isWsB (b i) = true)) : tkP b n (posk b n c) = i := by rw [h.2.2.1, runE_stop hw]
theorem ct_split {d : Nat} {sc : SC} {μ : Mem} {b : Int → Int} {n : Nat} (hd : 5 ≤ d) (hT : TB μ b n) : CTv mX7_split d sc [(2, 28), (0, (n : Int))] μ (fun μ' => ∃ N : Nat, N ≤ n ∧ TKn μ' (txt b n) (N + 1) ∧ (txt b n).1 N = 52 ∧ (∀ k, k < N → (txt b n).1 k ≠ 52) ∧ FRt μ μ') := by
  have hn := hT.2.1
  refine CTv_of mp_X7_split (Nat.le_of_ble_eq_true rfl) ?_
  refine s_X7_split_0 ?_
  intro μ1 e1
  generalize hQ : (fun μ' : Mem => ∃ N : Nat, N ≤ n ∧ TKn μ' (txt b n) (N + 1) ∧ (txt b n).1 N = 52 ∧ (∀ k, k < N → (txt b n).1 k ≠ 52) ∧ FRt μ μ') = Q
  have hTB : ∀ μ2 : Mem, FRt μ μ2 → TB μ2 b n := fun μ2 f => hT.same (f _ _ (by omega) (by omega) (by omega) (by omega)) (fun j => f _ _ (by omega) (by omega) (by omega) (by omega))
  -- where a token is put
  have hT1 : ∀ c : Nat, (txt b n).1 c = tkK b n (posk b n c) := fun _ => rfl
  have hT2 : ∀ c : Nat, (txt b n).2.1 c = (tkP b n (posk b n c) : Nat) := fun _ => rfl
  have hT3 : ∀ c : Nat, (txt b n).2.2 c = tkV b n (posk b n c) := fun _ => rfl
  have key : ∀ (r i c : Nat) (μ2 : Mem), i + r = n → FRt μ μ2 → TKn μ2 (txt b n) c → PZ b n c i → WQ mX7_split d sc (ZV sc Q) 7 [(2, 28), (0, (n : Int)), (9, 0), (0, (i : Int)), (9, 0), (9, 0)] [] μ2 := by
    intro r
    induction r using Nat.strongRecOn with
    | ind r ih =>
      intro i c μ2 hi hF hK hZ
      have hb2 := hTB μ2 hF
      by_cases hend : i = n
      · -- the end
        have hp := hZ.at (fun q => by omega)
        have hk52 : tkK b n (posk b n c) = 52 := (tkK_end b n _).mpr (by omega)
        refine s_X7_split_7 ⟨fun _ => ca_putToken (by omega) (by have := hZ.2.1; omega) hK (by rw [hT1, hk52]) (by rw [hT2, hp, hend]) (by rw [hT3]; unfold tkV; rw [if_neg (by omega)]) (fun μ3 k3 f3 => ?_), fun z => by omega⟩
        rw [← hQ]
        exact ⟨c, by have := hZ.2.1; omega, k3, hk52, hZ.2.2.2, hF.tr f3⟩
      · have hlt : i < n := by omega
        have hbi := hb2.2.2 (i : Int) (by omega) (by omega)
        refine s_X7_split_7 ⟨fun z => by omega, fun _ => ⟨by omega, ?_⟩⟩
        rintro _ rfl
        refine ⟨by rw [hb2.1]; exact kf_9_0 k_0, by omega, ?_⟩
        rw [hb2.1]
        intro v hv
        rw [← hv] at hbi
        have hlet := hbi.1.let hbi.2
        have hdig := hbi.1.dig hbi.2
        -- one token is done, the next place
        have next : ∀ (e : Nat) (μ3 : Mem), ¬ isWsB (b i) = true → i < e → e ≤ n → tkE b n (posk b n c) = e → TKn μ3 (txt b n) (c + 1) → FRt μ2 μ3 → WQ mX7_split d sc (ZV sc Q) 7 [(2, 28), (0, (n : Int)), (9, 0), (0, (e : Int)), (9, 0), (9, 0)] [] μ3 := by
          intro e μ3 hws he1 he2 hE k3 f3
          have hp := hZ.at (fun q => hws q.2)
          refine ih (n - e) (by omega) e (c + 1) μ3 (by omega) (hF.tr f3) k3 ⟨he2, by have := hZ.2.1; omega, ?_, fun k hk => ?_⟩
          · show runE isWsB b n (tkE b n (posk b n c)) = _
            rw [hE]
          · by_cases q : k = c
            · rw [q, hT1]
              intro q2
              have := (tkK_end b n _).mp q2
              omega
            · exact hZ.2.2.2 k (by omega)
        refine ca_isLetter (by omega) (fun hnl => ⟨fun _ => ?_, fun q => absurd rfl q⟩) (fun hl => ⟨fun q => absurd q (by decide), fun _ => ?_⟩)
        · have nl : ¬ isLetB (b i) = true := fun q => hnl (hlet.mpr q)
          refine ca_isDigit (by omega) (fun hnd => ⟨fun _ => ?_, fun q => absurd rfl q⟩) (fun hdg => ⟨fun q => absurd q (by decide), fun _ => ?_⟩)
          · have nd : ¬ isDigB (b i) = true := fun q => hnd (hdig.mpr q)
            have white : isWsB (b i) = true → WQ mX7_split d sc (ZV sc Q) 7 [(2, 28), (0, (n : Int)), (9, 0), (0, (i : Int) + 1), (9, 0), (9, 0)] [] μ2 := fun hw => by
              have := ih (n - (i + 1)) (by omega) (i + 1) c μ2 (by omega) hF hK ⟨by omega, by have := hZ.2.1; omega, by rw [hZ.2.2.1, runE_go hlt hw], hZ.2.2.2⟩
              exact this
            have bad : ¬ isWsB (b i) = true → ∀ K : Int, K = signK (b i) → CAv mX7_putToken d sc [(2, 28), (0, K), (0, (i : Int)), (0, 0)] μ2 (fun μ23 => WQ mX7_split d sc (ZV sc Q) 7 [(2, 28), (0, (n : Int)), (9, 0), (0, (i : Int) + 1), (9, 0), (9, 0)] [] μ23) := fun hw K hK2 => by
              have hp := hZ.at (fun q => hw q.2)
              have kK : tkK b n (posk b n c) = signK (b i) := by unfold tkK; rw [hp, if_neg (by omega), if_neg nl, if_neg nd]
              have kE : tkE b n (posk b n c) = i + 1 := by unfold tkE; rw [hp, if_neg (by omega), if_neg nl, if_neg nd]
              have hsb := signK_b (b i)
              refine ca_putToken (by omega) (by have := hZ.2.1; omega) hK (by rw [hT1, kK, hK2]) (by rw [hT2, hp]) (by rw [hT3]; unfold tkV; rw [if_neg (by omega)]) (fun μ3 k3 f3 => ?_)
              exact next (i + 1) μ3 hw (by omega) (by omega) kE k3 f3
            refine ⟨fun h10 => white (decide_eq_true (Or.inl ((hbi.1.lo hbi.2 (by decide)).mp h10))), fun h10 => ⟨fun h32 => white (decide_eq_true (Or.inr ((hbi.1.lo hbi.2 (by decide)).mp h32))), fun h32 => ?_⟩⟩
            have hw : ¬ isWsB (b i) = true := fun q => by
              have := of_decide_eq_true q
              rcases this with q | q
              · exact h10 ((hbi.1.lo hbi.2 (by decide)).mpr q)
              · exact h32 ((hbi.1.lo hbi.2 (by decide)).mpr q)
            refine ⟨fun h0 => ?_, fun h0 => bad hw _ ?_⟩
            · have hvb : v = b i := by
                obtain ⟨⟨q1, q2⟩, q3⟩ := hbi
                omega
              refine ca_signOf hd ⟨h0, by have := hbi.1.2.2; omega⟩ (fun r hr => ⟨fun r0 => ⟨by omega, bad hw _ ?_⟩, fun r0 => bad hw _ ?_⟩)
              · rw [← hvb]; rcases hr with q | q
                · exact q.2.2
                · omega
              · rw [← hvb]; rcases hr with q | q
                · omega
                · exact q.2.symm
            · refine (sign_none (fun r hr q => ?_)).symm
              have := sign_at r hr
              have := (hbi.1.lo hbi.2 ⟨this.2.1, this.2.2⟩).mpr q.symm
              omega
          · -- digits
            have dg : isDigB (b i) = true := hdig.mp hdg
            have hw : ¬ isWsB (b i) = true := fun q => by
              have q1 := of_decide_eq_true q
              have q2 := of_decide_eq_true dg
              omega
            have hp := hZ.at (fun q => hw q.2)
            have kE : tkE b n (posk b n c) = runE isDigB b n i := by unfold tkE; rw [hp, if_neg (by omega), if_neg nl, if_pos dg]
            have kK : tkK b n (posk b n c) = if 3 < runE isDigB b n i - i then 53 else 50 := by unfold tkK; rw [hp, if_neg (by omega), if_neg nl, if_pos dg]
            have hrb := runE_b (p := isDigB) (b := b) (n := n) (i := i)
            have kV : tkV b n (posk b n c) = if 3 < runE isDigB b n i - i then 0 else numF b i (runE isDigB b n i - i) := by
              unfold tkV
              rw [kK, hp]
              by_cases q : 3 < runE isDigB b n i - i
              · rw [if_pos q, if_pos q, if_neg (by decide)]
              · rw [if_neg q, if_neg q, if_pos rfl]
            have fin : ∀ (e : Nat), runE isDigB b n i = e → i < e → e ≤ n → CAv mX7_putNumber d sc [(2, 28), (0, (i : Int)), (0, (e : Int))] μ2 (fun μ3 => WQ mX7_split d sc (ZV sc Q) 7 [(2, 28), (0, (n : Int)), (9, 0), (0, (e : Int)), (9, 0), (9, 0)] [] μ3) := fun e he h1 h2 => by
              rw [he] at kE kK kV
              exact ca_putNumber (by omega) (by have := hZ.2.1; omega) hb2 hK ⟨h1, h2⟩ (fun k k0 k1 => hrb.2.2 k k0 (by omega)) (by rw [hT1, kK]) (by rw [hT2, hp]) (by rw [hT3, kV]) (fun μ3 k3 f3 => next e μ3 hw h1 h2 kE k3 f3)
            have loop : ∀ (r2 e : Nat), e + r2 = n → i < e → runE isDigB b n i = runE isDigB b n e → WQ mX7_split d sc (ZV sc Q) 78 [(2, 28), (0, (n : Int)), (0, (e : Int)), (0, (i : Int)), (9, 0), (9, 0)] [] μ2 := by
              intro r2
              induction r2 with
              | zero =>
                intro e he hie hre
                refine s_X7_split_78 ⟨fun _ => fin e (by rw [hre, runE_stop (fun q => by omega)]) hie (by omega), fun z => by omega⟩
              | succ r2 ih2 =>
                intro e he hie hre
                have hbe := hb2.2.2 (e : Int) (by omega) (by omega)
                have hde := hbe.1.dig hbe.2
                refine s_X7_split_78 ⟨fun z => by omega, fun _ => ⟨by rw [hb2.1]; exact kf_9_0 k_0, by omega, ?_⟩⟩
                rw [hb2.1]
                refine ca_isDigit (by omega) (fun q => ⟨fun _ => fin e (by rw [hre, runE_stop (fun q2 => q (hde.mpr q2.2))]) hie (by omega), fun q2 => absurd rfl q2⟩) (fun q => ⟨fun q2 => absurd q2 (by decide), fun _ => ⟨by omega, ?_⟩⟩)
                rintro _ rfl
                exact ih2 (e + 1) (by omega) (by omega) (by rw [hre, runE_go (by omega) (hde.mp q)])
            have := loop (n - (i + 1)) (i + 1) (by omega) (by omega) (runE_go hlt dg)
            exact this
        · -- letters
          have lt : isLetB (b i) = true := hlet.mp hl
          have hw : ¬ isWsB (b i) = true := fun q => by
            have q1 := of_decide_eq_true q
            have q2 := of_decide_eq_true lt
            omega
          have hp := hZ.at (fun q => hw q.2)
          have kE : tkE b n (posk b n c) = runE isLetB b n i := by unfold tkE; rw [hp, if_neg (by omega), if_pos lt]
          have kK : tkK b n (posk b n c) = wordK b i (runE isLetB b n i) := by unfold tkK; rw [hp, if_neg (by omega), if_pos lt]
          have hrb := runE_b (p := isLetB) (b := b) (n := n) (i := i)
          have fin : ∀ (e : Nat), runE isLetB b n i = e → i < e → e ≤ n → CAi mX7_wordKind d sc [(2, 28), (0, (i : Int)), (0, (e : Int))] μ2 (fun r2 μ3 => CAv mX7_putToken d sc [(2, 28), (0, r2), (0, (i : Int)), (0, 0)] μ3 (fun μ5 => WQ mX7_split d sc (ZV sc Q) 7 [(2, 28), (0, (n : Int)), (9, 0), (0, (e : Int)), (9, 0), (9, 0)] [] μ5)) := fun e he h1 h2 => by
            rw [he] at kE kK
            refine byI (d' := 4) (by omega) (ct_wordKind (Nat.le_refl _) hb2 ⟨h1, h2⟩ (fun k k0 k1 => hrb.2.2 k k0 (by omega))) ?_
            rintro x z0 ⟨hx, ez⟩
            rw [ez, hx]
            have hwb := wordK_b b i e
            exact ca_putToken (by omega) (by have := hZ.2.1; omega) hK (by rw [hT1, kK]) (by rw [hT2, hp]) (by rw [hT3]; unfold tkV; rw [kK, if_neg (by omega)]) (fun μ3 k3 f3 => next e μ3 hw h1 h2 kE k3 f3)
          have loop : ∀ (r2 e : Nat), e + r2 = n → i < e → runE isLetB b n i = runE isLetB b n e → WQ mX7_split d sc (ZV sc Q) 32 [(2, 28), (0, (n : Int)), (0, (e : Int)), (0, (i : Int)), (9, 0), (9, 0)] [] μ2 := by
            intro r2
            induction r2 with
            | zero =>
              intro e he hie hre
              refine s_X7_split_32 ⟨fun _ => fin e (by rw [hre, runE_stop (fun q => by omega)]) hie (by omega), fun z => by omega⟩
            | succ r2 ih2 =>
              intro e he hie hre
              have hbe := hb2.2.2 (e : Int) (by omega) (by omega)
              have hde := hbe.1.let hbe.2
              refine s_X7_split_32 ⟨fun z => by omega, fun _ => ⟨by rw [hb2.1]; exact kf_9_0 k_0, by omega, ?_⟩⟩
              rw [hb2.1]
              refine ca_isLetter (by omega) (fun q => ⟨fun _ => fin e (by rw [hre, runE_stop (fun q2 => q (hde.mpr q2.2))]) hie (by omega), fun q2 => absurd rfl q2⟩) (fun q => ⟨fun q2 => absurd q2 (by decide), fun _ => ⟨by omega, ?_⟩⟩)
              rintro _ rfl
              exact ih2 (e + 1) (by omega) (by omega) (by rw [hre, runE_go (by omega) (hde.mp q)])
          have := loop (n - (i + 1)) (i + 1) (by omega) (by omega) (runE_go hlt lt)
          exact this
  refine key n 0 0 μ1 (by omega) (fun b j z1 z2 z3 z4 => by rw [e1, mup_ap, if_neg (fun y => z1 y.1 y.2)]) ⟨by rw [e1, mup_at]; rfl, fun k hk => by omega⟩ ⟨Nat.zero_le _, Nat.le_refl _, rfl, fun k hk => by omega⟩

/-! THE CLASS'S LAWS: contracts -/
/-- filled -/
theorem ct_fillI {d : Nat} {sc : SC} {μ : Mem} {a v : Int} {n : Nat} (ha : kd0 a = some (0, n)) (hn : n < 2147483648) :
    CTv mJ7_fill_53178 d sc [(2, a), (0, v)] μ (fun μ' => ∀ b j, μ' b j = if b = a ∧ 0 ≤ j ∧ j < n then v else μ b j) := by
  refine CTv_of mp_J7_fill_53178 (Nat.le_of_ble_eq_true rfl) ?_
  refine s_J7_fill_53178_0 ha ⟨hn, ?_⟩
  have key : ∀ (r k : Nat) (μ1 : Mem), (k : Int) + r = n → (∀ b j, μ1 b j = if b = a ∧ 0 ≤ j ∧ j < k then v else μ b j) →
      WQ mJ7_fill_53178 d sc (ZV sc (fun μ' => ∀ b j, μ' b j = if b = a ∧ 0 ≤ j ∧ j < n then v else μ b j)) 5 [(2, a), (0, v), (0, (k : Int)), (0, (n : Int))] [] μ1 := by
    intro r
    induction r with
    | zero =>
      intro k μ1 hk hm
      refine s_J7_fill_53178_5 ha ⟨fun _ b j => ?_, fun z => by omega⟩
      rw [hm, show (k : Int) = n by omega]
    | succ r ih =>
      intro k μ1 hk hm
      refine s_J7_fill_53178_5 ha ⟨fun z => by omega, fun _ => ⟨by omega, ?_⟩⟩
      rintro _ rfl
      refine ⟨by omega, ?_⟩
      rintro _ rfl
      exact ih (k + 1) _ (by omega) (fun b j => by rw [mup_ap, hm]; grind)
  exact key n 0 μ (by omega) (fun b j => by rw [if_neg (by omega)])
theorem ct_fillL {d : Nat} {sc : SC} {μ : Mem} {a v : Int} {n : Nat} (ha : kd0 a = some (1, n)) (hn : n < 2147483648) :
    CTv mJ7_fill_d0a16 d sc [(2, a), (1, v)] μ (fun μ' => ∀ b j, μ' b j = if b = a ∧ 0 ≤ j ∧ j < n then v else μ b j) := by
  refine CTv_of mp_J7_fill_d0a16 (Nat.le_of_ble_eq_true rfl) ?_
  refine s_J7_fill_d0a16_0 ha ⟨hn, ?_⟩
  have key : ∀ (r k : Nat) (μ1 : Mem), (k : Int) + r = n → (∀ b j, μ1 b j = if b = a ∧ 0 ≤ j ∧ j < k then v else μ b j) →
      WQ mJ7_fill_d0a16 d sc (ZV sc (fun μ' => ∀ b j, μ' b j = if b = a ∧ 0 ≤ j ∧ j < n then v else μ b j)) 6 [(2, a), (1, v), (9, 0), (0, (k : Int)), (0, (n : Int))] [] μ1 := by
    intro r
    induction r with
    | zero =>
      intro k μ1 hk hm
      refine s_J7_fill_d0a16_6 ha ⟨fun _ b j => ?_, fun z => by omega⟩
      rw [hm, show (k : Int) = n by omega]
    | succ r ih =>
      intro k μ1 hk hm
      refine s_J7_fill_d0a16_6 ha ⟨fun z => by omega, fun _ => ⟨by omega, ?_⟩⟩
      rintro _ rfl
      refine ⟨by omega, ?_⟩
      rintro _ rfl
      exact ih (k + 1) _ (by omega) (fun b j => by rw [mup_ap, hm]; grind)
  exact key n 0 μ (by omega) (fun b j => by rw [if_neg (by omega)])
/-- a call by its contract -/
theorem byI {md : MD} {d d' : Nat} {sc : SC} {as : List AV} {μ : Mem} {Q P : Int → Mem → Prop} (hd : d' + 1 ≤ d) (h : CTi md d' sc as μ Q) (k : ∀ x μ', Q x μ' → P x μ') : CAi md d sc as μ P := ⟨d', Q, hd, h, fun x μ' hq _ => k x μ' hq⟩
theorem byI32 {md : MD} {d d' : Nat} {sc : SC} {as : List AV} {μ : Mem} {Q P : Int → Mem → Prop} (hd : d' + 1 ≤ d) (h : CTi md d' sc as μ Q) (k : ∀ x μ', i32 x → Q x μ' → P x μ') : CAi md d sc as μ P := ⟨d', Q, hd, h, fun x μ' hq hx => k x μ' hx hq⟩
theorem byL {md : MD} {d d' : Nat} {sc : SC} {as : List AV} {μ : Mem} {Q P : Int → Mem → Prop} (hd : d' + 1 ≤ d) (h : CTl md d' sc as μ Q) (k : ∀ x μ', Q x μ' → P x μ') : CAl md d sc as μ P := ⟨d', Q, hd, h, k⟩
theorem byV {md : MD} {d d' : Nat} {sc : SC} {as : List AV} {μ : Mem} {Q P : Mem → Prop} (hd : d' + 1 ≤ d) (h : CTv md d' sc as μ Q) (k : ∀ μ', Q μ' → P μ') : CAv md d sc as μ P := ⟨d', Q, hd, h, k⟩
/-! the class's hill and plan, read off the memory -/
def XH (μ : Mem) (h : Int) (H : HillT) : Prop := hR H = μ h 0 ∧ hC H = μ h 1 ∧ hLines H = μ h 2 ∧ hP H = μ h 3 ∧ (∀ q, 0 ≤ q → q < hP H → μ (h + 1) q = hLoud H q ∧ μ (h + 2) q = hDeaf H q ∧ μ (h + 3) q = hVoice H q) ∧
  ∀ l, 0 ≤ l → l < 3 → (0 ≤ μ (h + 5) l ∧ μ (h + 6) l = μ (h + 5) l + hLen H l ∧ μ (h + 6) l ≤ 900) ∧ ∀ k, 0 ≤ k → k < hLen H l → μ (h + 4) (μ (h + 5) l + k) = hCode H l k
def XP (μ : Mem) (p np : Int) (P : PlanT) : Prop := μ p 0 = pN P ∧ (∀ k, 0 ≤ k → k < pN P → μ (p + 1) k = pWho P k ∧ μ (p + 2) k = pWhom P k ∧ μ (p + 3) k = pAt P k ∧ μ (p + 4) k = pSure P k) ∧ (∀ q, 0 ≤ q → q < np → μ (p + 5) q = pCell P q) ∧ μ p 6 = pWind P
theorem evN_congr {env env' c c' : Int → Int} {n : Nat} (hc : ∀ k : Nat, k < n → c k = c' k) (he : ∀ k : Nat, k < n → 1015 ≤ c k → c k ≤ 1023 → env (c k - 1015) = env' (c k - 1015)) : evN env c n = evN env' c' n := by
  induction n with
  | zero => rfl
  | succ n ih =>
    rw [evN, evN, ih (fun k hk => hc k (by omega)) (fun k hk => he k (by omega)), ← hc n (by omega)]
    have h1 := he n (by omega)
    unfold evStep
    congr 1
    funext j
    split
    · unfold made
      by_cases q : c n < 1000
      · rw [if_pos q, if_pos q]
      · rw [if_neg q, if_neg q]
        by_cases q2 : 1015 ≤ c n ∧ c n ≤ 1023
        · rw [if_pos q2, if_pos q2, h1 q2.1 q2.2]
        · rw [if_neg q2, if_neg q2]
    · rfl
theorem wfCode_congr {c c' : Int → Int} {n b : Int} (hc : ∀ k, 0 ≤ k → k < n → c k = c' k) (h : wfCode c' n b) : wfCode c n b := by
  have ht : ∀ k : Nat, (k : Int) ≤ n → tyN c k = tyN c' k := by
    intro k
    induction k with
    | zero => intro _; rfl
    | succ k ih => intro hk; rw [tyN, tyN, ih (by omega), hc k (by omega) (by omega)]
  by_cases hn : 0 ≤ n
  · refine ⟨fun k hk => ?_, ?_, ?_⟩
    · rw [ht k (by omega), hc k (by omega) hk]; exact h.1 k hk
    · rw [ht _ (by omega)]; exact h.2.1
    · rw [ht _ (by omega)]; exact h.2.2
  · refine ⟨fun k hk => by omega, ?_, ?_⟩
    · rw [show n.toNat = 0 by omega]; have := h.2.1; rwa [show n.toNat = 0 by omega] at this
    · rw [show n.toNat = 0 by omega]; have := h.2.2; rwa [show n.toNat = 0 by omega] at this
/-- work(): what the law tells, by the names that lie there -/
theorem ct_work {d : Nat} {sc : SC} {μ : Mem} {L h law b : Int} {H : HillT} {env : Int → Int} (hd : 2 ≤ d) (hL : isK 3 L) (hh : isK 1 h) (hl : 0 ≤ law ∧ law < 3) (hLh : μ L 3 = h) (hH : XH μ h H) (hwf : wfCode (hCode H law) (hLen H law) b) (hn : 0 ≤ hLen H law)
    (he : ∀ i, -1000000 ≤ env i ∧ env i ≤ 1000000) (henv : ∀ k, 0 ≤ k → k < hLen H law → 1015 ≤ hCode H law k → hCode H law k ≤ 1023 → μ (L + 4) (hCode H law k - 1015) = env (hCode H law k - 1015)) :
    CTi mX3_work d sc [(2, L), (0, law)] μ (fun x μ' => x = ev env (hCode H law) (hLen H law) ∧ ∀ b j, b ≠ L + 5 → μ' b j = μ b j) := by
  obtain ⟨⟨f1, f2, f3⟩, f4⟩ := hH.2.2.2.2.2 law hl.1 hl.2
  refine CTi_of mp_X3_work (Nat.le_of_ble_eq_true rfl) ?_
  refine s_X3_work_0 hL ?_
  rw [hLh]
  refine ⟨hh, hl, ?_⟩
  rintro _ rfl
  have hc : ∀ k, 0 ≤ k → k < hLen H law → (fun k => μ (h + 4) (μ (h + 5) law + k)) k = hCode H law k := fun k h0 h1 => f4 k h0 h1
  have hev : ev env (fun k => μ (h + 4) (μ (h + 5) law + k)) (hLen H law) = ev env (hCode H law) (hLen H law) := by
    unfold ev
    rw [evN_congr (fun k hk => hc k (by omega) (by omega)) (fun k hk _ _ => rfl)]
  have := work_12 (d := d) (sc := sc) (Q := fun x μ' => x = ev env (hCode H law) (hLen H law) ∧ ∀ b j, b ≠ L + 5 → μ' b j = μ b j) (μ := μ) (L := L) (H := h) (law := law) (n := hLen H law) (b := b) (fr := μ (h + 5) law) (env := env) hd hL hh hl hLh ⟨f1, by omega⟩ hn f2 (wfCode_congr hc hwf) he
    (fun k h0 h1 => by rw [f4 k h0 h1]; exact henv k h0 h1) (fun μ' hm => ⟨hev, hm⟩) (hLen H law).toNat 0 μ (by omega) (fun b j _ => rfl) (fun j h0 h1 => by simp only [evN] at h1; omega)
  have e0 : (evN env (fun k => μ (h + 4) (μ (h + 5) law + k)) 0).1 = 0 := rfl
  rw [e0, show μ (h + 5) law + ((0 : Nat) : Int) = μ (h + 5) law by omega] at this
  exact this

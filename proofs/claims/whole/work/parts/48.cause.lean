/-! WHAT IS TOLD AT A MINUTE CHANGES NOTHING UP TO IT -/
theorem hicAt_from {gap : Int → Int} {ans : Int → Int → Bool} {P : PlanT} (hg : gapOK gap) {t : Nat} : ∀ (r : Nat) (u : Int), u ≤ t → hicAt (daySt gap ans P (t + r)) u = hicAt (daySt gap ans P t) u := by
  intro r
  induction r with
  | zero => intro u _; rfl
  | succ r ih =>
    intro u hu
    rw [← Nat.add_assoc, hicAt_later hg (by omega)]
    exact ih u hu
theorem hicAt_100 {gap : Int → Int} {ans : Int → Int → Bool} {P : PlanT} (hg : gapOK gap) {t : Nat} (ht : t ≤ 100) {u : Int} (hu : u ≤ t) : hicAt (daySt gap ans P 100) u = hicAt (daySt gap ans P t) u := by
  have := hicAt_from (ans := ans) (P := P) hg (t := t) (100 - t) u hu
  rwa [show t + (100 - t) = 100 by omega] at this
theorem ksF_more (P : PlanT) (w v t s : Int) (hn : 0 ≤ pN P) (u : Int) : ksF (addN P w v t s) 0 (pN (addN P w v t s)).toNat u = ksF P 0 (pN P).toNat u ++ if t = u then [pN P] else [] := by
  have e : (pN (addN P w v t s)).toNat = (pN P).toNat + 1 := by
    show (pN P + 1).toNat = _
    omega
  rw [e]
  unfold ksF
  rw [List.range'_concat, List.filter_append, List.map_append]
  have hA : ∀ k : Nat, pAt (addN P w v t s) k = if (k : Int) = pN P then t else pAt P k := fun _ => rfl
  congr 1
  · congr 1
    apply List.filter_congr
    intro k hk
    rw [List.mem_range'_1] at hk
    rw [hA, if_neg (by omega)]
  · have e1 : 0 + 1 * (pN P).toNat = (pN P).toNat := by omega
    have e2 : ((((pN P).toNat : Nat) : Int)) = pN P := by omega
    have e3 : pAt (addN P w v t s) (((pN P).toNat : Nat) : Int) = t := by rw [hA, if_pos e2]
    rw [e1]
    by_cases h : t = u
    · rw [if_pos h, List.filter_cons_of_pos (by rw [e3]; simpa using h)]
      simp [e2]
    · rw [if_neg h, List.filter_cons_of_neg (by rw [e3]; simpa using h)]
      simp
theorem spk_app (P : PlanT) (bm : Int → Bool) (w : Int) (l m : List Int) : spk P bm w (l ++ m) = (spk P bm w l || spk P bm w m) := by simp [spk]
theorem sayKs_app (P : PlanT) (bm : Int → Bool) (l m : List Int) : sayKs P bm (l ++ m) = sayKs P bm l ++ sayKs P bm m := by simp [sayKs]
theorem add_old (P : PlanT) (w v t s : Int) {k : Int} (hk : k ≠ pN P) : pWho (addN P w v t s) k = pWho P k ∧ pWhom (addN P w v t s) k = pWhom P k ∧ pAt (addN P w v t s) k = pAt P k ∧ pSure (addN P w v t s) k = pSure P k := ⟨if_neg hk, if_neg hk, if_neg hk, if_neg hk⟩
theorem add_new (P : PlanT) (w v t s : Int) : pWho (addN P w v t s) (pN P) = w ∧ pWhom (addN P w v t s) (pN P) = v ∧ pAt (addN P w v t s) (pN P) = t ∧ pSure (addN P w v t s) (pN P) = s := ⟨if_pos rfl, if_pos rfl, if_pos rfl, if_pos rfl⟩
theorem sayKs_old (P : PlanT) (w v t s : Int) (bm : Int → Bool) (n : Nat) (hn : (n : Int) ≤ pN P) (u : Int) : sayKs (addN P w v t s) bm (ksF P 0 n u) = sayKs P bm (ksF P 0 n u) := by
  unfold sayKs
  have h : ∀ k ∈ ksF P 0 n u, k ≠ pN P := fun k hk => by have := ksF_b hk; omega
  rw [List.filter_congr (q := fun k => !bm (pWho P k)) (fun k hk => by rw [(add_old P w v t s (h k hk)).1])]
  apply List.map_congr_left
  intro k hk
  have := add_old P w v t s (h k (List.mem_filter.mp hk).1)
  rw [this.1, this.2.1]
theorem nams_add (P : PlanT) (w v t s : Int) (hn : 0 ≤ pN P) (u : Int) (hs : List Int) (hu : u ≠ t) : nams (addN P w v t s) u hs = nams P u hs := by
  rw [nams_ks, nams_ks, ksF_more P w v t s hn, if_neg (fun z => hu z.symm), List.append_nil]
  exact sayKs_old P w v t s _ _ (by omega) u
theorem daySt_add {gap : Int → Int} {ans : Int → Int → Bool} {P : PlanT} (w v t s : Int) (hn : 0 ≤ pN P) : ∀ u : Nat, (u : Int) ≤ t → daySt gap ans (addN P w v t s) u = daySt gap ans P u := by
  intro u
  induction u with
  | zero => intro _; rfl
  | succ u ih =>
    intro hu
    rw [daySt, daySt, ih (by omega)]
    unfold newS
    rw [nams_add P w v t s hn u _ (by omega)]
theorem spkAt_add {gap : Int → Int} {ans : Int → Int → Bool} {P : PlanT} (w v t s p : Int) (hn : 0 ≤ pN P) (hw : w ≠ p) {u : Nat} (hu : (u : Int) ≤ t) : spkAt gap ans (addN P w v t s) p u = spkAt gap ans P p u := by
  unfold spkAt
  rw [daySt_add w v t s hn u hu, ksF_more P w v t s hn, spk_app]
  have h1 : spk (addN P w v t s) (muteB (hicAt (daySt gap ans P u) u)) p (if t = (u : Int) then [pN P] else []) = false := by
    split
    · unfold spk
      rw [List.any_cons, (add_new P w v t s).1]
      simp [hw]
    · rfl
  rw [h1, Bool.or_false]
  unfold spk
  have h : ∀ k ∈ ksF P 0 (pN P).toNat (u : Int), k ≠ pN P := fun k hk => by have := ksF_b hk; omega
  rw [Bool.eq_iff_iff, List.any_eq_true, List.any_eq_true]
  constructor
  · rintro ⟨k, hk, h2⟩
    rw [(add_old P w v t s (h k hk)).1] at h2
    exact ⟨k, hk, h2⟩
  · rintro ⟨k, hk, h2⟩
    rw [← (add_old P w v t s (h k hk)).1] at h2
    exact ⟨k, hk, h2⟩
/-! the hiccups of a minute, in the row of all -/
theorem hicL_at (S : SayL) {m : Int} : ∀ n : Nat, 0 ≤ m → m < n → (hicL S n).filter (fun x => x.1 == m) = (hicAt S m).map (fun q => (m, q)) := by
  intro n
  induction n with
  | zero => intro _ h; omega
  | succ n ih =>
    intro h0 h1
    rw [hicL, List.filter_append]
    by_cases h : m = n
    · subst h
      have h2 : (hicL S n).filter (fun x => x.1 == (n : Int)) = [] := by
        clear ih h1 h0
        rw [List.filter_eq_nil_iff]
        have : ∀ k : Nat, ∀ x ∈ hicL S k, x.1 < k := by
          intro k
          induction k with
          | zero => intro x hx; simp [hicL] at hx
          | succ k ih =>
            intro x hx
            rw [hicL, List.mem_append] at hx
            rcases hx with hx | hx
            · have := ih x hx; omega
            · obtain ⟨q, _, rfl⟩ := List.mem_map.mp hx; simp only; omega
        intro x hx
        have := this n x hx
        simp
        omega
      rw [h2, List.nil_append, List.filter_eq_self.mpr]
      intro x hx
      obtain ⟨q, _, rfl⟩ := List.mem_map.mp hx
      simp
    · rw [ih h0 (by omega), List.filter_eq_nil_iff.mpr, List.append_nil]
      intro x hx
      obtain ⟨q, _, rfl⟩ := List.mem_map.mp hx
      simp
      omega
theorem hicL_mem {S : SayL} : ∀ {n : Nat} {x : Int × Int}, x ∈ hicL S n → x ∈ S ∧ 0 ≤ x.1 ∧ x.1 < n := by
  intro n
  induction n with
  | zero => intro x hx; simp [hicL] at hx
  | succ n ih =>
    intro x hx
    rw [hicL, List.mem_append] at hx
    rcases hx with hx | hx
    · have := ih hx; exact ⟨this.1, this.2.1, by omega⟩
    · obtain ⟨q, hq, rfl⟩ := List.mem_map.mp hx
      obtain ⟨y, hy, e1, e2⟩ := hicAt_mem hq
      have : y = ((n : Int), q) := by rw [← e1, ← e2]
      exact ⟨this ▸ hy, by simp only; omega, by simp only; omega⟩
theorem hicL_sorted (S : SayL) : ∀ n : Nat, (hicL S n).Pairwise (fun x y => x.1 ≤ y.1) := by
  intro n
  induction n with
  | zero => simp [hicL]
  | succ n ih =>
    rw [hicL, List.pairwise_append]
    refine ⟨ih, ?_, fun x hx y hy => ?_⟩
    · rw [List.pairwise_map]
      exact List.pairwise_of_forall (fun _ _ => Int.le_refl _)
    · have h1 := hicL_mem hx
      obtain ⟨q, _, rfl⟩ := List.mem_map.mp hy
      simp only
      omega
theorem hasS_mute (S : SayL) {p m : Int} {n : Nat} (h0 : 0 ≤ m) (h1 : m < n) : hasS (hicL S n) p m = muteB (hicAt S m) p := by
  have h := hicL_at S n h0 h1
  unfold hasS muteB
  rw [Bool.eq_iff_iff, List.any_eq_true, List.any_eq_true]
  constructor
  · rintro ⟨x, hx, hc⟩
    simp at hc
    have : x ∈ (hicL S n).filter (fun x => x.1 == m) := List.mem_filter.mpr ⟨hx, by simpa using hc.1⟩
    rw [h] at this
    obtain ⟨q, hq, rfl⟩ := List.mem_map.mp this
    exact ⟨q, hq, by simpa using hc.2⟩
  · rintro ⟨q, hq, hc⟩
    have : (m, q) ∈ (hicL S n).filter (fun x => x.1 == m) := by rw [h]; exact List.mem_map.mpr ⟨q, hq, rfl⟩
    refine ⟨(m, q), (List.mem_filter.mp this).1, ?_⟩
    simpa using hc

/-! BASE 4: arrays, texts, making objects -/
theorem Rep.arr {g : GW} {T : Wd} {μ : Mem} {H : Heap} {a : Int} {e n : Nat} (hR : Rep g T μ H) (hk : kd T a = some (e, n)) (he : e < 30) :
    0 ≤ a ∧ H[g.1 + a.toNat]? = some (arrV (g.2.2.1 e) n (fun j => val g (vt e, μ a j))) ∧ ∀ j : Nat, j < n → rng e (μ a j) := by
  obtain ⟨k, rfl, hq⟩ := kd_spec hk
  obtain ⟨h1, h2⟩ := (hR.2 k _ hq).1 he
  exact ⟨by omega, h1, h2⟩
theorem Rep.arrset {g : GW} {T : Wd} {μ : Mem} {H H' : Heap} {a i x : Int} {e n : Nat} (hR : Rep g T μ H) (hk : kd T a = some (e, n)) (he : e < 30) (hi : 0 ≤ i ∧ i < n) (hx : rng e x)
    (h1 : H'[g.1 + a.toNat]? = some ((arrV (g.2.2.1 e) n (fun j => val g (vt e, μ a j))).setSlot i.toNat (val g (vt e, x)))) (h2 : H'.size = H.size) (h3 : ∀ q, q ≠ g.1 + a.toNat → H'[q]? = H[q]?) : Rep g T (mup μ a i x) H' := by
  obtain ⟨k, rfl, hq⟩ := kd_spec hk
  refine hR.upd hq h2 h3 ⟨fun _ => ⟨?_, fun j hj => ?_⟩, fun z => absurd z (by simp only; omega)⟩ (fun b j hb => upd_ne hb)
  · rw [show (k : Int).toNat = k from rfl] at h1
    rw [h1, arrV_store]
    congr 2
    funext j
    unfold updV mup
    by_cases hj : j = i.toNat
    · rw [if_pos hj, if_pos ⟨rfl, by omega⟩]
    · rw [if_neg hj, if_neg (fun z => hj (by omega))]
  · unfold mup
    by_cases hj2 : (j : Int) = i
    · rw [if_pos ⟨rfl, hj2⟩]; exact hx
    · rw [if_neg (fun z => hj2 z.2)]
      exact ((hR.2 k _ hq).1 he).2 j hj
section WPA
variable {md : MD} {R : Room} {Z : ZT} {T : Wd} {cc ss : Nat} {pc pc' : Nat} {L L' st st' : List AV} {μ : Mem}
theorem WP_iaload {a i : Int} {n : Nat} (hd : decode md.2.1 pc = .ok (.iaload, 1)) (hk : kd T a = some (0, n)) (hi : 0 ≤ i ∧ i < n) (k : WP md R Z T cc ss (pc + 1) L ((0, μ a i) :: st) μ) : WP md R Z T cc ss pc L ((0, i) :: (2, a) :: st) μ := by
  intro g p l e s m args below meth c H locs ls C K h0 Rp S V G
  obtain ⟨h1, h2, h3⟩ := Rp.arr hk (by decide)
  have hgi : i32 i := g1 G
  have hj : ((i.toNat : Nat) : Int) = i := by omega
  have hr := h3 i.toNat (by omega)
  rw [hj] at hr
  rw [List.map_cons, List.map_cons, val_nn h1]
  refine W.iald (v := val g (0, μ a i)) C.1 C.2.1 h2 ((K.2.1 0 (by decide)).1 _ _) (fun q => by cases q) ?_ ?_ rfl rfl hd ?_
  · rw [arrV_size]; exact in32 hgi hi.1 hi.2
  · rw [cl32 hgi, arrV_read _ _ (by omega), hj]; rfl
  · exact k g p l e s m args below meth c H locs ls C K h0 Rp S V (gc (rng_good hr) (g2 (g2 G)))
theorem WP_laload {a i : Int} {n : Nat} (hd : decode md.2.1 pc = .ok (.laload, 1)) (hk : kd T a = some (1, n)) (hi : 0 ≤ i ∧ i < n) (k : WP md R Z T cc ss (pc + 1) L ((1, μ a i) :: st) μ) : WP md R Z T cc ss pc L ((0, i) :: (2, a) :: st) μ := by
  intro g p l e s m args below meth c H locs ls C K h0 Rp S V G
  obtain ⟨h1, h2, h3⟩ := Rp.arr hk (by decide)
  have hgi : i32 i := g1 G
  have hj : ((i.toNat : Nat) : Int) = i := by omega
  have hr := h3 i.toNat (by omega)
  rw [hj] at hr
  rw [List.map_cons, List.map_cons, val_nn h1]
  refine W.lald (v := val g (1, μ a i)) C.1 C.2.1 h2 ((K.2.1 1 (by decide)).1 _ _) (fun q => by cases q) ?_ ?_ rfl rfl hd ?_
  · rw [arrV_size]; exact in32 hgi hi.1 hi.2
  · rw [cl32 hgi, arrV_read _ _ (by omega), hj]; rfl
  · exact k g p l e s m args below meth c H locs ls C K h0 Rp S V (gc (rng_good hr) (g2 (g2 G)))
theorem WP_baload {a i : Int} {n : Nat} (hd : decode md.2.1 pc = .ok (.baload, 1)) (hk : kd T a = some (4, n)) (hi : 0 ≤ i ∧ i < n) (k : WP md R Z T cc ss (pc + 1) L ((0, μ a i) :: st) μ) : WP md R Z T cc ss pc L ((0, i) :: (2, a) :: st) μ := by
  intro g p l e s m args below meth c H locs ls C K h0 Rp S V G
  obtain ⟨h1, h2, h3⟩ := Rp.arr hk (by decide)
  have hgi : i32 i := g1 G
  have hj : ((i.toNat : Nat) : Int) = i := by omega
  have hr := h3 i.toNat (by omega)
  rw [hj] at hr
  rw [List.map_cons, List.map_cons, val_nn h1]
  refine W.bald (v := val g (0, μ a i)) C.1 C.2.1 h2 ((K.2.1 4 (by decide)).1 _ _) (fun q => by cases q) ?_ ?_ rfl rfl hd ?_
  · rw [arrV_size]; exact in32 hgi hi.1 hi.2
  · rw [cl32 hgi, arrV_read _ _ (by omega), hj]; rfl
  · exact k g p l e s m args below meth c H locs ls C K h0 Rp S V (gc (rng_good hr) (g2 (g2 G)))
theorem WP_zaload {a i : Int} {n : Nat} (hd : decode md.2.1 pc = .ok (.baload, 1)) (hk : kd T a = some (5, n)) (hi : 0 ≤ i ∧ i < n) (k : WP md R Z T cc ss (pc + 1) L ((0, μ a i) :: st) μ) : WP md R Z T cc ss pc L ((0, i) :: (2, a) :: st) μ := by
  intro g p l e s m args below meth c H locs ls C K h0 Rp S V G
  obtain ⟨h1, h2, h3⟩ := Rp.arr hk (by decide)
  have hgi : i32 i := g1 G
  have hj : ((i.toNat : Nat) : Int) = i := by omega
  have hr := h3 i.toNat (by omega)
  rw [hj] at hr
  rw [List.map_cons, List.map_cons, val_nn h1]
  refine W.zald (v := val g (0, μ a i)) C.1 C.2.1 h2 ((K.2.1 5 (by decide)).1 _ _) (fun q => by cases q) ?_ ?_ rfl rfl hd ?_
  · rw [arrV_size]; exact in32 hgi hi.1 hi.2
  · rw [cl32 hgi, arrV_read _ _ (by omega), hj]; rfl
  · exact k g p l e s m args below meth c H locs ls C K h0 Rp S V (gc (rng_good hr) (g2 (g2 G)))
theorem WP_aaload {a i : Int} {n ci : Nat} (hd : decode md.2.1 pc = .ok (.aaload, 1)) (hk : kd T a = some (10 + ci, n)) (hci : 10 + ci ∈ ([11, 16, 18] : List Nat)) (hi : 0 ≤ i ∧ i < n) (k : WP md R Z T cc ss (pc + 1) L ((2, μ a i) :: st) μ) : WP md R Z T cc ss pc L ((0, i) :: (2, a) :: st) μ := by
  intro g p l e s m args below meth c H locs ls C K h0 Rp S V G
  have hc3 : 10 + ci = 11 ∨ 10 + ci = 16 ∨ 10 + ci = 18 := by simpa using hci
  obtain ⟨h1, h2, h3⟩ := Rp.arr hk (by omega)
  have hgi : i32 i := g1 G
  have hj : ((i.toNat : Nat) : Int) = i := by omega
  have hr := h3 i.toNat (by omega)
  rw [hj] at hr
  have hvt : vt (10 + ci) = 2 := by rcases hc3 with q | q | q <;> rw [q] <;> rfl
  rw [List.map_cons, List.map_cons, val_nn h1]
  have hA := (K.2.1 (10 + ci) (by rcases hc3 with q | q | q <;> rw [q] <;> decide)).1
  refine W.aald (v := val g (2, μ a i)) (ty := et (10 + ci)) C.1 C.2.1 h2 (hA _ _) (by rcases hc3 with q | q | q <;> rw [q] <;> rfl) (fun q => by cases q) ?_ ?_ rfl rfl hd ?_
  · rw [arrV_size]; exact in32 hgi hi.1 hi.2
  · rw [cl32 hgi, arrV_read _ _ (by omega), hj, hvt]
  · have := rng_good hr
    rw [hvt] at this
    exact k g p l e s m args below meth c H locs ls C K h0 Rp S V (gc this (g2 (g2 G)))
theorem WP_arraylength {a : Int} {e n : Nat} (hd : decode md.2.1 pc = .ok (.arraylength, 1)) (hk : kd T a = some (e, n)) (he : e ∈ ([0, 1, 4, 5] : List Nat)) (hn : n < 2147483648) (k : WP md R Z T cc ss (pc + 1) L ((0, (n : Int)) :: st) μ) : WP md R Z T cc ss pc L ((2, a) :: st) μ := by
  intro g p l e' s m args below meth c H locs ls C K h0 Rp S V G
  have hc3 : e = 0 ∨ e = 1 ∨ e = 4 ∨ e = 5 := by simpa using he
  obtain ⟨h1, h2, h3⟩ := Rp.arr hk (by omega)
  rw [List.map_cons, val_nn h1]
  refine W.alen (n := Int32.ofInt n) C.1 C.2.1 h2 ((K.2.1 e (by rcases hc3 with q | q | q | q <;> rw [q] <;> decide)).1 _ _) ?_ rfl rfl hd ?_
  · rw [arrV_size]; exact (Int32.ofInt_eq_ofNat ..).symm
  · exact k g p l e' s m args below meth c H locs ls C K h0 Rp S V (gc (show i32 _ from ⟨by omega, by omega⟩) (g2 G))
theorem toB_r (x : Int) : rng 4 (toB x) := by
  unfold toB rng
  have h1 := Int8.le_toInt (Int32.ofInt x).toInt8
  have h2 := Int8.toInt_lt (Int32.ofInt x).toInt8
  rw [Int8.toInt_toInt32]
  exact ⟨by simpa using h1, by simpa using h2⟩
theorem WP_iastore {a i x : Int} {n : Nat} (hd : decode md.2.1 pc = .ok (.iastore, 1)) (hk : kd T a = some (0, n)) (hi : 0 ≤ i ∧ i < n) (k : WP md R Z T cc ss (pc + 1) L st (mup μ a i x)) : WP md R Z T cc ss pc L ((0, x) :: (0, i) :: (2, a) :: st) μ := by
  intro g p l e s m args below meth c H locs ls C K h0 Rp S V G
  obtain ⟨h1, h2, h3⟩ := Rp.arr hk (by decide)
  have hgi : i32 i := g1 (g2 G)
  have hgx : good (0, x) := g1 G
  rw [List.map_cons, List.map_cons, List.map_cons, val_nn h1]
  refine W.iast C.1 C.2.1 h2 ((K.2.1 0 (by decide)).1 _ _) (fun q => by cases q) ?_ rfl rfl hd (fun H' e1 e2 e3 => ?_)
  · rw [arrV_size]; exact in32 hgi hi.1 hi.2
  · rw [cl32 hgi] at e1 ⊢
    refine k g p l e s m args below meth c H' _ ls C K h0 (Rp.arrset hk (by decide) hi (show rng 0 x from hgx) ?_ e2 e3) (S.put e2 e3 (Nat.le_add_right _ _)) V (g2 (g2 (g2 G)))
    rw [e1]
    rfl
theorem WP_lastore {a i x : Int} {n : Nat} (hd : decode md.2.1 pc = .ok (.lastore, 1)) (hk : kd T a = some (1, n)) (hi : 0 ≤ i ∧ i < n) (k : WP md R Z T cc ss (pc + 1) L st (mup μ a i x)) : WP md R Z T cc ss pc L ((1, x) :: (0, i) :: (2, a) :: st) μ := by
  intro g p l e s m args below meth c H locs ls C K h0 Rp S V G
  obtain ⟨h1, h2, h3⟩ := Rp.arr hk (by decide)
  have hgi : i32 i := g1 (g2 G)
  have hgx : good (1, x) := g1 G
  rw [List.map_cons, List.map_cons, List.map_cons, val_nn h1]
  refine W.last C.1 C.2.1 h2 ((K.2.1 1 (by decide)).1 _ _) (fun q => by cases q) ?_ rfl rfl hd (fun H' e1 e2 e3 => ?_)
  · rw [arrV_size]; exact in32 hgi hi.1 hi.2
  · rw [cl32 hgi] at e1 ⊢
    refine k g p l e s m args below meth c H' _ ls C K h0 (Rp.arrset hk (by decide) hi (show rng 1 x from hgx) ?_ e2 e3) (S.put e2 e3 (Nat.le_add_right _ _)) V (g2 (g2 (g2 G)))
    rw [e1]
    rfl
theorem WP_bastore {a i x : Int} {n : Nat} (hd : decode md.2.1 pc = .ok (.bastore, 1)) (hk : kd T a = some (4, n)) (hi : 0 ≤ i ∧ i < n) (k : WP md R Z T cc ss (pc + 1) L st (mup μ a i (toB x))) : WP md R Z T cc ss pc L ((0, x) :: (0, i) :: (2, a) :: st) μ := by
  intro g p l e s m args below meth c H locs ls C K h0 Rp S V G
  obtain ⟨h1, h2, h3⟩ := Rp.arr hk (by decide)
  have hgi : i32 i := g1 (g2 G)
  have hgx : good (0, x) := g1 G
  rw [List.map_cons, List.map_cons, List.map_cons, val_nn h1]
  refine W.bast C.1 C.2.1 h2 ((K.2.1 4 (by decide)).1 _ _) (fun q => by cases q) ?_ rfl rfl hd (fun H' e1 e2 e3 => ?_)
  · rw [arrV_size]; exact in32 hgi hi.1 hi.2
  · rw [cl32 hgi] at e1 ⊢
    refine k g p l e s m args below meth c H' _ ls C K h0 (Rp.arrset hk (by decide) hi (show rng 4 (toB x) from toB_r x) ?_ e2 e3) (S.put e2 e3 (Nat.le_add_right _ _)) V (g2 (g2 (g2 G)))
    rw [e1]
    rw [show val g (vt 4, toB x) = .int (Int32.ofInt (toB x)) from rfl, toB, oi32]
    rfl
theorem WP_zastore {a i x : Int} {n : Nat} (hd : decode md.2.1 pc = .ok (.bastore, 1)) (hk : kd T a = some (5, n)) (hi : 0 ≤ i ∧ i < n) (hx : 0 ≤ x ∧ x ≤ 1) (k : WP md R Z T cc ss (pc + 1) L st (mup μ a i x)) : WP md R Z T cc ss pc L ((0, x) :: (0, i) :: (2, a) :: st) μ := by
  intro g p l e s m args below meth c H locs ls C K h0 Rp S V G
  obtain ⟨h1, h2, h3⟩ := Rp.arr hk (by decide)
  have hgi : i32 i := g1 (g2 G)
  have hgx : good (0, x) := g1 G
  rw [List.map_cons, List.map_cons, List.map_cons, val_nn h1]
  refine W.zast C.1 C.2.1 h2 ((K.2.1 5 (by decide)).1 _ _) (fun q => by cases q) ?_ rfl rfl hd (fun H' e1 e2 e3 => ?_)
  · rw [arrV_size]; exact in32 hgi hi.1 hi.2
  · rw [cl32 hgi] at e1 ⊢
    refine k g p l e s m args below meth c H' _ ls C K h0 (Rp.arrset hk (by decide) hi (show rng 5 x from hx) ?_ e2 e3) (S.put e2 e3 (Nat.le_add_right _ _)) V (g2 (g2 (g2 G)))
    rw [e1]
    have hx2 : x = 0 ∨ x = 1 := by omega
    rcases hx2 with rfl | rfl <;> rfl
theorem WP_aastore {a i b : Int} {n ci nb : Nat} (hd : decode md.2.1 pc = .ok (.aastore, 1)) (hk : kd T a = some (10 + ci, n)) (hci : 10 + ci ∈ ([11, 16, 18] : List Nat)) (hkb : kd T b = some (30 + ci, nb)) (hi : 0 ≤ i ∧ i < n) (k : WP md R Z T cc ss (pc + 1) L st (mup μ a i b)) : WP md R Z T cc ss pc L ((2, b) :: (0, i) :: (2, a) :: st) μ := by
  intro g p l e s m args below meth c H locs ls C K h0 Rp S V G
  have hc3 : 10 + ci = 11 ∨ 10 + ci = 16 ∨ 10 + ci = 18 := by simpa using hci
  obtain ⟨h1, h2, h3⟩ := Rp.arr hk (by omega)
  obtain ⟨kb, rfl, hqb⟩ := kd_spec hkb
  obtain ⟨⟨cellB, b1, b2, b3, b4⟩, -, rb, hrb, -⟩ := (Rp.2 kb _ hqb).2 (by simp)
  simp only [Nat.add_sub_cancel_left] at b2 b4 hrb
  have hgi : i32 i := g1 (g2 G)
  have hcls := (K.1 ci rb hrb).2
  obtain ⟨hcC, kC, hkC, -⟩ := id hcls
  have hA := K.2.1 (10 + ci) (by rcases hc3 with q | q | q <;> rw [q] <;> decide)
  have het : et (10 + ci) = .object rb.1 := by
    rcases hc3 with q | q | q
    · obtain rfl : ci = 1 := by omega
      cases hrb; rfl
    · obtain rfl : ci = 6 := by omega
      cases hrb; rfl
    · obtain rfl : ci = 8 := by omega
      cases hrb; rfl
  have hRA := hA.2
  rw [het] at hRA
  obtain ⟨kA, comp, k1, k2, k3, -⟩ := hRA
  have hcomp : comp = g.2.1.1 ci := Option.some.inj (k3.symm.trans hcC)
  subst hcomp
  have hvt : vt (10 + ci) = 2 := by rcases hc3 with q | q | q <;> rw [q] <;> rfl
  rw [List.map_cons, List.map_cons, List.map_cons, val_nn h1, val_ad]
  refine W.aast C.1 C.2.1 h2 (fun q h => by cases h) (fun h => by cases h) k1 k2 rfl hkC ⟨?_, ?_⟩ b1 (fun q h => by rw [b3] at h; cases h) (by rw [b2]; exact hkC) (by rw [b2]; exact va_assign hcls) rfl rfl hd fun H' e1 e2 e3 => ?_
  · exact fun z => in32 hgi hi.1 hi.2 (Or.inl z)
  · rw [cl32 hgi, arrV_size]; omega
  · rw [cl32 hgi] at e1 ⊢
    refine k g p l e s m args below meth c H' _ ls C K h0 (Rp.arrset hk (by omega) hi (x := (kb : Int)) ?_ ?_ e2 e3) (S.put e2 e3 (Nat.le_add_right _ _)) V (g2 (g2 (g2 G)))
    · rcases hc3 with q | q | q <;> rw [q] <;> exact (show (-1 : Int) ≤ kb by omega)
    · rw [e1, hvt, val_ad]
end WPA

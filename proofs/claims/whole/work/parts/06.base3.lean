/-! BASE 3: the memory's rows -/
def mup (μ : Mem) (a i x : Int) : Mem := fun b j => if b = a ∧ j = i then x else μ b j
theorem upd_ne {μ : Mem} {a i x b j : Int} (h : b ≠ a) : mup μ a i x b j = μ b j := by simp [mup, h]
theorem kd_spec {T : Wd} {a : Int} {q : Nat × Nat} (h : kd T a = some q) : ∃ k : Nat, a = (k : Int) ∧ T.1[k]? = some q := by
  unfold kd at h
  split at h
  · cases h
  · exact ⟨a.toNat, by omega, h⟩
theorem kd_lt {T : Wd} {a : Int} {q : Nat × Nat} (h : kd T a = some q) : 0 ≤ a ∧ a < T.1.length := by
  obtain ⟨k, rfl, e⟩ := kd_spec h
  have := (List.getElem?_eq_some_iff.mp e).1
  omega
theorem val_ad (g : GW) (k : Nat) : val g (2, (k : Int)) = .ref (g.1 + k) := by
  have : ¬ ((k : Int) < 0) := by omega
  simp [val, this]
theorem val_nn {g : GW} {a : Int} (h : 0 ≤ a) : val g (2, a) = .ref (g.1 + a.toNat) := by
  have : ¬ (a < 0) := by omega
  simp [val, this]
theorem cellA.kept {g : GW} {μ μ' : Mem} {k : Nat} {q : Nat × Nat} {H H' : Heap} (h : cellA g μ k q H) (hH : H'[g.1 + k]? = H[g.1 + k]?) (hμ : ∀ i, μ' k i = μ k i) : cellA g μ' k q H' := by
  refine ⟨?_, fun j hj => by rw [hμ]; exact h.2 j hj⟩
  rw [hH, h.1]
  simp only [hμ]
theorem cellO.kept {g : GW} {T : Wd} {μ μ' : Mem} {k : Nat} {q : Nat × Nat} {H H' : Heap} (h : cellO g T μ k q H) (hH : H'[g.1 + k]? = H[g.1 + k]?) (hμ : ∀ i, μ' k i = μ k i) : cellO g T μ' k q H' := by
  have e : ∀ j : Nat, fv T μ' (q.1 - 30) k j = fv T μ (q.1 - 30) k j := fun j => by simp only [fv, hμ]
  refine ⟨?_, fun j hj => by rw [e]; exact h.2.1 j hj, h.2.2⟩
  simp only [e]
  exact h.1.kept hH
theorem Rep.upd {g : GW} {T : Wd} {μ μ' : Mem} {H H' : Heap} {k : Nat} {q : Nat × Nat} (hR : Rep g T μ H) (hq : T.1[k]? = some q) (hs : H'.size = H.size) (ho : ∀ p, p ≠ g.1 + k → H'[p]? = H[p]?)
    (hnew : (q.1 < 30 → cellA g μ' k q H') ∧ (30 ≤ q.1 → cellO g T μ' k q H')) (hμ : ∀ b i, b ≠ (k : Int) → μ' b i = μ b i) : Rep g T μ' H' := by
  refine ⟨hs.trans hR.1, fun k' q' hq' => ?_⟩
  by_cases hk : k' = k
  · subst hk
    rw [hq] at hq'
    cases hq'
    exact hnew
  · have h1 : H'[g.1 + k']? = H[g.1 + k']? := ho _ (by omega)
    have h2 : ∀ i, μ' k' i = μ k' i := fun i => hμ _ _ (by omega)
    exact ⟨fun z => ((hR.2 k' q' hq').1 z).kept h1 h2, fun z => ((hR.2 k' q' hq').2 z).kept h1 h2⟩
def FL (own : String) (idx ci j : Nat) : Prop := ∃ r : vw_C, cls0[ci]? = some r ∧ j < r.2.2 ∧ Cond.fieldLink own idx (r.2.1 j).1 (r.2.1 j).2.1 (r.2.1 j).2.2.1 ∈ UW
theorem cls_ok : ∀ (ci : Nat) (r : vw_C), cls0[ci]? = some r → (∀ w ∈ u_ws r.1 r.2.1 r.2.2, w ∈ UW) ∧ (∀ k, k < r.2.2 → parseFieldDescriptor (r.2.1 k).2.2.1 = some (fty ci k)) ∧ ∀ a, a < r.2.2 → ∀ b, b < r.2.2 → a ≠ b → (r.2.1 a).2.1 ≠ (r.2.1 b).2.1 := by
  intro ci r h
  have gw : ∀ (ws : List Cond), (∀ w ∈ ws, w ∈ lw_tbl) → ws.all goodWord = true → ∀ w ∈ ws, w ∈ UW := fun ws h1 h2 w hw => mUW (h1 w hw) (List.all_eq_true.mp h2 w hw)
  match ci, h with
  | 0, h => cases h; exact ⟨gw _ inX0 (by decide +kernel), tyX0_ok, nmX0⟩
  | 1, h => cases h; exact ⟨gw _ inX1 (by decide +kernel), tyX1_ok, nmX1⟩
  | 2, h => cases h; exact ⟨gw _ inX2 (by decide +kernel), tyX2_ok, nmX2⟩
  | 3, h => cases h; exact ⟨gw _ inX3 (by decide +kernel), tyX3_ok, nmX3⟩
  | 4, h => cases h; exact ⟨gw _ inX4 (by decide +kernel), tyX4_ok, nmX4⟩
  | 5, h => cases h; exact ⟨gw _ inX5 (by decide +kernel), tyX5_ok, nmX5⟩
  | 6, h => cases h; exact ⟨gw _ inX6 (by decide +kernel), tyX6_ok, nmX6⟩
  | 7, h => cases h; exact ⟨gw _ inX7 (by decide +kernel), tyX7_ok, nmX7⟩
  | 8, h => cases h; exact ⟨gw _ inX8 (by decide +kernel), tyX8_ok, nmX8⟩
  | 9, h => cases h; exact ⟨gw _ inX9 (by decide +kernel), tyX9_ok, nmX9⟩
  | 10, h => cases h; exact ⟨gw _ inX10 (by decide +kernel), tyX10_ok, nmX10⟩
  | n + 11, h => simp at h
/-- the types of the fields that are there -/
def okF : FieldType → Bool
  | .int | .long | .boolean | .object _ | .array _ => true
  | _ => false
theorem val_fit (g : GW) {ty : FieldType} {x : Int} (ho : okF ty = true) (h : rng (ftc ty) x) : narrow ty (val g (vt (ftc ty), x)) = val g (vt (ftc ty), x) ∧ fits ty (val g (vt (ftc ty), x)) = true := by
  have hr : ∀ v : AV, v.1 = 2 → ∀ n, (narrow (.object n) (val g v) = val g v ∧ fits (.object n) (val g v) = true) ∧ ∀ t, narrow (.array t) (val g v) = val g v ∧ fits (.array t) (val g v) = true := by
    intro v hv n
    rcases val_ref g v (by omega) (by omega) with e | ⟨a, e⟩ <;> rw [e] <;> exact ⟨⟨rfl, rfl⟩, fun t => ⟨rfl, rfl⟩⟩
  cases ty with
  | int => exact ⟨rfl, rfl⟩
  | long => exact ⟨rfl, rfl⟩
  | boolean =>
    have hx : x = 0 ∨ x = 1 := by have h1 := h.1; have h2 := h.2; omega
    rcases hx with rfl | rfl <;> exact ⟨rfl, rfl⟩
  | object n => exact (hr (2, x) rfl n).1
  | array t => exact (hr (2, x) rfl "").2 t
  | _ => cases ho
section WPH
variable {md : MD} {R : Room} {Z : ZT} {T : Wd} {cc ss : Nat} {pc pc' : Nat} {L L' st st' : List AV} {μ : Mem}
theorem WP_getfield {idx ci j n t : Nat} {a x : Int} (hd : decode md.2.1 pc = .ok (.getfield idx, 3)) (hF : FL md.1.cls idx ci j) (hk : kd T a = some (30 + ci, n)) (ht : vt (ftc (fty ci j)) = t) (hx : fv T μ ci a j = x)
    (k : WP md R Z T cc ss (pc + 3) L ((t, x) :: st) μ) : WP md R Z T cc ss pc L ((2, a) :: st) μ := by
  intro g p l e s m args below meth c H locs ls C K h0 Rp S V G
  obtain ⟨i, rfl, hq⟩ := kd_spec hk
  obtain ⟨⟨cell, q1, q2, q3, q4⟩, hg, r0, hr0, hn0⟩ := (Rp.2 i _ hq).2 (by simp)
  simp only [Nat.add_sub_cancel_left] at q2 q4 hg hr0
  obtain ⟨r, hr, hj, hw⟩ := hF
  rw [hr] at hr0
  obtain rfl : r = r0 := Option.some.inj hr0
  obtain ⟨hS, hfc, kC, hkC, hkind⟩ := K.1 ci r hr
  obtain ⟨cf, kf, fi, f, hi, hsl⟩ := hS j hj
  have hst := (u_facts hfc hkC (u_lays C.2.2.2.2.2.1 (cls_ok ci r hr).1 hj) hi).1
  rw [List.map_cons, val_ad]
  subst hx ht
  refine W.getf C.1 C.2.1 C.2.2.2.2.1 (C.2.2.2.2.2.1 _ hw) hi hst q1 (by rw [q3]; exact fun h => by cases h) (v := val g (vt (ftc (fty ci j)), fv T μ ci i j)) ?_ rfl rfl hd ?_
  · rw [hsl, q4 j (by omega)]
  · exact k g p l e s m args below meth c H locs ls C K h0 Rp S V (gc (rng_good (hg j (by omega))) (g2 G))
theorem WP_put0 {idx ci j n t : Nat} {a x : Int} (hd : decode md.2.1 pc = .ok (.putfield idx, 3)) (hF : FL md.1.cls idx ci j) (hk : kd T a = some (30 + ci, n)) (hfo : T.2.1 ci j = none)
    (hfin : ∀ r : vw_C, cls0[ci]? = some r → (r.2.1 j).2.2.2 = false ∨ ((r.2.1 j).2.2.2 = true ∧ md.1.name = "<init>" ∧ (r.2.1 j).1 = md.1.cls)) (hok : okF (fty ci j) = true) (ht : vt (ftc (fty ci j)) = t) (hb : ftc (fty ci j) = 5 → 0 ≤ x ∧ x ≤ 1)
    (k : WP md R Z T cc ss (pc + 3) L st (mup μ a j x)) : WP md R Z T cc ss pc L ((t, x) :: (2, a) :: st) μ := by
  intro g p l e s m args below meth c H locs ls C K h0 Rp S V G
  subst ht
  obtain ⟨i, rfl, hq⟩ := kd_spec hk
  obtain ⟨⟨cell, q1, q2, q3, q4⟩, hg, r0, hr0, hn0⟩ := (Rp.2 i _ hq).2 (by simp)
  simp only [Nat.add_sub_cancel_left] at q2 q4 hg hr0
  obtain ⟨r, hr, hj, hw⟩ := hF
  rw [hr] at hr0
  obtain rfl : r = r0 := Option.some.inj hr0
  have hcls := cls_ok ci r hr
  have hts := C.2.2.2.2.2.1
  obtain ⟨hS, hfc, kC, hkC, hkind⟩ := K.1 ci r hr
  obtain ⟨cf, kf, fi, f, hi, hsl⟩ := hS j hj
  have hst := (u_facts hfc hkC (u_lays hts hcls.1 hj) hi).1
  have hap : ∀ x y, x < r.2.2 → y < r.2.2 → x ≠ y → (g.2.1.2 ci) x ≠ (g.2.1.2 ci) y :=
    va_apart (D := g.2.1) (cl := cls0) (tys := []) (own := md.1.cls) hts hcls.1 (fty ci) hcls.2.1 hcls.2.2 ⟨K.1, fun k q hk => by simp at hk⟩ hr
  have hrng : rng (ftc (fty ci j)) x := by
    have hgx : good (vt (ftc (fty ci j)), x) := g1 G
    revert hgx hb hok
    cases fty ci j <;> intro hok hb hgx <;> first | exact hgx | exact hb rfl | cases hok
  have hnf := val_fit g hok hrng
  have hlay := hts _ (hcls.1 _ (u_in_lay hj))
  have kk : ∀ H' : Heap, H'[g.1 + i]? = some (cell.setSlot f.slot (val g (vt (ftc (fty ci j)), x))) → H'.size = H.size → (∀ q, q ≠ g.1 + i → H'[q]? = H[q]?) →
      W p l e R s m args below meth c H' (locs ++ [⟨g.1 + i, f.slot⟩]) cc ss (Z g below args s) { (F0 m pc ls (((vt (ftc (fty ci j)), x) :: (2, (i : Int)) :: st).map (val g))) with pc := pc + 3, stack := st.map (val g) } := by
    intro H' e1 e2 e3
    refine k g p l e s m args below meth c H' _ ls C K h0 ?_ (S.put e2 e3 (Nat.le_add_right _ _)) V (g2 (g2 G))
    refine Rp.upd hq e2 e3 ⟨fun z => absurd z (by simp only; omega), fun _ => ⟨⟨_, e1, ?_, q3, fun j' hj' => ?_⟩, fun j' hj' => ?_, r, by simpa using hr, hn0⟩⟩ (fun b i' hb => upd_ne hb)
    · simp only [Nat.add_sub_cancel_left]; exact q2
    · simp only [Nat.add_sub_cancel_left]
      have hset := t_set (V := fun j => val g (vt (ftc (fty ci j)), fv T μ ci i j)) (N := r.2.2) (fun k hk => q4 k (by omega)) hap hj (val g (vt (ftc (fty ci j)), x)) j' (by omega)
      rw [hsl, hset]
      congr 1
      unfold updV
      by_cases hjj : j' = j
      · subst hjj
        rw [if_pos rfl]
        simp [fv, hfo, mup]
      · rw [if_neg hjj]
        simp only [fv]
        split
        · rfl
        · have hj3 : ¬ ((j' : Int) = (j : Int)) := by omega
          simp [mup, hj3]
    · simp only [Nat.add_sub_cancel_left]
      by_cases hjj : j' = j
      · subst hjj
        simpa [fv, hfo, mup] using hrng
      · have := hg j' hj'
        simp only [fv] at this ⊢
        split
        · rename_i d hd'
          rw [hd'] at this
          exact this
        · rename_i hd'
          rw [hd'] at this
          have hj3 : ¬ ((j' : Int) = (j : Int)) := by omega
          simpa [mup, hj3] using this
  rw [List.map_cons, List.map_cons, val_ad]
  rcases hfin r hr with hf | ⟨hf, hinit, hdecl⟩
  · unfold u_lay at hlay
    rw [if_neg (by rw [hf]; decide)] at hlay
    have h6 := u_store hfc hkC hkind hlay hi (hcls.2.1 j hj) hnf.1 hnf.2
    exact W.putK C.1 C.2.1 (f := f) ⟨C.2.2.2.2.1, hts _ hw, ⟨_, _, _, hi⟩, hst⟩ (by rw [q2]; exact h6) q1 q3 (by rw [hsl]; exact k2_hasslot (q4 j (by omega))) rfl rfl hd kk
  · unfold u_lay at hlay
    rw [if_pos hf] at hlay
    have hcf : m.cls = cf := by
      obtain ⟨_, _, c', _, _, _, -, -, hf', -, -, -, hown2, -⟩ := Cond.laysFinal_spec hlay
      have e1 : c' = cf := by have := hi.symm.trans hf'; simp at this; exact this.1.symm
      rw [hdecl] at hown2
      rw [← e1]; exact Option.some.inj (C.2.2.2.2.1.symm.trans hown2)
    have h6 := u_fits hfc hkC hkind (Or.inr hlay) hi (hcls.2.1 j hj) hnf.1 hnf.2
    exact W.putFinK C.1 C.2.1 C.2.2.2.2.1 (hts _ hw) hi hst hcf (C.2.2.2.2.2.2.2.trans hinit) (by rw [q2]; exact h6) q1 q3 (by rw [hsl]; exact k2_hasslot (q4 j (by omega))) rfl rfl hd kk
end WPH

/-! THE LAW'S LOOP: its cases -/
abbrev WL (sc : SC) (Z : ZT) (pc : Nat) (L st : List AV) (μ : Mem) : Prop := WP mL_law room_1 Z (TT sc) 600000 7302250 pc L st μ
theorem WL_invVi {sc : SC} {Z : ZT} {pc : Nat} {L st : List AV} {μ : Mem} {idx : Nat} {md' : MD} {v : AV} {as stk : List AV} {P : Int → Mem → Prop} (hd : decode mL_law.2.1 pc = .ok (.invokevirtual idx, 3)) (hl : Cond.methodLink mL_law.1.cls idx md'.1 ∈ UW) (hM : MW md') (hi : Cond.instanceMethod md'.1 ∈ UW) (hs : Cond.selects md'.1.cls md'.1 md'.1 ∈ UW) (hok : MOK md' as.length) (hv : RCV (TT sc) md'.1.cls v) (hst : stc st ≤ 8) (h : CAi md' 100 sc (v :: as) μ P) (hk : stk = (as.reverse ++ v :: st)) (k : ∀ x μ', P x μ' → WL sc Z (pc + 3) L ((0, x) :: st) μ') : WL sc Z pc L stk μ := by
  subst hk
  obtain ⟨d', Q, hd', hc, hk⟩ := h
  refine WP_invV (md := mL_law) (d' := d') (mc := 0) (ms := 0) hd hl hM hi hs hok hv ⟨by show d' + 1 ≤ 2048; omega, by show 64 * (d' + 1) ≤ 84000; omega⟩ hst ⟨Nat.le_refl _, Nat.le_refl _⟩ hc (fun r K' μ' hq => ?_)
  obtain ⟨rfl, x, rfl, hq⟩ := hq
  exact fun g p l e s m args below meth c H locs ls C K h0 Rp S V G => k x μ' (hk x μ' hq (g1 G)) g p l e s m args below meth c H locs ls C K h0 Rp S V G
theorem WL_invVl {sc : SC} {Z : ZT} {pc : Nat} {L st : List AV} {μ : Mem} {idx : Nat} {md' : MD} {v : AV} {as stk : List AV} {P : Int → Mem → Prop} (hd : decode mL_law.2.1 pc = .ok (.invokevirtual idx, 3)) (hl : Cond.methodLink mL_law.1.cls idx md'.1 ∈ UW) (hM : MW md') (hi : Cond.instanceMethod md'.1 ∈ UW) (hs : Cond.selects md'.1.cls md'.1 md'.1 ∈ UW) (hok : MOK md' as.length) (hv : RCV (TT sc) md'.1.cls v) (hst : stc st ≤ 8) (h : CAl md' 100 sc (v :: as) μ P) (hk : stk = (as.reverse ++ v :: st)) (k : ∀ x μ', P x μ' → WL sc Z (pc + 3) L ((1, x) :: st) μ') : WL sc Z pc L stk μ := by
  subst hk
  obtain ⟨d', Q, hd', hc, hk⟩ := h
  refine WP_invV (md := mL_law) (d' := d') (mc := 0) (ms := 0) hd hl hM hi hs hok hv ⟨by show d' + 1 ≤ 2048; omega, by show 64 * (d' + 1) ≤ 84000; omega⟩ hst ⟨Nat.le_refl _, Nat.le_refl _⟩ hc (fun r K' μ' hq => ?_)
  obtain ⟨rfl, x, rfl, hq⟩ := hq
  exact k x μ' (hk x μ' hq)
theorem lCmp_same (x : Int) : lCmp x x = 0 := by unfold lCmp; rw [if_neg (by omega), if_pos rfl]
theorem lc_0 {sc : SC} {Z : ZT} {μ : Mem} {A : StT} {i : Int} (hi : 0 ≤ i ∧ i + 6 ≤ (sc.1 : Int) ∧ (sc.1 : Int) ≤ 3072) (hsc : ∀ j, i32 (sc.2 j)) (h : RB μ A) (k : ∀ A' μ', RB μ' A' → WL sc Z 1480 [(4, 0), (2, 0), (2, 183), (0, i)] [] μ') : WL sc Z 208 [(4, 0), (2, 0), (2, 183), (0, i)] [] μ := by
  refine WP_aload_n dL_law_208 rfl rfl ⟨Nat.le_of_ble_eq_true rfl, Nat.le_of_ble_eq_true rfl⟩ ?_
  refine WP_aload_n dL_law_209 rfl rfl ⟨Nat.le_of_ble_eq_true rfl, Nat.le_of_ble_eq_true rfl⟩ ?_
  refine WP_iload_n dL_law_210 rfl rfl ?_
  refine WP_iconst dL_law_211 (by decide) ?_
  refine WP_iadd dL_law_212 ⟨by omega, by omega⟩ ?_
  refine WP_sld dL_law_213 ⟨by omega, by show _ < (sc.1 : Int); omega⟩ ?_
  refine WP_aload_n dL_law_214 rfl rfl ⟨Nat.le_of_ble_eq_true rfl, Nat.le_of_ble_eq_true rfl⟩ ?_
  refine WP_iload_n dL_law_215 rfl rfl ?_
  refine WP_iconst dL_law_216 (by decide) ?_
  refine WP_iadd dL_law_217 ⟨by omega, by omega⟩ ?_
  refine WP_sld dL_law_218 ⟨by omega, by show _ < (sc.1 : Int); omega⟩ ?_
  refine WP_aload_n dL_law_219 rfl rfl ⟨Nat.le_of_ble_eq_true rfl, Nat.le_of_ble_eq_true rfl⟩ ?_
  refine WP_iload_n dL_law_220 rfl rfl ?_
  refine WP_iconst dL_law_221 (by decide) ?_
  refine WP_iadd dL_law_222 ⟨by omega, by omega⟩ ?_
  refine WP_sld dL_law_223 ⟨by omega, by show _ < (sc.1 : Int); omega⟩ ?_
  refine WP_aload_n dL_law_224 rfl rfl ⟨Nat.le_of_ble_eq_true rfl, Nat.le_of_ble_eq_true rfl⟩ ?_
  refine WP_iload_n dL_law_225 rfl rfl ?_
  refine WP_iconst dL_law_226 (by decide) ?_
  refine WP_iadd dL_law_227 ⟨by omega, by omega⟩ ?_
  refine WP_sld dL_law_228 ⟨by omega, by show _ < (sc.1 : Int); omega⟩ ?_
  refine WP_aload_n dL_law_229 rfl rfl ⟨Nat.le_of_ble_eq_true rfl, Nat.le_of_ble_eq_true rfl⟩ ?_
  refine WP_iload_n dL_law_230 rfl rfl ?_
  refine WP_iconst dL_law_231 (by decide) ?_
  refine WP_iadd dL_law_232 ⟨by omega, by omega⟩ ?_
  refine WP_sld dL_law_233 ⟨by omega, by show _ < (sc.1 : Int); omega⟩ ?_
  refine WL_invVi (v := (2, 0)) (as := [(0, sc.2 (i + 1)), (0, sc.2 (i + 2)), (0, sc.2 (i + 3)), (0, sc.2 (i + 4)), (0, sc.2 (i + 5))]) dL_law_234 l_L_13 mw_X9_feed mi_X9_feed ms_X9_feed mo_X9_feed (rcv (ci := 9) (n := 20) (r := (RX9, TX9, 20)) k_0 rfl rfl) (Nat.le_of_ble_eq_true rfl) (lk_feed (sc := sc) (a := sc.2 (i + 1)) (b := sc.2 (i + 2)) (c := sc.2 (i + 3)) (e := sc.2 (i + 4)) (g := sc.2 (i + 5)) h (hsc _) (hsc _) (hsc _) (hsc _) (hsc _)) rfl (fun x μx h => ?_)
  refine WP_aload_n dL_law_237 rfl rfl ⟨Nat.le_of_ble_eq_true rfl, Nat.le_of_ble_eq_true rfl⟩ ?_
  refine WP_aload_n dL_law_238 rfl rfl ⟨Nat.le_of_ble_eq_true rfl, Nat.le_of_ble_eq_true rfl⟩ ?_
  refine WP_iload_n dL_law_239 rfl rfl ?_
  refine WP_iconst dL_law_240 (by decide) ?_
  refine WP_iadd dL_law_241 ⟨by omega, by omega⟩ ?_
  refine WP_sld dL_law_242 ⟨by omega, by show _ < (sc.1 : Int); omega⟩ ?_
  refine WP_aload_n dL_law_243 rfl rfl ⟨Nat.le_of_ble_eq_true rfl, Nat.le_of_ble_eq_true rfl⟩ ?_
  refine WP_iload_n dL_law_244 rfl rfl ?_
  refine WP_iconst dL_law_245 (by decide) ?_
  refine WP_iadd dL_law_246 ⟨by omega, by omega⟩ ?_
  refine WP_sld dL_law_247 ⟨by omega, by show _ < (sc.1 : Int); omega⟩ ?_
  refine WP_aload_n dL_law_248 rfl rfl ⟨Nat.le_of_ble_eq_true rfl, Nat.le_of_ble_eq_true rfl⟩ ?_
  refine WP_iload_n dL_law_249 rfl rfl ?_
  refine WP_iconst dL_law_250 (by decide) ?_
  refine WP_iadd dL_law_251 ⟨by omega, by omega⟩ ?_
  refine WP_sld dL_law_252 ⟨by omega, by show _ < (sc.1 : Int); omega⟩ ?_
  refine WP_aload_n dL_law_253 rfl rfl ⟨Nat.le_of_ble_eq_true rfl, Nat.le_of_ble_eq_true rfl⟩ ?_
  refine WP_iload_n dL_law_254 rfl rfl ?_
  refine WP_iconst dL_law_255 (by decide) ?_
  refine WP_iadd dL_law_256 ⟨by omega, by omega⟩ ?_
  refine WP_sld dL_law_257 ⟨by omega, by show _ < (sc.1 : Int); omega⟩ ?_
  refine WP_aload_n dL_law_258 rfl rfl ⟨Nat.le_of_ble_eq_true rfl, Nat.le_of_ble_eq_true rfl⟩ ?_
  refine WP_iload_n dL_law_259 rfl rfl ?_
  refine WP_iconst dL_law_260 (by decide) ?_
  refine WP_iadd dL_law_261 ⟨by omega, by omega⟩ ?_
  refine WP_sld dL_law_262 ⟨by omega, by show _ < (sc.1 : Int); omega⟩ ?_
  refine WL_invVi (v := (2, 183)) (as := [(0, sc.2 (i + 1)), (0, sc.2 (i + 2)), (0, sc.2 (i + 3)), (0, sc.2 (i + 4)), (0, sc.2 (i + 5))]) dL_law_263 l_L_17 mw_X10_feed mi_X10_feed ms_X10_feed mo_X10_feed (rcv (ci := 10) (n := 49) (r := (RX10, TX10, 49)) k_183 rfl rfl) (Nat.le_of_ble_eq_true rfl) h rfl (fun y μy h => ?_)
  obtain ⟨rfl, A', h⟩ := h
  exact WP_icmp_eq (tgt := 1480) dL_law_266 (by decide) (fun _ => k A' _ h) (fun q => absurd rfl q)
theorem lc_1 {sc : SC} {Z : ZT} {μ : Mem} {A : StT} {i : Int} (hi : 0 ≤ i ∧ i + 6 ≤ (sc.1 : Int) ∧ (sc.1 : Int) ≤ 3072) (hsc : ∀ j, i32 (sc.2 j)) (h : RB μ A) (k : ∀ A' μ', RB μ' A' → WL sc Z 1480 [(4, 0), (2, 0), (2, 183), (0, i)] [] μ') : WL sc Z 271 [(4, 0), (2, 0), (2, 183), (0, i)] [] μ := by
  refine WP_aload_n dL_law_271 rfl rfl ⟨Nat.le_of_ble_eq_true rfl, Nat.le_of_ble_eq_true rfl⟩ ?_
  refine WP_aload_n dL_law_272 rfl rfl ⟨Nat.le_of_ble_eq_true rfl, Nat.le_of_ble_eq_true rfl⟩ ?_
  refine WP_iload_n dL_law_273 rfl rfl ?_
  refine WP_iconst dL_law_274 (by decide) ?_
  refine WP_iadd dL_law_275 ⟨by omega, by omega⟩ ?_
  refine WP_sld dL_law_276 ⟨by omega, by show _ < (sc.1 : Int); omega⟩ ?_
  refine WL_invVi (v := (2, 0)) (as := [(0, sc.2 (i + 1))]) dL_law_277 l_L_18 mw_X9_hill mi_X9_hill ms_X9_hill mo_X9_hill (rcv (ci := 9) (n := 20) (r := (RX9, TX9, 20)) k_0 rfl rfl) (Nat.le_of_ble_eq_true rfl) (lk_hill (sc := sc) (a := sc.2 (i + 1)) h) rfl (fun x μx h => ?_)
  refine WP_aload_n dL_law_280 rfl rfl ⟨Nat.le_of_ble_eq_true rfl, Nat.le_of_ble_eq_true rfl⟩ ?_
  refine WP_aload_n dL_law_281 rfl rfl ⟨Nat.le_of_ble_eq_true rfl, Nat.le_of_ble_eq_true rfl⟩ ?_
  refine WP_iload_n dL_law_282 rfl rfl ?_
  refine WP_iconst dL_law_283 (by decide) ?_
  refine WP_iadd dL_law_284 ⟨by omega, by omega⟩ ?_
  refine WP_sld dL_law_285 ⟨by omega, by show _ < (sc.1 : Int); omega⟩ ?_
  refine WL_invVi (v := (2, 183)) (as := [(0, sc.2 (i + 1))]) dL_law_286 l_L_22 mw_X10_hill mi_X10_hill ms_X10_hill mo_X10_hill (rcv (ci := 10) (n := 49) (r := (RX10, TX10, 49)) k_183 rfl rfl) (Nat.le_of_ble_eq_true rfl) h rfl (fun y μy h => ?_)
  obtain ⟨rfl, A', h⟩ := h
  exact WP_icmp_eq (tgt := 1480) dL_law_289 (by decide) (fun _ => k A' _ h) (fun q => absurd rfl q)
theorem lc_2 {sc : SC} {Z : ZT} {μ : Mem} {A : StT} {i : Int} (hi : 0 ≤ i ∧ i + 6 ≤ (sc.1 : Int) ∧ (sc.1 : Int) ≤ 3072) (hsc : ∀ j, i32 (sc.2 j)) (h : RB μ A) (k : ∀ A' μ', RB μ' A' → WL sc Z 1480 [(4, 0), (2, 0), (2, 183), (0, i)] [] μ') : WL sc Z 294 [(4, 0), (2, 0), (2, 183), (0, i)] [] μ := by
  refine WP_aload_n dL_law_294 rfl rfl ⟨Nat.le_of_ble_eq_true rfl, Nat.le_of_ble_eq_true rfl⟩ ?_
  refine WP_aload_n dL_law_295 rfl rfl ⟨Nat.le_of_ble_eq_true rfl, Nat.le_of_ble_eq_true rfl⟩ ?_
  refine WP_iload_n dL_law_296 rfl rfl ?_
  refine WP_iconst dL_law_297 (by decide) ?_
  refine WP_iadd dL_law_298 ⟨by omega, by omega⟩ ?_
  refine WP_sld dL_law_299 ⟨by omega, by show _ < (sc.1 : Int); omega⟩ ?_
  refine WL_invVi (v := (2, 0)) (as := [(0, sc.2 (i + 1))]) dL_law_300 l_L_23 mw_X9_fault mi_X9_fault ms_X9_fault mo_X9_fault (rcv (ci := 9) (n := 20) (r := (RX9, TX9, 20)) k_0 rfl rfl) (Nat.le_of_ble_eq_true rfl) (lk_fault (sc := sc) (a := sc.2 (i + 1)) h) rfl (fun x μx h => ?_)
  refine WP_aload_n dL_law_303 rfl rfl ⟨Nat.le_of_ble_eq_true rfl, Nat.le_of_ble_eq_true rfl⟩ ?_
  refine WP_aload_n dL_law_304 rfl rfl ⟨Nat.le_of_ble_eq_true rfl, Nat.le_of_ble_eq_true rfl⟩ ?_
  refine WP_iload_n dL_law_305 rfl rfl ?_
  refine WP_iconst dL_law_306 (by decide) ?_
  refine WP_iadd dL_law_307 ⟨by omega, by omega⟩ ?_
  refine WP_sld dL_law_308 ⟨by omega, by show _ < (sc.1 : Int); omega⟩ ?_
  refine WL_invVi (v := (2, 183)) (as := [(0, sc.2 (i + 1))]) dL_law_309 l_L_26 mw_X10_fault mi_X10_fault ms_X10_fault mo_X10_fault (rcv (ci := 10) (n := 49) (r := (RX10, TX10, 49)) k_183 rfl rfl) (Nat.le_of_ble_eq_true rfl) h rfl (fun y μy h => ?_)
  obtain ⟨rfl, A', h⟩ := h
  exact WP_icmp_eq (tgt := 1480) dL_law_312 (by decide) (fun _ => k A' _ h) (fun q => absurd rfl q)
theorem lc_3 {sc : SC} {Z : ZT} {μ : Mem} {A : StT} {i : Int} (hi : 0 ≤ i ∧ i + 6 ≤ (sc.1 : Int) ∧ (sc.1 : Int) ≤ 3072) (hsc : ∀ j, i32 (sc.2 j)) (h : RB μ A) (k : ∀ A' μ', RB μ' A' → WL sc Z 1480 [(4, 0), (2, 0), (2, 183), (0, i)] [] μ') : WL sc Z 317 [(4, 0), (2, 0), (2, 183), (0, i)] [] μ := by
  refine WP_aload_n dL_law_317 rfl rfl ⟨Nat.le_of_ble_eq_true rfl, Nat.le_of_ble_eq_true rfl⟩ ?_
  refine WP_aload_n dL_law_318 rfl rfl ⟨Nat.le_of_ble_eq_true rfl, Nat.le_of_ble_eq_true rfl⟩ ?_
  refine WP_iload_n dL_law_319 rfl rfl ?_
  refine WP_iconst dL_law_320 (by decide) ?_
  refine WP_iadd dL_law_321 ⟨by omega, by omega⟩ ?_
  refine WP_sld dL_law_322 ⟨by omega, by show _ < (sc.1 : Int); omega⟩ ?_
  refine WP_aload_n dL_law_323 rfl rfl ⟨Nat.le_of_ble_eq_true rfl, Nat.le_of_ble_eq_true rfl⟩ ?_
  refine WP_iload_n dL_law_324 rfl rfl ?_
  refine WP_iconst dL_law_325 (by decide) ?_
  refine WP_iadd dL_law_326 ⟨by omega, by omega⟩ ?_
  refine WP_sld dL_law_327 ⟨by omega, by show _ < (sc.1 : Int); omega⟩ ?_
  refine WL_invVi (v := (2, 0)) (as := [(0, sc.2 (i + 1)), (0, sc.2 (i + 2))]) dL_law_328 l_L_27 mw_X9_person mi_X9_person ms_X9_person mo_X9_person (rcv (ci := 9) (n := 20) (r := (RX9, TX9, 20)) k_0 rfl rfl) (Nat.le_of_ble_eq_true rfl) (lk_person (sc := sc) (a := sc.2 (i + 1)) (b := sc.2 (i + 2)) h) rfl (fun x μx h => ?_)
  refine WP_aload_n dL_law_331 rfl rfl ⟨Nat.le_of_ble_eq_true rfl, Nat.le_of_ble_eq_true rfl⟩ ?_
  refine WP_aload_n dL_law_332 rfl rfl ⟨Nat.le_of_ble_eq_true rfl, Nat.le_of_ble_eq_true rfl⟩ ?_
  refine WP_iload_n dL_law_333 rfl rfl ?_
  refine WP_iconst dL_law_334 (by decide) ?_
  refine WP_iadd dL_law_335 ⟨by omega, by omega⟩ ?_
  refine WP_sld dL_law_336 ⟨by omega, by show _ < (sc.1 : Int); omega⟩ ?_
  refine WP_aload_n dL_law_337 rfl rfl ⟨Nat.le_of_ble_eq_true rfl, Nat.le_of_ble_eq_true rfl⟩ ?_
  refine WP_iload_n dL_law_338 rfl rfl ?_
  refine WP_iconst dL_law_339 (by decide) ?_
  refine WP_iadd dL_law_340 ⟨by omega, by omega⟩ ?_
  refine WP_sld dL_law_341 ⟨by omega, by show _ < (sc.1 : Int); omega⟩ ?_
  refine WL_invVi (v := (2, 183)) (as := [(0, sc.2 (i + 1)), (0, sc.2 (i + 2))]) dL_law_342 l_L_31 mw_X10_person mi_X10_person ms_X10_person mo_X10_person (rcv (ci := 10) (n := 49) (r := (RX10, TX10, 49)) k_183 rfl rfl) (Nat.le_of_ble_eq_true rfl) h rfl (fun y μy h => ?_)
  obtain ⟨rfl, A', h⟩ := h
  exact WP_icmp_eq (tgt := 1480) dL_law_345 (by decide) (fun _ => k A' _ h) (fun q => absurd rfl q)
theorem lc_4 {sc : SC} {Z : ZT} {μ : Mem} {A : StT} {i : Int} (hi : 0 ≤ i ∧ i + 6 ≤ (sc.1 : Int) ∧ (sc.1 : Int) ≤ 3072) (hsc : ∀ j, i32 (sc.2 j)) (h : RB μ A) (k : ∀ A' μ', RB μ' A' → WL sc Z 1480 [(4, 0), (2, 0), (2, 183), (0, i)] [] μ') : WL sc Z 350 [(4, 0), (2, 0), (2, 183), (0, i)] [] μ := by
  refine WP_aload_n dL_law_350 rfl rfl ⟨Nat.le_of_ble_eq_true rfl, Nat.le_of_ble_eq_true rfl⟩ ?_
  refine WP_aload_n dL_law_351 rfl rfl ⟨Nat.le_of_ble_eq_true rfl, Nat.le_of_ble_eq_true rfl⟩ ?_
  refine WP_iload_n dL_law_352 rfl rfl ?_
  refine WP_iconst dL_law_353 (by decide) ?_
  refine WP_iadd dL_law_354 ⟨by omega, by omega⟩ ?_
  refine WP_sld dL_law_355 ⟨by omega, by show _ < (sc.1 : Int); omega⟩ ?_
  refine WP_aload_n dL_law_356 rfl rfl ⟨Nat.le_of_ble_eq_true rfl, Nat.le_of_ble_eq_true rfl⟩ ?_
  refine WP_iload_n dL_law_357 rfl rfl ?_
  refine WP_iconst dL_law_358 (by decide) ?_
  refine WP_iadd dL_law_359 ⟨by omega, by omega⟩ ?_
  refine WP_sld dL_law_360 ⟨by omega, by show _ < (sc.1 : Int); omega⟩ ?_
  refine WL_invVi (v := (2, 0)) (as := [(0, sc.2 (i + 1)), (0, sc.2 (i + 2))]) dL_law_361 l_L_32 mw_X9_naming mi_X9_naming ms_X9_naming mo_X9_naming (rcv (ci := 9) (n := 20) (r := (RX9, TX9, 20)) k_0 rfl rfl) (Nat.le_of_ble_eq_true rfl) (lk_naming (sc := sc) (a := sc.2 (i + 1)) (b := sc.2 (i + 2)) h) rfl (fun x μx h => ?_)
  refine WP_aload_n dL_law_364 rfl rfl ⟨Nat.le_of_ble_eq_true rfl, Nat.le_of_ble_eq_true rfl⟩ ?_
  refine WP_aload_n dL_law_365 rfl rfl ⟨Nat.le_of_ble_eq_true rfl, Nat.le_of_ble_eq_true rfl⟩ ?_
  refine WP_iload_n dL_law_366 rfl rfl ?_
  refine WP_iconst dL_law_367 (by decide) ?_
  refine WP_iadd dL_law_368 ⟨by omega, by omega⟩ ?_
  refine WP_sld dL_law_369 ⟨by omega, by show _ < (sc.1 : Int); omega⟩ ?_
  refine WP_aload_n dL_law_370 rfl rfl ⟨Nat.le_of_ble_eq_true rfl, Nat.le_of_ble_eq_true rfl⟩ ?_
  refine WP_iload_n dL_law_371 rfl rfl ?_
  refine WP_iconst dL_law_372 (by decide) ?_
  refine WP_iadd dL_law_373 ⟨by omega, by omega⟩ ?_
  refine WP_sld dL_law_374 ⟨by omega, by show _ < (sc.1 : Int); omega⟩ ?_
  refine WL_invVi (v := (2, 183)) (as := [(0, sc.2 (i + 1)), (0, sc.2 (i + 2))]) dL_law_375 l_L_35 mw_X10_naming mi_X10_naming ms_X10_naming mo_X10_naming (rcv (ci := 10) (n := 49) (r := (RX10, TX10, 49)) k_183 rfl rfl) (Nat.le_of_ble_eq_true rfl) h rfl (fun y μy h => ?_)
  obtain ⟨rfl, A', h⟩ := h
  exact WP_icmp_eq (tgt := 1480) dL_law_378 (by decide) (fun _ => k A' _ h) (fun q => absurd rfl q)
theorem lc_5 {sc : SC} {Z : ZT} {μ : Mem} {A : StT} {i : Int} (hi : 0 ≤ i ∧ i + 6 ≤ (sc.1 : Int) ∧ (sc.1 : Int) ≤ 3072) (hsc : ∀ j, i32 (sc.2 j)) (h : RB μ A) (k : ∀ A' μ', RB μ' A' → WL sc Z 1480 [(4, 0), (2, 0), (2, 183), (0, i)] [] μ') : WL sc Z 383 [(4, 0), (2, 0), (2, 183), (0, i)] [] μ := by
  refine WP_aload_n dL_law_383 rfl rfl ⟨Nat.le_of_ble_eq_true rfl, Nat.le_of_ble_eq_true rfl⟩ ?_
  refine WP_aload_n dL_law_384 rfl rfl ⟨Nat.le_of_ble_eq_true rfl, Nat.le_of_ble_eq_true rfl⟩ ?_
  refine WP_iload_n dL_law_385 rfl rfl ?_
  refine WP_iconst dL_law_386 (by decide) ?_
  refine WP_iadd dL_law_387 ⟨by omega, by omega⟩ ?_
  refine WP_sld dL_law_388 ⟨by omega, by show _ < (sc.1 : Int); omega⟩ ?_
  refine WP_aload_n dL_law_389 rfl rfl ⟨Nat.le_of_ble_eq_true rfl, Nat.le_of_ble_eq_true rfl⟩ ?_
  refine WP_iload_n dL_law_390 rfl rfl ?_
  refine WP_iconst dL_law_391 (by decide) ?_
  refine WP_iadd dL_law_392 ⟨by omega, by omega⟩ ?_
  refine WP_sld dL_law_393 ⟨by omega, by show _ < (sc.1 : Int); omega⟩ ?_
  refine WP_aload_n dL_law_394 rfl rfl ⟨Nat.le_of_ble_eq_true rfl, Nat.le_of_ble_eq_true rfl⟩ ?_
  refine WP_iload_n dL_law_395 rfl rfl ?_
  refine WP_iconst dL_law_396 (by decide) ?_
  refine WP_iadd dL_law_397 ⟨by omega, by omega⟩ ?_
  refine WP_sld dL_law_398 ⟨by omega, by show _ < (sc.1 : Int); omega⟩ ?_
  refine WL_invVi (v := (2, 0)) (as := [(0, sc.2 (i + 1)), (0, sc.2 (i + 2)), (0, sc.2 (i + 3))]) dL_law_399 l_L_36 mw_X9_between mi_X9_between ms_X9_between mo_X9_between (rcv (ci := 9) (n := 20) (r := (RX9, TX9, 20)) k_0 rfl rfl) (Nat.le_of_ble_eq_true rfl) (lk_between (sc := sc) (a := sc.2 (i + 1)) (b := sc.2 (i + 2)) (c := sc.2 (i + 3)) h) rfl (fun x μx h => ?_)
  refine WP_aload_n dL_law_402 rfl rfl ⟨Nat.le_of_ble_eq_true rfl, Nat.le_of_ble_eq_true rfl⟩ ?_
  refine WP_aload_n dL_law_403 rfl rfl ⟨Nat.le_of_ble_eq_true rfl, Nat.le_of_ble_eq_true rfl⟩ ?_
  refine WP_iload_n dL_law_404 rfl rfl ?_
  refine WP_iconst dL_law_405 (by decide) ?_
  refine WP_iadd dL_law_406 ⟨by omega, by omega⟩ ?_
  refine WP_sld dL_law_407 ⟨by omega, by show _ < (sc.1 : Int); omega⟩ ?_
  refine WP_aload_n dL_law_408 rfl rfl ⟨Nat.le_of_ble_eq_true rfl, Nat.le_of_ble_eq_true rfl⟩ ?_
  refine WP_iload_n dL_law_409 rfl rfl ?_
  refine WP_iconst dL_law_410 (by decide) ?_
  refine WP_iadd dL_law_411 ⟨by omega, by omega⟩ ?_
  refine WP_sld dL_law_412 ⟨by omega, by show _ < (sc.1 : Int); omega⟩ ?_
  refine WP_aload_n dL_law_413 rfl rfl ⟨Nat.le_of_ble_eq_true rfl, Nat.le_of_ble_eq_true rfl⟩ ?_
  refine WP_iload_n dL_law_414 rfl rfl ?_
  refine WP_iconst dL_law_415 (by decide) ?_
  refine WP_iadd dL_law_416 ⟨by omega, by omega⟩ ?_
  refine WP_sld dL_law_417 ⟨by omega, by show _ < (sc.1 : Int); omega⟩ ?_
  refine WL_invVi (v := (2, 183)) (as := [(0, sc.2 (i + 1)), (0, sc.2 (i + 2)), (0, sc.2 (i + 3))]) dL_law_418 l_L_40 mw_X10_between mi_X10_between ms_X10_between mo_X10_between (rcv (ci := 10) (n := 49) (r := (RX10, TX10, 49)) k_183 rfl rfl) (Nat.le_of_ble_eq_true rfl) h rfl (fun y μy h => ?_)
  obtain ⟨rfl, A', h⟩ := h
  exact WP_icmp_eq (tgt := 1480) dL_law_421 (by decide) (fun _ => k A' _ h) (fun q => absurd rfl q)
theorem lc_6 {sc : SC} {Z : ZT} {μ : Mem} {A : StT} {i : Int} (hi : 0 ≤ i ∧ i + 6 ≤ (sc.1 : Int) ∧ (sc.1 : Int) ≤ 3072) (hsc : ∀ j, i32 (sc.2 j)) (h : RB μ A) (k : ∀ A' μ', RB μ' A' → WL sc Z 1480 [(4, 0), (2, 0), (2, 183), (0, i)] [] μ') : WL sc Z 426 [(4, 0), (2, 0), (2, 183), (0, i)] [] μ := by
  refine WP_aload_n dL_law_426 rfl rfl ⟨Nat.le_of_ble_eq_true rfl, Nat.le_of_ble_eq_true rfl⟩ ?_
  refine WP_aload_n dL_law_427 rfl rfl ⟨Nat.le_of_ble_eq_true rfl, Nat.le_of_ble_eq_true rfl⟩ ?_
  refine WP_iload_n dL_law_428 rfl rfl ?_
  refine WP_iconst dL_law_429 (by decide) ?_
  refine WP_iadd dL_law_430 ⟨by omega, by omega⟩ ?_
  refine WP_sld dL_law_431 ⟨by omega, by show _ < (sc.1 : Int); omega⟩ ?_
  refine WP_aload_n dL_law_432 rfl rfl ⟨Nat.le_of_ble_eq_true rfl, Nat.le_of_ble_eq_true rfl⟩ ?_
  refine WP_iload_n dL_law_433 rfl rfl ?_
  refine WP_iconst dL_law_434 (by decide) ?_
  refine WP_iadd dL_law_435 ⟨by omega, by omega⟩ ?_
  refine WP_sld dL_law_436 ⟨by omega, by show _ < (sc.1 : Int); omega⟩ ?_
  refine WP_aload_n dL_law_437 rfl rfl ⟨Nat.le_of_ble_eq_true rfl, Nat.le_of_ble_eq_true rfl⟩ ?_
  refine WP_iload_n dL_law_438 rfl rfl ?_
  refine WP_iconst dL_law_439 (by decide) ?_
  refine WP_iadd dL_law_440 ⟨by omega, by omega⟩ ?_
  refine WP_sld dL_law_441 ⟨by omega, by show _ < (sc.1 : Int); omega⟩ ?_
  refine WL_invVi (v := (2, 0)) (as := [(0, sc.2 (i + 1)), (0, sc.2 (i + 2)), (0, sc.2 (i + 3))]) dL_law_442 l_L_41 mw_X9_tell mi_X9_tell ms_X9_tell mo_X9_tell (rcv (ci := 9) (n := 20) (r := (RX9, TX9, 20)) k_0 rfl rfl) (Nat.le_of_ble_eq_true rfl) (lk_tell (sc := sc) (a := sc.2 (i + 1)) (b := sc.2 (i + 2)) (c := sc.2 (i + 3)) h) rfl (fun x μx h => ?_)
  refine WP_aload_n dL_law_445 rfl rfl ⟨Nat.le_of_ble_eq_true rfl, Nat.le_of_ble_eq_true rfl⟩ ?_
  refine WP_aload_n dL_law_446 rfl rfl ⟨Nat.le_of_ble_eq_true rfl, Nat.le_of_ble_eq_true rfl⟩ ?_
  refine WP_iload_n dL_law_447 rfl rfl ?_
  refine WP_iconst dL_law_448 (by decide) ?_
  refine WP_iadd dL_law_449 ⟨by omega, by omega⟩ ?_
  refine WP_sld dL_law_450 ⟨by omega, by show _ < (sc.1 : Int); omega⟩ ?_
  refine WP_aload_n dL_law_451 rfl rfl ⟨Nat.le_of_ble_eq_true rfl, Nat.le_of_ble_eq_true rfl⟩ ?_
  refine WP_iload_n dL_law_452 rfl rfl ?_
  refine WP_iconst dL_law_453 (by decide) ?_
  refine WP_iadd dL_law_454 ⟨by omega, by omega⟩ ?_
  refine WP_sld dL_law_455 ⟨by omega, by show _ < (sc.1 : Int); omega⟩ ?_
  refine WP_aload_n dL_law_456 rfl rfl ⟨Nat.le_of_ble_eq_true rfl, Nat.le_of_ble_eq_true rfl⟩ ?_
  refine WP_iload_n dL_law_457 rfl rfl ?_
  refine WP_iconst dL_law_458 (by decide) ?_
  refine WP_iadd dL_law_459 ⟨by omega, by omega⟩ ?_
  refine WP_sld dL_law_460 ⟨by omega, by show _ < (sc.1 : Int); omega⟩ ?_
  refine WL_invVi (v := (2, 183)) (as := [(0, sc.2 (i + 1)), (0, sc.2 (i + 2)), (0, sc.2 (i + 3))]) dL_law_461 l_L_44 mw_X10_tell mi_X10_tell ms_X10_tell mo_X10_tell (rcv (ci := 10) (n := 49) (r := (RX10, TX10, 49)) k_183 rfl rfl) (Nat.le_of_ble_eq_true rfl) h rfl (fun y μy h => ?_)
  obtain ⟨rfl, A', h⟩ := h
  exact WP_icmp_eq (tgt := 1480) dL_law_464 (by decide) (fun _ => k A' _ h) (fun q => absurd rfl q)
theorem lc_7 {sc : SC} {Z : ZT} {μ : Mem} {A : StT} {i : Int} (hi : 0 ≤ i ∧ i + 6 ≤ (sc.1 : Int) ∧ (sc.1 : Int) ≤ 3072) (hsc : ∀ j, i32 (sc.2 j)) (h : RB μ A) (k : ∀ A' μ', RB μ' A' → WL sc Z 1480 [(4, 0), (2, 0), (2, 183), (0, i)] [] μ') : WL sc Z 469 [(4, 0), (2, 0), (2, 183), (0, i)] [] μ := by
  refine WP_aload_n dL_law_469 rfl rfl ⟨Nat.le_of_ble_eq_true rfl, Nat.le_of_ble_eq_true rfl⟩ ?_
  refine WP_aload_n dL_law_470 rfl rfl ⟨Nat.le_of_ble_eq_true rfl, Nat.le_of_ble_eq_true rfl⟩ ?_
  refine WP_iload_n dL_law_471 rfl rfl ?_
  refine WP_iconst dL_law_472 (by decide) ?_
  refine WP_iadd dL_law_473 ⟨by omega, by omega⟩ ?_
  refine WP_sld dL_law_474 ⟨by omega, by show _ < (sc.1 : Int); omega⟩ ?_
  refine WL_invVi (v := (2, 0)) (as := [(0, sc.2 (i + 1))]) dL_law_475 l_L_45 mw_X9_drop mi_X9_drop ms_X9_drop mo_X9_drop (rcv (ci := 9) (n := 20) (r := (RX9, TX9, 20)) k_0 rfl rfl) (Nat.le_of_ble_eq_true rfl) (lk_drop (sc := sc) (a := sc.2 (i + 1)) h) rfl (fun x μx h => ?_)
  refine WP_aload_n dL_law_478 rfl rfl ⟨Nat.le_of_ble_eq_true rfl, Nat.le_of_ble_eq_true rfl⟩ ?_
  refine WP_aload_n dL_law_479 rfl rfl ⟨Nat.le_of_ble_eq_true rfl, Nat.le_of_ble_eq_true rfl⟩ ?_
  refine WP_iload_n dL_law_480 rfl rfl ?_
  refine WP_iconst dL_law_481 (by decide) ?_
  refine WP_iadd dL_law_482 ⟨by omega, by omega⟩ ?_
  refine WP_sld dL_law_483 ⟨by omega, by show _ < (sc.1 : Int); omega⟩ ?_
  refine WL_invVi (v := (2, 183)) (as := [(0, sc.2 (i + 1))]) dL_law_484 l_L_48 mw_X10_drop mi_X10_drop ms_X10_drop mo_X10_drop (rcv (ci := 10) (n := 49) (r := (RX10, TX10, 49)) k_183 rfl rfl) (Nat.le_of_ble_eq_true rfl) h rfl (fun y μy h => ?_)
  obtain ⟨rfl, A', h⟩ := h
  exact WP_icmp_eq (tgt := 1480) dL_law_487 (by decide) (fun _ => k A' _ h) (fun q => absurd rfl q)
theorem lc_8 {sc : SC} {Z : ZT} {μ : Mem} {A : StT} {i : Int} (hi : 0 ≤ i ∧ i + 6 ≤ (sc.1 : Int) ∧ (sc.1 : Int) ≤ 3072) (hsc : ∀ j, i32 (sc.2 j)) (h : RB μ A) (k : ∀ A' μ', RB μ' A' → WL sc Z 1480 [(4, 0), (2, 0), (2, 183), (0, i)] [] μ') : WL sc Z 492 [(4, 0), (2, 0), (2, 183), (0, i)] [] μ := by
  refine WP_aload_n dL_law_492 rfl rfl ⟨Nat.le_of_ble_eq_true rfl, Nat.le_of_ble_eq_true rfl⟩ ?_
  refine WP_aload_n dL_law_493 rfl rfl ⟨Nat.le_of_ble_eq_true rfl, Nat.le_of_ble_eq_true rfl⟩ ?_
  refine WP_iload_n dL_law_494 rfl rfl ?_
  refine WP_iconst dL_law_495 (by decide) ?_
  refine WP_iadd dL_law_496 ⟨by omega, by omega⟩ ?_
  refine WP_sld dL_law_497 ⟨by omega, by show _ < (sc.1 : Int); omega⟩ ?_
  refine WP_aload_n dL_law_498 rfl rfl ⟨Nat.le_of_ble_eq_true rfl, Nat.le_of_ble_eq_true rfl⟩ ?_
  refine WP_iload_n dL_law_499 rfl rfl ?_
  refine WP_iconst dL_law_500 (by decide) ?_
  refine WP_iadd dL_law_501 ⟨by omega, by omega⟩ ?_
  refine WP_sld dL_law_502 ⟨by omega, by show _ < (sc.1 : Int); omega⟩ ?_
  refine WL_invVi (v := (2, 0)) (as := [(0, sc.2 (i + 1)), (0, sc.2 (i + 2))]) dL_law_503 l_L_49 mw_X9_move mi_X9_move ms_X9_move mo_X9_move (rcv (ci := 9) (n := 20) (r := (RX9, TX9, 20)) k_0 rfl rfl) (Nat.le_of_ble_eq_true rfl) (lk_move (sc := sc) (a := sc.2 (i + 1)) (b := sc.2 (i + 2)) h) rfl (fun x μx h => ?_)
  refine WP_aload_n dL_law_506 rfl rfl ⟨Nat.le_of_ble_eq_true rfl, Nat.le_of_ble_eq_true rfl⟩ ?_
  refine WP_aload_n dL_law_507 rfl rfl ⟨Nat.le_of_ble_eq_true rfl, Nat.le_of_ble_eq_true rfl⟩ ?_
  refine WP_iload_n dL_law_508 rfl rfl ?_
  refine WP_iconst dL_law_509 (by decide) ?_
  refine WP_iadd dL_law_510 ⟨by omega, by omega⟩ ?_
  refine WP_sld dL_law_511 ⟨by omega, by show _ < (sc.1 : Int); omega⟩ ?_
  refine WP_aload_n dL_law_512 rfl rfl ⟨Nat.le_of_ble_eq_true rfl, Nat.le_of_ble_eq_true rfl⟩ ?_
  refine WP_iload_n dL_law_513 rfl rfl ?_
  refine WP_iconst dL_law_514 (by decide) ?_
  refine WP_iadd dL_law_515 ⟨by omega, by omega⟩ ?_
  refine WP_sld dL_law_516 ⟨by omega, by show _ < (sc.1 : Int); omega⟩ ?_
  refine WL_invVi (v := (2, 183)) (as := [(0, sc.2 (i + 1)), (0, sc.2 (i + 2))]) dL_law_517 l_L_52 mw_X10_move mi_X10_move ms_X10_move mo_X10_move (rcv (ci := 10) (n := 49) (r := (RX10, TX10, 49)) k_183 rfl rfl) (Nat.le_of_ble_eq_true rfl) h rfl (fun y μy h => ?_)
  obtain ⟨rfl, A', h⟩ := h
  exact WP_icmp_eq (tgt := 1480) dL_law_520 (by decide) (fun _ => k A' _ h) (fun q => absurd rfl q)
theorem lc_9 {sc : SC} {Z : ZT} {μ : Mem} {A : StT} {i : Int} (hi : 0 ≤ i ∧ i + 6 ≤ (sc.1 : Int) ∧ (sc.1 : Int) ≤ 3072) (hsc : ∀ j, i32 (sc.2 j)) (h : RB μ A) (k : ∀ A' μ', RB μ' A' → WL sc Z 1480 [(4, 0), (2, 0), (2, 183), (0, i)] [] μ') : WL sc Z 525 [(4, 0), (2, 0), (2, 183), (0, i)] [] μ := by
  refine WP_aload_n dL_law_525 rfl rfl ⟨Nat.le_of_ble_eq_true rfl, Nat.le_of_ble_eq_true rfl⟩ ?_
  refine WP_aload_n dL_law_526 rfl rfl ⟨Nat.le_of_ble_eq_true rfl, Nat.le_of_ble_eq_true rfl⟩ ?_
  refine WP_iload_n dL_law_527 rfl rfl ?_
  refine WP_iconst dL_law_528 (by decide) ?_
  refine WP_iadd dL_law_529 ⟨by omega, by omega⟩ ?_
  refine WP_sld dL_law_530 ⟨by omega, by show _ < (sc.1 : Int); omega⟩ ?_
  refine WL_invVi (v := (2, 0)) (as := [(0, sc.2 (i + 1))]) dL_law_531 l_L_53 mw_X9_wind mi_X9_wind ms_X9_wind mo_X9_wind (rcv (ci := 9) (n := 20) (r := (RX9, TX9, 20)) k_0 rfl rfl) (Nat.le_of_ble_eq_true rfl) (lk_wind (sc := sc) (a := sc.2 (i + 1)) h) rfl (fun x μx h => ?_)
  refine WP_aload_n dL_law_534 rfl rfl ⟨Nat.le_of_ble_eq_true rfl, Nat.le_of_ble_eq_true rfl⟩ ?_
  refine WP_aload_n dL_law_535 rfl rfl ⟨Nat.le_of_ble_eq_true rfl, Nat.le_of_ble_eq_true rfl⟩ ?_
  refine WP_iload_n dL_law_536 rfl rfl ?_
  refine WP_iconst dL_law_537 (by decide) ?_
  refine WP_iadd dL_law_538 ⟨by omega, by omega⟩ ?_
  refine WP_sld dL_law_539 ⟨by omega, by show _ < (sc.1 : Int); omega⟩ ?_
  refine WL_invVi (v := (2, 183)) (as := [(0, sc.2 (i + 1))]) dL_law_540 l_L_56 mw_X10_wind mi_X10_wind ms_X10_wind mo_X10_wind (rcv (ci := 10) (n := 49) (r := (RX10, TX10, 49)) k_183 rfl rfl) (Nat.le_of_ble_eq_true rfl) h rfl (fun y μy h => ?_)
  obtain ⟨rfl, A', h⟩ := h
  exact WP_icmp_eq (tgt := 1480) dL_law_543 (by decide) (fun _ => k A' _ h) (fun q => absurd rfl q)
theorem lc_10 {sc : SC} {Z : ZT} {μ : Mem} {A : StT} {i : Int} (hi : 0 ≤ i ∧ i + 6 ≤ (sc.1 : Int) ∧ (sc.1 : Int) ≤ 3072) (hsc : ∀ j, i32 (sc.2 j)) (h : RB μ A) (k : ∀ A' μ', RB μ' A' → WL sc Z 1480 [(4, 0), (2, 0), (2, 183), (0, i)] [] μ') : WL sc Z 548 [(4, 0), (2, 0), (2, 183), (0, i)] [] μ := by
  refine WP_aload_n dL_law_548 rfl rfl ⟨Nat.le_of_ble_eq_true rfl, Nat.le_of_ble_eq_true rfl⟩ ?_
  refine WP_aload_n dL_law_549 rfl rfl ⟨Nat.le_of_ble_eq_true rfl, Nat.le_of_ble_eq_true rfl⟩ ?_
  refine WP_iload_n dL_law_550 rfl rfl ?_
  refine WP_iconst dL_law_551 (by decide) ?_
  refine WP_iadd dL_law_552 ⟨by omega, by omega⟩ ?_
  refine WP_sld dL_law_553 ⟨by omega, by show _ < (sc.1 : Int); omega⟩ ?_
  refine WL_invVi (v := (2, 0)) (as := [(0, sc.2 (i + 1))]) dL_law_554 l_L_57 mw_X9_undo mi_X9_undo ms_X9_undo mo_X9_undo (rcv (ci := 9) (n := 20) (r := (RX9, TX9, 20)) k_0 rfl rfl) (Nat.le_of_ble_eq_true rfl) (lk_undo (sc := sc) (a := sc.2 (i + 1)) h) rfl (fun x μx h => ?_)
  refine WP_aload_n dL_law_557 rfl rfl ⟨Nat.le_of_ble_eq_true rfl, Nat.le_of_ble_eq_true rfl⟩ ?_
  refine WP_aload_n dL_law_558 rfl rfl ⟨Nat.le_of_ble_eq_true rfl, Nat.le_of_ble_eq_true rfl⟩ ?_
  refine WP_iload_n dL_law_559 rfl rfl ?_
  refine WP_iconst dL_law_560 (by decide) ?_
  refine WP_iadd dL_law_561 ⟨by omega, by omega⟩ ?_
  refine WP_sld dL_law_562 ⟨by omega, by show _ < (sc.1 : Int); omega⟩ ?_
  refine WL_invVi (v := (2, 183)) (as := [(0, sc.2 (i + 1))]) dL_law_563 l_L_60 mw_X10_undo mi_X10_undo ms_X10_undo mo_X10_undo (rcv (ci := 10) (n := 49) (r := (RX10, TX10, 49)) k_183 rfl rfl) (Nat.le_of_ble_eq_true rfl) h rfl (fun y μy h => ?_)
  obtain ⟨rfl, A', h⟩ := h
  exact WP_icmp_eq (tgt := 1480) dL_law_566 (by decide) (fun _ => k A' _ h) (fun q => absurd rfl q)
theorem lc_11 {sc : SC} {Z : ZT} {μ : Mem} {A : StT} {i : Int} (hi : 0 ≤ i ∧ i + 6 ≤ (sc.1 : Int) ∧ (sc.1 : Int) ≤ 3072) (hsc : ∀ j, i32 (sc.2 j)) (h : RB μ A) (k : ∀ A' μ', RB μ' A' → WL sc Z 1480 [(4, 0), (2, 0), (2, 183), (0, i)] [] μ') : WL sc Z 571 [(4, 0), (2, 0), (2, 183), (0, i)] [] μ := by
  refine WP_aload_n dL_law_571 rfl rfl ⟨Nat.le_of_ble_eq_true rfl, Nat.le_of_ble_eq_true rfl⟩ ?_
  refine WP_aload_n dL_law_572 rfl rfl ⟨Nat.le_of_ble_eq_true rfl, Nat.le_of_ble_eq_true rfl⟩ ?_
  refine WP_iload_n dL_law_573 rfl rfl ?_
  refine WP_iconst dL_law_574 (by decide) ?_
  refine WP_iadd dL_law_575 ⟨by omega, by omega⟩ ?_
  refine WP_sld dL_law_576 ⟨by omega, by show _ < (sc.1 : Int); omega⟩ ?_
  refine WP_aload_n dL_law_577 rfl rfl ⟨Nat.le_of_ble_eq_true rfl, Nat.le_of_ble_eq_true rfl⟩ ?_
  refine WP_iload_n dL_law_578 rfl rfl ?_
  refine WP_iconst dL_law_579 (by decide) ?_
  refine WP_iadd dL_law_580 ⟨by omega, by omega⟩ ?_
  refine WP_sld dL_law_581 ⟨by omega, by show _ < (sc.1 : Int); omega⟩ ?_
  refine WL_invVi (v := (2, 0)) (as := [(0, sc.2 (i + 1)), (0, sc.2 (i + 2))]) dL_law_582 l_L_61 mw_X9_judge mi_X9_judge ms_X9_judge mo_X9_judge (rcv (ci := 9) (n := 20) (r := (RX9, TX9, 20)) k_0 rfl rfl) (Nat.le_of_ble_eq_true rfl) (lk_judge (sc := sc) (a := sc.2 (i + 1)) (b := sc.2 (i + 2)) h) rfl (fun x μx h => ?_)
  refine WP_aload_n dL_law_585 rfl rfl ⟨Nat.le_of_ble_eq_true rfl, Nat.le_of_ble_eq_true rfl⟩ ?_
  refine WP_aload_n dL_law_586 rfl rfl ⟨Nat.le_of_ble_eq_true rfl, Nat.le_of_ble_eq_true rfl⟩ ?_
  refine WP_iload_n dL_law_587 rfl rfl ?_
  refine WP_iconst dL_law_588 (by decide) ?_
  refine WP_iadd dL_law_589 ⟨by omega, by omega⟩ ?_
  refine WP_sld dL_law_590 ⟨by omega, by show _ < (sc.1 : Int); omega⟩ ?_
  refine WP_aload_n dL_law_591 rfl rfl ⟨Nat.le_of_ble_eq_true rfl, Nat.le_of_ble_eq_true rfl⟩ ?_
  refine WP_iload_n dL_law_592 rfl rfl ?_
  refine WP_iconst dL_law_593 (by decide) ?_
  refine WP_iadd dL_law_594 ⟨by omega, by omega⟩ ?_
  refine WP_sld dL_law_595 ⟨by omega, by show _ < (sc.1 : Int); omega⟩ ?_
  refine WL_invVi (v := (2, 183)) (as := [(0, sc.2 (i + 1)), (0, sc.2 (i + 2))]) dL_law_596 l_L_64 mw_X10_judge mi_X10_judge ms_X10_judge mo_X10_judge (rcv (ci := 10) (n := 49) (r := (RX10, TX10, 49)) k_183 rfl rfl) (Nat.le_of_ble_eq_true rfl) h rfl (fun y μy h => ?_)
  obtain ⟨rfl, A', h⟩ := h
  exact WP_icmp_eq (tgt := 1480) dL_law_599 (by decide) (fun _ => k A' _ h) (fun q => absurd rfl q)
theorem lc_12 {sc : SC} {Z : ZT} {μ : Mem} {A : StT} {i : Int} (hi : 0 ≤ i ∧ i + 6 ≤ (sc.1 : Int) ∧ (sc.1 : Int) ≤ 3072) (hsc : ∀ j, i32 (sc.2 j)) (h : RB μ A) (k : ∀ A' μ', RB μ' A' → WL sc Z 1480 [(4, 0), (2, 0), (2, 183), (0, i)] [] μ') : WL sc Z 604 [(4, 0), (2, 0), (2, 183), (0, i)] [] μ := by
  refine WP_aload_n dL_law_604 rfl rfl ⟨Nat.le_of_ble_eq_true rfl, Nat.le_of_ble_eq_true rfl⟩ ?_
  refine WP_aload_n dL_law_605 rfl rfl ⟨Nat.le_of_ble_eq_true rfl, Nat.le_of_ble_eq_true rfl⟩ ?_
  refine WP_iload_n dL_law_606 rfl rfl ?_
  refine WP_iconst dL_law_607 (by decide) ?_
  refine WP_iadd dL_law_608 ⟨by omega, by omega⟩ ?_
  refine WP_sld dL_law_609 ⟨by omega, by show _ < (sc.1 : Int); omega⟩ ?_
  refine WL_invVi (v := (2, 0)) (as := [(0, sc.2 (i + 1))]) dL_law_610 l_L_65 mw_X9_perform mi_X9_perform ms_X9_perform mo_X9_perform (rcv (ci := 9) (n := 20) (r := (RX9, TX9, 20)) k_0 rfl rfl) (Nat.le_of_ble_eq_true rfl) (lk_perform (sc := sc) (a := sc.2 (i + 1)) h) rfl (fun x μx h => ?_)
  refine WP_aload_n dL_law_613 rfl rfl ⟨Nat.le_of_ble_eq_true rfl, Nat.le_of_ble_eq_true rfl⟩ ?_
  refine WP_aload_n dL_law_614 rfl rfl ⟨Nat.le_of_ble_eq_true rfl, Nat.le_of_ble_eq_true rfl⟩ ?_
  refine WP_iload_n dL_law_615 rfl rfl ?_
  refine WP_iconst dL_law_616 (by decide) ?_
  refine WP_iadd dL_law_617 ⟨by omega, by omega⟩ ?_
  refine WP_sld dL_law_618 ⟨by omega, by show _ < (sc.1 : Int); omega⟩ ?_
  refine WL_invVi (v := (2, 183)) (as := [(0, sc.2 (i + 1))]) dL_law_619 l_L_68 mw_X10_perform mi_X10_perform ms_X10_perform mo_X10_perform (rcv (ci := 10) (n := 49) (r := (RX10, TX10, 49)) k_183 rfl rfl) (Nat.le_of_ble_eq_true rfl) h rfl (fun y μy h => ?_)
  obtain ⟨rfl, A', h⟩ := h
  exact WP_icmp_eq (tgt := 1480) dL_law_622 (by decide) (fun _ => k A' _ h) (fun q => absurd rfl q)
theorem lc_13 {sc : SC} {Z : ZT} {μ : Mem} {A : StT} {i : Int} (hi : 0 ≤ i ∧ i + 6 ≤ (sc.1 : Int) ∧ (sc.1 : Int) ≤ 3072) (hsc : ∀ j, i32 (sc.2 j)) (h : RB μ A) (k : ∀ A' μ', RB μ' A' → WL sc Z 1480 [(4, 0), (2, 0), (2, 183), (0, i)] [] μ') : WL sc Z 627 [(4, 0), (2, 0), (2, 183), (0, i)] [] μ := by
  refine WP_aload_n dL_law_627 rfl rfl ⟨Nat.le_of_ble_eq_true rfl, Nat.le_of_ble_eq_true rfl⟩ ?_
  refine WP_aload_n dL_law_628 rfl rfl ⟨Nat.le_of_ble_eq_true rfl, Nat.le_of_ble_eq_true rfl⟩ ?_
  refine WP_iload_n dL_law_629 rfl rfl ?_
  refine WP_iconst dL_law_630 (by decide) ?_
  refine WP_iadd dL_law_631 ⟨by omega, by omega⟩ ?_
  refine WP_sld dL_law_632 ⟨by omega, by show _ < (sc.1 : Int); omega⟩ ?_
  refine WP_aload_n dL_law_633 rfl rfl ⟨Nat.le_of_ble_eq_true rfl, Nat.le_of_ble_eq_true rfl⟩ ?_
  refine WP_iload_n dL_law_634 rfl rfl ?_
  refine WP_iconst dL_law_635 (by decide) ?_
  refine WP_iadd dL_law_636 ⟨by omega, by omega⟩ ?_
  refine WP_sld dL_law_637 ⟨by omega, by show _ < (sc.1 : Int); omega⟩ ?_
  refine WL_invVi (v := (2, 0)) (as := [(0, sc.2 (i + 1)), (0, sc.2 (i + 2))]) dL_law_638 l_L_69 mw_X9_week mi_X9_week ms_X9_week mo_X9_week (rcv (ci := 9) (n := 20) (r := (RX9, TX9, 20)) k_0 rfl rfl) (Nat.le_of_ble_eq_true rfl) (lk_week (sc := sc) (a := sc.2 (i + 1)) (b := sc.2 (i + 2)) h) rfl (fun x μx h => ?_)
  refine WP_aload_n dL_law_641 rfl rfl ⟨Nat.le_of_ble_eq_true rfl, Nat.le_of_ble_eq_true rfl⟩ ?_
  refine WP_aload_n dL_law_642 rfl rfl ⟨Nat.le_of_ble_eq_true rfl, Nat.le_of_ble_eq_true rfl⟩ ?_
  refine WP_iload_n dL_law_643 rfl rfl ?_
  refine WP_iconst dL_law_644 (by decide) ?_
  refine WP_iadd dL_law_645 ⟨by omega, by omega⟩ ?_
  refine WP_sld dL_law_646 ⟨by omega, by show _ < (sc.1 : Int); omega⟩ ?_
  refine WP_aload_n dL_law_647 rfl rfl ⟨Nat.le_of_ble_eq_true rfl, Nat.le_of_ble_eq_true rfl⟩ ?_
  refine WP_iload_n dL_law_648 rfl rfl ?_
  refine WP_iconst dL_law_649 (by decide) ?_
  refine WP_iadd dL_law_650 ⟨by omega, by omega⟩ ?_
  refine WP_sld dL_law_651 ⟨by omega, by show _ < (sc.1 : Int); omega⟩ ?_
  refine WL_invVi (v := (2, 183)) (as := [(0, sc.2 (i + 1)), (0, sc.2 (i + 2))]) dL_law_652 l_L_72 mw_X10_week mi_X10_week ms_X10_week mo_X10_week (rcv (ci := 10) (n := 49) (r := (RX10, TX10, 49)) k_183 rfl rfl) (Nat.le_of_ble_eq_true rfl) h rfl (fun y μy h => ?_)
  obtain ⟨rfl, A', h⟩ := h
  exact WP_icmp_eq (tgt := 1480) dL_law_655 (by decide) (fun _ => k A' _ h) (fun q => absurd rfl q)
theorem lc_14 {sc : SC} {Z : ZT} {μ : Mem} {A : StT} {i : Int} (hi : 0 ≤ i ∧ i + 6 ≤ (sc.1 : Int) ∧ (sc.1 : Int) ≤ 3072) (hsc : ∀ j, i32 (sc.2 j)) (h : RB μ A) (k : ∀ A' μ', RB μ' A' → WL sc Z 1480 [(4, 0), (2, 0), (2, 183), (0, i)] [] μ') : WL sc Z 660 [(4, 0), (2, 0), (2, 183), (0, i)] [] μ := by
  refine WP_aload_n dL_law_660 rfl rfl ⟨Nat.le_of_ble_eq_true rfl, Nat.le_of_ble_eq_true rfl⟩ ?_
  refine WP_aload_n dL_law_661 rfl rfl ⟨Nat.le_of_ble_eq_true rfl, Nat.le_of_ble_eq_true rfl⟩ ?_
  refine WP_iload_n dL_law_662 rfl rfl ?_
  refine WP_iconst dL_law_663 (by decide) ?_
  refine WP_iadd dL_law_664 ⟨by omega, by omega⟩ ?_
  refine WP_sld dL_law_665 ⟨by omega, by show _ < (sc.1 : Int); omega⟩ ?_
  refine WL_invVi (v := (2, 0)) (as := [(0, sc.2 (i + 1))]) dL_law_666 l_L_73 mw_X9_hiccups mi_X9_hiccups ms_X9_hiccups mo_X9_hiccups (rcv (ci := 9) (n := 20) (r := (RX9, TX9, 20)) k_0 rfl rfl) (Nat.le_of_ble_eq_true rfl) (lk_hiccups (sc := sc) (a := sc.2 (i + 1)) h) rfl (fun x μx h => ?_)
  refine WP_aload_n dL_law_669 rfl rfl ⟨Nat.le_of_ble_eq_true rfl, Nat.le_of_ble_eq_true rfl⟩ ?_
  refine WP_aload_n dL_law_670 rfl rfl ⟨Nat.le_of_ble_eq_true rfl, Nat.le_of_ble_eq_true rfl⟩ ?_
  refine WP_iload_n dL_law_671 rfl rfl ?_
  refine WP_iconst dL_law_672 (by decide) ?_
  refine WP_iadd dL_law_673 ⟨by omega, by omega⟩ ?_
  refine WP_sld dL_law_674 ⟨by omega, by show _ < (sc.1 : Int); omega⟩ ?_
  refine WL_invVi (v := (2, 183)) (as := [(0, sc.2 (i + 1))]) dL_law_675 l_L_76 mw_X10_hiccups mi_X10_hiccups ms_X10_hiccups mo_X10_hiccups (rcv (ci := 10) (n := 49) (r := (RX10, TX10, 49)) k_183 rfl rfl) (Nat.le_of_ble_eq_true rfl) h rfl (fun y μy h => ?_)
  obtain ⟨rfl, A', h⟩ := h
  exact WP_icmp_eq (tgt := 1480) dL_law_678 (by decide) (fun _ => k A' _ h) (fun q => absurd rfl q)
theorem lc_15 {sc : SC} {Z : ZT} {μ : Mem} {A : StT} {i : Int} (hi : 0 ≤ i ∧ i + 6 ≤ (sc.1 : Int) ∧ (sc.1 : Int) ≤ 3072) (hsc : ∀ j, i32 (sc.2 j)) (h : RB μ A) (k : ∀ A' μ', RB μ' A' → WL sc Z 1480 [(4, 0), (2, 0), (2, 183), (0, i)] [] μ') : WL sc Z 683 [(4, 0), (2, 0), (2, 183), (0, i)] [] μ := by
  refine WP_aload_n dL_law_683 rfl rfl ⟨Nat.le_of_ble_eq_true rfl, Nat.le_of_ble_eq_true rfl⟩ ?_
  refine WP_aload_n dL_law_684 rfl rfl ⟨Nat.le_of_ble_eq_true rfl, Nat.le_of_ble_eq_true rfl⟩ ?_
  refine WP_iload_n dL_law_685 rfl rfl ?_
  refine WP_iconst dL_law_686 (by decide) ?_
  refine WP_iadd dL_law_687 ⟨by omega, by omega⟩ ?_
  refine WP_sld dL_law_688 ⟨by omega, by show _ < (sc.1 : Int); omega⟩ ?_
  refine WP_aload_n dL_law_689 rfl rfl ⟨Nat.le_of_ble_eq_true rfl, Nat.le_of_ble_eq_true rfl⟩ ?_
  refine WP_iload_n dL_law_690 rfl rfl ?_
  refine WP_iconst dL_law_691 (by decide) ?_
  refine WP_iadd dL_law_692 ⟨by omega, by omega⟩ ?_
  refine WP_sld dL_law_693 ⟨by omega, by show _ < (sc.1 : Int); omega⟩ ?_
  refine WL_invVi (v := (2, 0)) (as := [(0, sc.2 (i + 1)), (0, sc.2 (i + 2))]) dL_law_694 l_L_77 mw_X9_hiccup mi_X9_hiccup ms_X9_hiccup mo_X9_hiccup (rcv (ci := 9) (n := 20) (r := (RX9, TX9, 20)) k_0 rfl rfl) (Nat.le_of_ble_eq_true rfl) (lk_hiccup (sc := sc) (a := sc.2 (i + 1)) (b := sc.2 (i + 2)) h) rfl (fun x μx h => ?_)
  refine WP_aload_n dL_law_697 rfl rfl ⟨Nat.le_of_ble_eq_true rfl, Nat.le_of_ble_eq_true rfl⟩ ?_
  refine WP_aload_n dL_law_698 rfl rfl ⟨Nat.le_of_ble_eq_true rfl, Nat.le_of_ble_eq_true rfl⟩ ?_
  refine WP_iload_n dL_law_699 rfl rfl ?_
  refine WP_iconst dL_law_700 (by decide) ?_
  refine WP_iadd dL_law_701 ⟨by omega, by omega⟩ ?_
  refine WP_sld dL_law_702 ⟨by omega, by show _ < (sc.1 : Int); omega⟩ ?_
  refine WP_aload_n dL_law_703 rfl rfl ⟨Nat.le_of_ble_eq_true rfl, Nat.le_of_ble_eq_true rfl⟩ ?_
  refine WP_iload_n dL_law_704 rfl rfl ?_
  refine WP_iconst dL_law_705 (by decide) ?_
  refine WP_iadd dL_law_706 ⟨by omega, by omega⟩ ?_
  refine WP_sld dL_law_707 ⟨by omega, by show _ < (sc.1 : Int); omega⟩ ?_
  refine WL_invVi (v := (2, 183)) (as := [(0, sc.2 (i + 1)), (0, sc.2 (i + 2))]) dL_law_708 l_L_80 mw_X10_hiccup mi_X10_hiccup ms_X10_hiccup mo_X10_hiccup (rcv (ci := 10) (n := 49) (r := (RX10, TX10, 49)) k_183 rfl rfl) (Nat.le_of_ble_eq_true rfl) h rfl (fun y μy h => ?_)
  obtain ⟨rfl, A', h⟩ := h
  exact WP_icmp_eq (tgt := 1480) dL_law_711 (by decide) (fun _ => k A' _ h) (fun q => absurd rfl q)
theorem lc_16 {sc : SC} {Z : ZT} {μ : Mem} {A : StT} {i : Int} (hi : 0 ≤ i ∧ i + 6 ≤ (sc.1 : Int) ∧ (sc.1 : Int) ≤ 3072) (hsc : ∀ j, i32 (sc.2 j)) (h : RB μ A) (k : ∀ A' μ', RB μ' A' → WL sc Z 1480 [(4, 0), (2, 0), (2, 183), (0, i)] [] μ') : WL sc Z 716 [(4, 0), (2, 0), (2, 183), (0, i)] [] μ := by
  refine WP_aload_n dL_law_716 rfl rfl ⟨Nat.le_of_ble_eq_true rfl, Nat.le_of_ble_eq_true rfl⟩ ?_
  refine WP_aload_n dL_law_717 rfl rfl ⟨Nat.le_of_ble_eq_true rfl, Nat.le_of_ble_eq_true rfl⟩ ?_
  refine WP_iload_n dL_law_718 rfl rfl ?_
  refine WP_iconst dL_law_719 (by decide) ?_
  refine WP_iadd dL_law_720 ⟨by omega, by omega⟩ ?_
  refine WP_sld dL_law_721 ⟨by omega, by show _ < (sc.1 : Int); omega⟩ ?_
  refine WP_aload_n dL_law_722 rfl rfl ⟨Nat.le_of_ble_eq_true rfl, Nat.le_of_ble_eq_true rfl⟩ ?_
  refine WP_iload_n dL_law_723 rfl rfl ?_
  refine WP_iconst dL_law_724 (by decide) ?_
  refine WP_iadd dL_law_725 ⟨by omega, by omega⟩ ?_
  refine WP_sld dL_law_726 ⟨by omega, by show _ < (sc.1 : Int); omega⟩ ?_
  refine WL_invVi (v := (2, 0)) (as := [(0, sc.2 (i + 1)), (0, sc.2 (i + 2))]) dL_law_727 l_L_81 mw_X9_minute mi_X9_minute ms_X9_minute mo_X9_minute (rcv (ci := 9) (n := 20) (r := (RX9, TX9, 20)) k_0 rfl rfl) (Nat.le_of_ble_eq_true rfl) (lk_minute (sc := sc) (a := sc.2 (i + 1)) (b := sc.2 (i + 2)) h (hsc _)) rfl (fun x μx h => ?_)
  refine WP_aload_n dL_law_730 rfl rfl ⟨Nat.le_of_ble_eq_true rfl, Nat.le_of_ble_eq_true rfl⟩ ?_
  refine WP_aload_n dL_law_731 rfl rfl ⟨Nat.le_of_ble_eq_true rfl, Nat.le_of_ble_eq_true rfl⟩ ?_
  refine WP_iload_n dL_law_732 rfl rfl ?_
  refine WP_iconst dL_law_733 (by decide) ?_
  refine WP_iadd dL_law_734 ⟨by omega, by omega⟩ ?_
  refine WP_sld dL_law_735 ⟨by omega, by show _ < (sc.1 : Int); omega⟩ ?_
  refine WP_aload_n dL_law_736 rfl rfl ⟨Nat.le_of_ble_eq_true rfl, Nat.le_of_ble_eq_true rfl⟩ ?_
  refine WP_iload_n dL_law_737 rfl rfl ?_
  refine WP_iconst dL_law_738 (by decide) ?_
  refine WP_iadd dL_law_739 ⟨by omega, by omega⟩ ?_
  refine WP_sld dL_law_740 ⟨by omega, by show _ < (sc.1 : Int); omega⟩ ?_
  refine WL_invVi (v := (2, 183)) (as := [(0, sc.2 (i + 1)), (0, sc.2 (i + 2))]) dL_law_741 l_L_84 mw_X10_minute mi_X10_minute ms_X10_minute mo_X10_minute (rcv (ci := 10) (n := 49) (r := (RX10, TX10, 49)) k_183 rfl rfl) (Nat.le_of_ble_eq_true rfl) h rfl (fun y μy h => ?_)
  obtain ⟨rfl, A', h⟩ := h
  exact WP_icmp_eq (tgt := 1480) dL_law_744 (by decide) (fun _ => k A' _ h) (fun q => absurd rfl q)
theorem lc_17 {sc : SC} {Z : ZT} {μ : Mem} {A : StT} {i : Int} (hi : 0 ≤ i ∧ i + 6 ≤ (sc.1 : Int) ∧ (sc.1 : Int) ≤ 3072) (hsc : ∀ j, i32 (sc.2 j)) (h : RB μ A) (k : ∀ A' μ', RB μ' A' → WL sc Z 1480 [(4, 0), (2, 0), (2, 183), (0, i)] [] μ') : WL sc Z 749 [(4, 0), (2, 0), (2, 183), (0, i)] [] μ := by
  refine WP_aload_n dL_law_749 rfl rfl ⟨Nat.le_of_ble_eq_true rfl, Nat.le_of_ble_eq_true rfl⟩ ?_
  refine WP_aload_n dL_law_750 rfl rfl ⟨Nat.le_of_ble_eq_true rfl, Nat.le_of_ble_eq_true rfl⟩ ?_
  refine WP_iload_n dL_law_751 rfl rfl ?_
  refine WP_iconst dL_law_752 (by decide) ?_
  refine WP_iadd dL_law_753 ⟨by omega, by omega⟩ ?_
  refine WP_sld dL_law_754 ⟨by omega, by show _ < (sc.1 : Int); omega⟩ ?_
  refine WL_invVi (v := (2, 0)) (as := [(0, sc.2 (i + 1))]) dL_law_755 l_L_85 mw_X9_crowd mi_X9_crowd ms_X9_crowd mo_X9_crowd (rcv (ci := 9) (n := 20) (r := (RX9, TX9, 20)) k_0 rfl rfl) (Nat.le_of_ble_eq_true rfl) (lk_crowd (sc := sc) (a := sc.2 (i + 1)) h) rfl (fun x μx h => ?_)
  refine WP_aload_n dL_law_758 rfl rfl ⟨Nat.le_of_ble_eq_true rfl, Nat.le_of_ble_eq_true rfl⟩ ?_
  refine WP_aload_n dL_law_759 rfl rfl ⟨Nat.le_of_ble_eq_true rfl, Nat.le_of_ble_eq_true rfl⟩ ?_
  refine WP_iload_n dL_law_760 rfl rfl ?_
  refine WP_iconst dL_law_761 (by decide) ?_
  refine WP_iadd dL_law_762 ⟨by omega, by omega⟩ ?_
  refine WP_sld dL_law_763 ⟨by omega, by show _ < (sc.1 : Int); omega⟩ ?_
  refine WL_invVi (v := (2, 183)) (as := [(0, sc.2 (i + 1))]) dL_law_764 l_L_88 mw_X10_crowd mi_X10_crowd ms_X10_crowd mo_X10_crowd (rcv (ci := 10) (n := 49) (r := (RX10, TX10, 49)) k_183 rfl rfl) (Nat.le_of_ble_eq_true rfl) h rfl (fun y μy h => ?_)
  obtain ⟨rfl, A', h⟩ := h
  exact WP_icmp_eq (tgt := 1480) dL_law_767 (by decide) (fun _ => k A' _ h) (fun q => absurd rfl q)
theorem lc_18 {sc : SC} {Z : ZT} {μ : Mem} {A : StT} {i : Int} (hi : 0 ≤ i ∧ i + 6 ≤ (sc.1 : Int) ∧ (sc.1 : Int) ≤ 3072) (hsc : ∀ j, i32 (sc.2 j)) (h : RB μ A) (k : ∀ A' μ', RB μ' A' → WL sc Z 1480 [(4, 0), (2, 0), (2, 183), (0, i)] [] μ') : WL sc Z 772 [(4, 0), (2, 0), (2, 183), (0, i)] [] μ := by
  refine WP_aload_n dL_law_772 rfl rfl ⟨Nat.le_of_ble_eq_true rfl, Nat.le_of_ble_eq_true rfl⟩ ?_
  refine WL_invVi (v := (2, 0)) (as := []) dL_law_773 l_L_89 mw_X9_worst mi_X9_worst ms_X9_worst mo_X9_worst (rcv (ci := 9) (n := 20) (r := (RX9, TX9, 20)) k_0 rfl rfl) (Nat.le_of_ble_eq_true rfl) (lk_worst (sc := sc) h) rfl (fun x μx h => ?_)
  refine WP_aload_n dL_law_776 rfl rfl ⟨Nat.le_of_ble_eq_true rfl, Nat.le_of_ble_eq_true rfl⟩ ?_
  refine WL_invVi (v := (2, 183)) (as := []) dL_law_777 l_L_93 mw_X10_worst mi_X10_worst ms_X10_worst mo_X10_worst (rcv (ci := 10) (n := 49) (r := (RX10, TX10, 49)) k_183 rfl rfl) (Nat.le_of_ble_eq_true rfl) h rfl (fun y μy h => ?_)
  obtain ⟨rfl, A', h⟩ := h
  exact WP_icmp_eq (tgt := 1480) dL_law_780 (by decide) (fun _ => k A' _ h) (fun q => absurd rfl q)
theorem lc_19 {sc : SC} {Z : ZT} {μ : Mem} {A : StT} {i : Int} (hi : 0 ≤ i ∧ i + 6 ≤ (sc.1 : Int) ∧ (sc.1 : Int) ≤ 3072) (hsc : ∀ j, i32 (sc.2 j)) (h : RB μ A) (k : ∀ A' μ', RB μ' A' → WL sc Z 1480 [(4, 0), (2, 0), (2, 183), (0, i)] [] μ') : WL sc Z 785 [(4, 0), (2, 0), (2, 183), (0, i)] [] μ := by
  refine WP_aload_n dL_law_785 rfl rfl ⟨Nat.le_of_ble_eq_true rfl, Nat.le_of_ble_eq_true rfl⟩ ?_
  refine WP_aload_n dL_law_786 rfl rfl ⟨Nat.le_of_ble_eq_true rfl, Nat.le_of_ble_eq_true rfl⟩ ?_
  refine WP_iload_n dL_law_787 rfl rfl ?_
  refine WP_iconst dL_law_788 (by decide) ?_
  refine WP_iadd dL_law_789 ⟨by omega, by omega⟩ ?_
  refine WP_sld dL_law_790 ⟨by omega, by show _ < (sc.1 : Int); omega⟩ ?_
  refine WL_invVi (v := (2, 0)) (as := [(0, sc.2 (i + 1))]) dL_law_791 l_L_94 mw_X9_answers mi_X9_answers ms_X9_answers mo_X9_answers (rcv (ci := 9) (n := 20) (r := (RX9, TX9, 20)) k_0 rfl rfl) (Nat.le_of_ble_eq_true rfl) (lk_answers (sc := sc) (a := sc.2 (i + 1)) h) rfl (fun x μx h => ?_)
  refine WP_aload_n dL_law_794 rfl rfl ⟨Nat.le_of_ble_eq_true rfl, Nat.le_of_ble_eq_true rfl⟩ ?_
  refine WP_aload_n dL_law_795 rfl rfl ⟨Nat.le_of_ble_eq_true rfl, Nat.le_of_ble_eq_true rfl⟩ ?_
  refine WP_iload_n dL_law_796 rfl rfl ?_
  refine WP_iconst dL_law_797 (by decide) ?_
  refine WP_iadd dL_law_798 ⟨by omega, by omega⟩ ?_
  refine WP_sld dL_law_799 ⟨by omega, by show _ < (sc.1 : Int); omega⟩ ?_
  refine WL_invVi (v := (2, 183)) (as := [(0, sc.2 (i + 1))]) dL_law_800 l_L_97 mw_X10_answers mi_X10_answers ms_X10_answers mo_X10_answers (rcv (ci := 10) (n := 49) (r := (RX10, TX10, 49)) k_183 rfl rfl) (Nat.le_of_ble_eq_true rfl) h rfl (fun y μy h => ?_)
  obtain ⟨rfl, A', h⟩ := h
  exact WP_icmp_eq (tgt := 1480) dL_law_803 (by decide) (fun _ => k A' _ h) (fun q => absurd rfl q)
theorem lc_20 {sc : SC} {Z : ZT} {μ : Mem} {A : StT} {i : Int} (hi : 0 ≤ i ∧ i + 6 ≤ (sc.1 : Int) ∧ (sc.1 : Int) ≤ 3072) (hsc : ∀ j, i32 (sc.2 j)) (h : RB μ A) (k : ∀ A' μ', RB μ' A' → WL sc Z 1480 [(4, 0), (2, 0), (2, 183), (0, i)] [] μ') : WL sc Z 808 [(4, 0), (2, 0), (2, 183), (0, i)] [] μ := by
  refine WP_aload_n dL_law_808 rfl rfl ⟨Nat.le_of_ble_eq_true rfl, Nat.le_of_ble_eq_true rfl⟩ ?_
  refine WL_invVi (v := (2, 0)) (as := []) dL_law_809 l_L_98 mw_X9_nobody mi_X9_nobody ms_X9_nobody mo_X9_nobody (rcv (ci := 9) (n := 20) (r := (RX9, TX9, 20)) k_0 rfl rfl) (Nat.le_of_ble_eq_true rfl) (lk_nobody (sc := sc) h) rfl (fun x μx h => ?_)
  refine WP_aload_n dL_law_812 rfl rfl ⟨Nat.le_of_ble_eq_true rfl, Nat.le_of_ble_eq_true rfl⟩ ?_
  refine WL_invVi (v := (2, 183)) (as := []) dL_law_813 l_L_101 mw_X10_nobody mi_X10_nobody ms_X10_nobody mo_X10_nobody (rcv (ci := 10) (n := 49) (r := (RX10, TX10, 49)) k_183 rfl rfl) (Nat.le_of_ble_eq_true rfl) h rfl (fun y μy h => ?_)
  obtain ⟨rfl, A', h⟩ := h
  exact WP_icmp_eq (tgt := 1480) dL_law_816 (by decide) (fun _ => k A' _ h) (fun q => absurd rfl q)
theorem lc_21 {sc : SC} {Z : ZT} {μ : Mem} {A : StT} {i : Int} (hi : 0 ≤ i ∧ i + 6 ≤ (sc.1 : Int) ∧ (sc.1 : Int) ≤ 3072) (hsc : ∀ j, i32 (sc.2 j)) (h : RB μ A) (k : ∀ A' μ', RB μ' A' → WL sc Z 1480 [(4, 0), (2, 0), (2, 183), (0, i)] [] μ') : WL sc Z 821 [(4, 0), (2, 0), (2, 183), (0, i)] [] μ := by
  refine WP_aload_n dL_law_821 rfl rfl ⟨Nat.le_of_ble_eq_true rfl, Nat.le_of_ble_eq_true rfl⟩ ?_
  refine WP_aload_n dL_law_822 rfl rfl ⟨Nat.le_of_ble_eq_true rfl, Nat.le_of_ble_eq_true rfl⟩ ?_
  refine WP_iload_n dL_law_823 rfl rfl ?_
  refine WP_iconst dL_law_824 (by decide) ?_
  refine WP_iadd dL_law_825 ⟨by omega, by omega⟩ ?_
  refine WP_sld dL_law_826 ⟨by omega, by show _ < (sc.1 : Int); omega⟩ ?_
  refine WP_aload_n dL_law_827 rfl rfl ⟨Nat.le_of_ble_eq_true rfl, Nat.le_of_ble_eq_true rfl⟩ ?_
  refine WP_iload_n dL_law_828 rfl rfl ?_
  refine WP_iconst dL_law_829 (by decide) ?_
  refine WP_iadd dL_law_830 ⟨by omega, by omega⟩ ?_
  refine WP_sld dL_law_831 ⟨by omega, by show _ < (sc.1 : Int); omega⟩ ?_
  refine WP_aload_n dL_law_832 rfl rfl ⟨Nat.le_of_ble_eq_true rfl, Nat.le_of_ble_eq_true rfl⟩ ?_
  refine WP_iload_n dL_law_833 rfl rfl ?_
  refine WP_iconst dL_law_834 (by decide) ?_
  refine WP_iadd dL_law_835 ⟨by omega, by omega⟩ ?_
  refine WP_sld dL_law_836 ⟨by omega, by show _ < (sc.1 : Int); omega⟩ ?_
  refine WL_invVi (v := (2, 0)) (as := [(0, sc.2 (i + 1)), (0, sc.2 (i + 2)), (0, sc.2 (i + 3))]) dL_law_837 l_L_102 mw_X9_who mi_X9_who ms_X9_who mo_X9_who (rcv (ci := 9) (n := 20) (r := (RX9, TX9, 20)) k_0 rfl rfl) (Nat.le_of_ble_eq_true rfl) (lk_who (sc := sc) (a := sc.2 (i + 1)) (b := sc.2 (i + 2)) (c := sc.2 (i + 3)) h) rfl (fun x μx h => ?_)
  refine WP_aload_n dL_law_840 rfl rfl ⟨Nat.le_of_ble_eq_true rfl, Nat.le_of_ble_eq_true rfl⟩ ?_
  refine WP_aload_n dL_law_841 rfl rfl ⟨Nat.le_of_ble_eq_true rfl, Nat.le_of_ble_eq_true rfl⟩ ?_
  refine WP_iload_n dL_law_842 rfl rfl ?_
  refine WP_iconst dL_law_843 (by decide) ?_
  refine WP_iadd dL_law_844 ⟨by omega, by omega⟩ ?_
  refine WP_sld dL_law_845 ⟨by omega, by show _ < (sc.1 : Int); omega⟩ ?_
  refine WP_aload_n dL_law_846 rfl rfl ⟨Nat.le_of_ble_eq_true rfl, Nat.le_of_ble_eq_true rfl⟩ ?_
  refine WP_iload_n dL_law_847 rfl rfl ?_
  refine WP_iconst dL_law_848 (by decide) ?_
  refine WP_iadd dL_law_849 ⟨by omega, by omega⟩ ?_
  refine WP_sld dL_law_850 ⟨by omega, by show _ < (sc.1 : Int); omega⟩ ?_
  refine WP_aload_n dL_law_851 rfl rfl ⟨Nat.le_of_ble_eq_true rfl, Nat.le_of_ble_eq_true rfl⟩ ?_
  refine WP_iload_n dL_law_852 rfl rfl ?_
  refine WP_iconst dL_law_853 (by decide) ?_
  refine WP_iadd dL_law_854 ⟨by omega, by omega⟩ ?_
  refine WP_sld dL_law_855 ⟨by omega, by show _ < (sc.1 : Int); omega⟩ ?_
  refine WL_invVi (v := (2, 183)) (as := [(0, sc.2 (i + 1)), (0, sc.2 (i + 2)), (0, sc.2 (i + 3))]) dL_law_856 l_L_105 mw_X10_who mi_X10_who ms_X10_who mo_X10_who (rcv (ci := 10) (n := 49) (r := (RX10, TX10, 49)) k_183 rfl rfl) (Nat.le_of_ble_eq_true rfl) h rfl (fun y μy h => ?_)
  obtain ⟨rfl, A', h⟩ := h
  exact WP_icmp_eq (tgt := 1480) dL_law_859 (by decide) (fun _ => k A' _ h) (fun q => absurd rfl q)
theorem lc_22 {sc : SC} {Z : ZT} {μ : Mem} {A : StT} {i : Int} (hi : 0 ≤ i ∧ i + 6 ≤ (sc.1 : Int) ∧ (sc.1 : Int) ≤ 3072) (hsc : ∀ j, i32 (sc.2 j)) (h : RB μ A) (k : ∀ A' μ', RB μ' A' → WL sc Z 1480 [(4, 0), (2, 0), (2, 183), (0, i)] [] μ') : WL sc Z 864 [(4, 0), (2, 0), (2, 183), (0, i)] [] μ := by
  refine WP_aload_n dL_law_864 rfl rfl ⟨Nat.le_of_ble_eq_true rfl, Nat.le_of_ble_eq_true rfl⟩ ?_
  refine WP_aload_n dL_law_865 rfl rfl ⟨Nat.le_of_ble_eq_true rfl, Nat.le_of_ble_eq_true rfl⟩ ?_
  refine WP_iload_n dL_law_866 rfl rfl ?_
  refine WP_iconst dL_law_867 (by decide) ?_
  refine WP_iadd dL_law_868 ⟨by omega, by omega⟩ ?_
  refine WP_sld dL_law_869 ⟨by omega, by show _ < (sc.1 : Int); omega⟩ ?_
  refine WP_aload_n dL_law_870 rfl rfl ⟨Nat.le_of_ble_eq_true rfl, Nat.le_of_ble_eq_true rfl⟩ ?_
  refine WP_iload_n dL_law_871 rfl rfl ?_
  refine WP_iconst dL_law_872 (by decide) ?_
  refine WP_iadd dL_law_873 ⟨by omega, by omega⟩ ?_
  refine WP_sld dL_law_874 ⟨by omega, by show _ < (sc.1 : Int); omega⟩ ?_
  refine WL_invVi (v := (2, 0)) (as := [(0, sc.2 (i + 1)), (0, sc.2 (i + 2))]) dL_law_875 l_L_106 mw_X9_stops mi_X9_stops ms_X9_stops mo_X9_stops (rcv (ci := 9) (n := 20) (r := (RX9, TX9, 20)) k_0 rfl rfl) (Nat.le_of_ble_eq_true rfl) (lk_stops (sc := sc) (a := sc.2 (i + 1)) (b := sc.2 (i + 2)) h) rfl (fun x μx h => ?_)
  refine WP_aload_n dL_law_878 rfl rfl ⟨Nat.le_of_ble_eq_true rfl, Nat.le_of_ble_eq_true rfl⟩ ?_
  refine WP_aload_n dL_law_879 rfl rfl ⟨Nat.le_of_ble_eq_true rfl, Nat.le_of_ble_eq_true rfl⟩ ?_
  refine WP_iload_n dL_law_880 rfl rfl ?_
  refine WP_iconst dL_law_881 (by decide) ?_
  refine WP_iadd dL_law_882 ⟨by omega, by omega⟩ ?_
  refine WP_sld dL_law_883 ⟨by omega, by show _ < (sc.1 : Int); omega⟩ ?_
  refine WP_aload_n dL_law_884 rfl rfl ⟨Nat.le_of_ble_eq_true rfl, Nat.le_of_ble_eq_true rfl⟩ ?_
  refine WP_iload_n dL_law_885 rfl rfl ?_
  refine WP_iconst dL_law_886 (by decide) ?_
  refine WP_iadd dL_law_887 ⟨by omega, by omega⟩ ?_
  refine WP_sld dL_law_888 ⟨by omega, by show _ < (sc.1 : Int); omega⟩ ?_
  refine WL_invVi (v := (2, 183)) (as := [(0, sc.2 (i + 1)), (0, sc.2 (i + 2))]) dL_law_889 l_L_109 mw_X10_stops mi_X10_stops ms_X10_stops mo_X10_stops (rcv (ci := 10) (n := 49) (r := (RX10, TX10, 49)) k_183 rfl rfl) (Nat.le_of_ble_eq_true rfl) h rfl (fun y μy h => ?_)
  obtain ⟨rfl, A', h⟩ := h
  exact WP_icmp_eq (tgt := 1480) dL_law_892 (by decide) (fun _ => k A' _ h) (fun q => absurd rfl q)
theorem lc_23 {sc : SC} {Z : ZT} {μ : Mem} {A : StT} {i : Int} (hi : 0 ≤ i ∧ i + 6 ≤ (sc.1 : Int) ∧ (sc.1 : Int) ≤ 3072) (hsc : ∀ j, i32 (sc.2 j)) (h : RB μ A) (k : ∀ A' μ', RB μ' A' → WL sc Z 1480 [(4, 0), (2, 0), (2, 183), (0, i)] [] μ') : WL sc Z 897 [(4, 0), (2, 0), (2, 183), (0, i)] [] μ := by
  refine WP_aload_n dL_law_897 rfl rfl ⟨Nat.le_of_ble_eq_true rfl, Nat.le_of_ble_eq_true rfl⟩ ?_
  refine WP_aload_n dL_law_898 rfl rfl ⟨Nat.le_of_ble_eq_true rfl, Nat.le_of_ble_eq_true rfl⟩ ?_
  refine WP_iload_n dL_law_899 rfl rfl ?_
  refine WP_iconst dL_law_900 (by decide) ?_
  refine WP_iadd dL_law_901 ⟨by omega, by omega⟩ ?_
  refine WP_sld dL_law_902 ⟨by omega, by show _ < (sc.1 : Int); omega⟩ ?_
  refine WP_aload_n dL_law_903 rfl rfl ⟨Nat.le_of_ble_eq_true rfl, Nat.le_of_ble_eq_true rfl⟩ ?_
  refine WP_iload_n dL_law_904 rfl rfl ?_
  refine WP_iconst dL_law_905 (by decide) ?_
  refine WP_iadd dL_law_906 ⟨by omega, by omega⟩ ?_
  refine WP_sld dL_law_907 ⟨by omega, by show _ < (sc.1 : Int); omega⟩ ?_
  refine WP_aload_n dL_law_908 rfl rfl ⟨Nat.le_of_ble_eq_true rfl, Nat.le_of_ble_eq_true rfl⟩ ?_
  refine WP_iload_n dL_law_909 rfl rfl ?_
  refine WP_iconst dL_law_910 (by decide) ?_
  refine WP_iadd dL_law_911 ⟨by omega, by omega⟩ ?_
  refine WP_sld dL_law_912 ⟨by omega, by show _ < (sc.1 : Int); omega⟩ ?_
  refine WL_invVi (v := (2, 0)) (as := [(0, sc.2 (i + 1)), (0, sc.2 (i + 2)), (0, sc.2 (i + 3))]) dL_law_913 l_L_110 mw_X9_stopBy mi_X9_stopBy ms_X9_stopBy mo_X9_stopBy (rcv (ci := 9) (n := 20) (r := (RX9, TX9, 20)) k_0 rfl rfl) (Nat.le_of_ble_eq_true rfl) (lk_stopBy (sc := sc) (a := sc.2 (i + 1)) (b := sc.2 (i + 2)) (c := sc.2 (i + 3)) h) rfl (fun x μx h => ?_)
  refine WP_aload_n dL_law_916 rfl rfl ⟨Nat.le_of_ble_eq_true rfl, Nat.le_of_ble_eq_true rfl⟩ ?_
  refine WP_aload_n dL_law_917 rfl rfl ⟨Nat.le_of_ble_eq_true rfl, Nat.le_of_ble_eq_true rfl⟩ ?_
  refine WP_iload_n dL_law_918 rfl rfl ?_
  refine WP_iconst dL_law_919 (by decide) ?_
  refine WP_iadd dL_law_920 ⟨by omega, by omega⟩ ?_
  refine WP_sld dL_law_921 ⟨by omega, by show _ < (sc.1 : Int); omega⟩ ?_
  refine WP_aload_n dL_law_922 rfl rfl ⟨Nat.le_of_ble_eq_true rfl, Nat.le_of_ble_eq_true rfl⟩ ?_
  refine WP_iload_n dL_law_923 rfl rfl ?_
  refine WP_iconst dL_law_924 (by decide) ?_
  refine WP_iadd dL_law_925 ⟨by omega, by omega⟩ ?_
  refine WP_sld dL_law_926 ⟨by omega, by show _ < (sc.1 : Int); omega⟩ ?_
  refine WP_aload_n dL_law_927 rfl rfl ⟨Nat.le_of_ble_eq_true rfl, Nat.le_of_ble_eq_true rfl⟩ ?_
  refine WP_iload_n dL_law_928 rfl rfl ?_
  refine WP_iconst dL_law_929 (by decide) ?_
  refine WP_iadd dL_law_930 ⟨by omega, by omega⟩ ?_
  refine WP_sld dL_law_931 ⟨by omega, by show _ < (sc.1 : Int); omega⟩ ?_
  refine WL_invVi (v := (2, 183)) (as := [(0, sc.2 (i + 1)), (0, sc.2 (i + 2)), (0, sc.2 (i + 3))]) dL_law_932 l_L_113 mw_X10_stopBy mi_X10_stopBy ms_X10_stopBy mo_X10_stopBy (rcv (ci := 10) (n := 49) (r := (RX10, TX10, 49)) k_183 rfl rfl) (Nat.le_of_ble_eq_true rfl) h rfl (fun y μy h => ?_)
  obtain ⟨rfl, A', h⟩ := h
  exact WP_icmp_eq (tgt := 1480) dL_law_935 (by decide) (fun _ => k A' _ h) (fun q => absurd rfl q)
theorem lc_24 {sc : SC} {Z : ZT} {μ : Mem} {A : StT} {i : Int} (hi : 0 ≤ i ∧ i + 6 ≤ (sc.1 : Int) ∧ (sc.1 : Int) ≤ 3072) (hsc : ∀ j, i32 (sc.2 j)) (h : RB μ A) (k : ∀ A' μ', RB μ' A' → WL sc Z 1480 [(4, 0), (2, 0), (2, 183), (0, i)] [] μ') : WL sc Z 940 [(4, 0), (2, 0), (2, 183), (0, i)] [] μ := by
  refine WP_aload_n dL_law_940 rfl rfl ⟨Nat.le_of_ble_eq_true rfl, Nat.le_of_ble_eq_true rfl⟩ ?_
  refine WP_aload_n dL_law_941 rfl rfl ⟨Nat.le_of_ble_eq_true rfl, Nat.le_of_ble_eq_true rfl⟩ ?_
  refine WP_iload_n dL_law_942 rfl rfl ?_
  refine WP_iconst dL_law_943 (by decide) ?_
  refine WP_iadd dL_law_944 ⟨by omega, by omega⟩ ?_
  refine WP_sld dL_law_945 ⟨by omega, by show _ < (sc.1 : Int); omega⟩ ?_
  refine WP_aload_n dL_law_946 rfl rfl ⟨Nat.le_of_ble_eq_true rfl, Nat.le_of_ble_eq_true rfl⟩ ?_
  refine WP_iload_n dL_law_947 rfl rfl ?_
  refine WP_iconst dL_law_948 (by decide) ?_
  refine WP_iadd dL_law_949 ⟨by omega, by omega⟩ ?_
  refine WP_sld dL_law_950 ⟨by omega, by show _ < (sc.1 : Int); omega⟩ ?_
  refine WL_invVi (v := (2, 0)) (as := [(0, sc.2 (i + 1)), (0, sc.2 (i + 2))]) dL_law_951 l_L_114 mw_X9_quiet mi_X9_quiet ms_X9_quiet mo_X9_quiet (rcv (ci := 9) (n := 20) (r := (RX9, TX9, 20)) k_0 rfl rfl) (Nat.le_of_ble_eq_true rfl) (lk_quiet (sc := sc) (a := sc.2 (i + 1)) (b := sc.2 (i + 2)) h) rfl (fun x μx h => ?_)
  refine WP_aload_n dL_law_954 rfl rfl ⟨Nat.le_of_ble_eq_true rfl, Nat.le_of_ble_eq_true rfl⟩ ?_
  refine WP_aload_n dL_law_955 rfl rfl ⟨Nat.le_of_ble_eq_true rfl, Nat.le_of_ble_eq_true rfl⟩ ?_
  refine WP_iload_n dL_law_956 rfl rfl ?_
  refine WP_iconst dL_law_957 (by decide) ?_
  refine WP_iadd dL_law_958 ⟨by omega, by omega⟩ ?_
  refine WP_sld dL_law_959 ⟨by omega, by show _ < (sc.1 : Int); omega⟩ ?_
  refine WP_aload_n dL_law_960 rfl rfl ⟨Nat.le_of_ble_eq_true rfl, Nat.le_of_ble_eq_true rfl⟩ ?_
  refine WP_iload_n dL_law_961 rfl rfl ?_
  refine WP_iconst dL_law_962 (by decide) ?_
  refine WP_iadd dL_law_963 ⟨by omega, by omega⟩ ?_
  refine WP_sld dL_law_964 ⟨by omega, by show _ < (sc.1 : Int); omega⟩ ?_
  refine WL_invVi (v := (2, 183)) (as := [(0, sc.2 (i + 1)), (0, sc.2 (i + 2))]) dL_law_965 l_L_117 mw_X10_quiet mi_X10_quiet ms_X10_quiet mo_X10_quiet (rcv (ci := 10) (n := 49) (r := (RX10, TX10, 49)) k_183 rfl rfl) (Nat.le_of_ble_eq_true rfl) h rfl (fun y μy h => ?_)
  obtain ⟨rfl, A', h⟩ := h
  exact WP_icmp_eq (tgt := 1480) dL_law_968 (by decide) (fun _ => k A' _ h) (fun q => absurd rfl q)
theorem lc_25 {sc : SC} {Z : ZT} {μ : Mem} {A : StT} {i : Int} (hi : 0 ≤ i ∧ i + 6 ≤ (sc.1 : Int) ∧ (sc.1 : Int) ≤ 3072) (hsc : ∀ j, i32 (sc.2 j)) (h : RB μ A) (k : ∀ A' μ', RB μ' A' → WL sc Z 1480 [(4, 0), (2, 0), (2, 183), (0, i)] [] μ') : WL sc Z 973 [(4, 0), (2, 0), (2, 183), (0, i)] [] μ := by
  refine WP_aload_n dL_law_973 rfl rfl ⟨Nat.le_of_ble_eq_true rfl, Nat.le_of_ble_eq_true rfl⟩ ?_
  refine WP_aload_n dL_law_974 rfl rfl ⟨Nat.le_of_ble_eq_true rfl, Nat.le_of_ble_eq_true rfl⟩ ?_
  refine WP_iload_n dL_law_975 rfl rfl ?_
  refine WP_iconst dL_law_976 (by decide) ?_
  refine WP_iadd dL_law_977 ⟨by omega, by omega⟩ ?_
  refine WP_sld dL_law_978 ⟨by omega, by show _ < (sc.1 : Int); omega⟩ ?_
  refine WP_aload_n dL_law_979 rfl rfl ⟨Nat.le_of_ble_eq_true rfl, Nat.le_of_ble_eq_true rfl⟩ ?_
  refine WP_iload_n dL_law_980 rfl rfl ?_
  refine WP_iconst dL_law_981 (by decide) ?_
  refine WP_iadd dL_law_982 ⟨by omega, by omega⟩ ?_
  refine WP_sld dL_law_983 ⟨by omega, by show _ < (sc.1 : Int); omega⟩ ?_
  refine WL_invVi (v := (2, 0)) (as := [(0, sc.2 (i + 1)), (0, sc.2 (i + 2))]) dL_law_984 l_L_118 mw_X9_atOnce mi_X9_atOnce ms_X9_atOnce mo_X9_atOnce (rcv (ci := 9) (n := 20) (r := (RX9, TX9, 20)) k_0 rfl rfl) (Nat.le_of_ble_eq_true rfl) (lk_atOnce (sc := sc) (a := sc.2 (i + 1)) (b := sc.2 (i + 2)) h) rfl (fun x μx h => ?_)
  refine WP_aload_n dL_law_987 rfl rfl ⟨Nat.le_of_ble_eq_true rfl, Nat.le_of_ble_eq_true rfl⟩ ?_
  refine WP_aload_n dL_law_988 rfl rfl ⟨Nat.le_of_ble_eq_true rfl, Nat.le_of_ble_eq_true rfl⟩ ?_
  refine WP_iload_n dL_law_989 rfl rfl ?_
  refine WP_iconst dL_law_990 (by decide) ?_
  refine WP_iadd dL_law_991 ⟨by omega, by omega⟩ ?_
  refine WP_sld dL_law_992 ⟨by omega, by show _ < (sc.1 : Int); omega⟩ ?_
  refine WP_aload_n dL_law_993 rfl rfl ⟨Nat.le_of_ble_eq_true rfl, Nat.le_of_ble_eq_true rfl⟩ ?_
  refine WP_iload_n dL_law_994 rfl rfl ?_
  refine WP_iconst dL_law_995 (by decide) ?_
  refine WP_iadd dL_law_996 ⟨by omega, by omega⟩ ?_
  refine WP_sld dL_law_997 ⟨by omega, by show _ < (sc.1 : Int); omega⟩ ?_
  refine WL_invVi (v := (2, 183)) (as := [(0, sc.2 (i + 1)), (0, sc.2 (i + 2))]) dL_law_998 l_L_121 mw_X10_atOnce mi_X10_atOnce ms_X10_atOnce mo_X10_atOnce (rcv (ci := 10) (n := 49) (r := (RX10, TX10, 49)) k_183 rfl rfl) (Nat.le_of_ble_eq_true rfl) h rfl (fun y μy h => ?_)
  obtain ⟨rfl, A', h⟩ := h
  exact WP_icmp_eq (tgt := 1480) dL_law_1001 (by decide) (fun _ => k A' _ h) (fun q => absurd rfl q)
theorem lc_26 {sc : SC} {Z : ZT} {μ : Mem} {A : StT} {i : Int} (hi : 0 ≤ i ∧ i + 6 ≤ (sc.1 : Int) ∧ (sc.1 : Int) ≤ 3072) (hsc : ∀ j, i32 (sc.2 j)) (h : RB μ A) (k : ∀ A' μ', RB μ' A' → WL sc Z 1480 [(4, 0), (2, 0), (2, 183), (0, i)] [] μ') : WL sc Z 1006 [(4, 0), (2, 0), (2, 183), (0, i)] [] μ := by
  refine WP_aload_n dL_law_1006 rfl rfl ⟨Nat.le_of_ble_eq_true rfl, Nat.le_of_ble_eq_true rfl⟩ ?_
  refine WP_aload_n dL_law_1007 rfl rfl ⟨Nat.le_of_ble_eq_true rfl, Nat.le_of_ble_eq_true rfl⟩ ?_
  refine WP_iload_n dL_law_1008 rfl rfl ?_
  refine WP_iconst dL_law_1009 (by decide) ?_
  refine WP_iadd dL_law_1010 ⟨by omega, by omega⟩ ?_
  refine WP_sld dL_law_1011 ⟨by omega, by show _ < (sc.1 : Int); omega⟩ ?_
  refine WP_aload_n dL_law_1012 rfl rfl ⟨Nat.le_of_ble_eq_true rfl, Nat.le_of_ble_eq_true rfl⟩ ?_
  refine WP_iload_n dL_law_1013 rfl rfl ?_
  refine WP_iconst dL_law_1014 (by decide) ?_
  refine WP_iadd dL_law_1015 ⟨by omega, by omega⟩ ?_
  refine WP_sld dL_law_1016 ⟨by omega, by show _ < (sc.1 : Int); omega⟩ ?_
  refine WL_invVi (v := (2, 0)) (as := [(0, sc.2 (i + 1)), (0, sc.2 (i + 2))]) dL_law_1017 l_L_122 mw_X9_silence mi_X9_silence ms_X9_silence mo_X9_silence (rcv (ci := 9) (n := 20) (r := (RX9, TX9, 20)) k_0 rfl rfl) (Nat.le_of_ble_eq_true rfl) (lk_silence (sc := sc) (a := sc.2 (i + 1)) (b := sc.2 (i + 2)) h) rfl (fun x μx h => ?_)
  refine WP_aload_n dL_law_1020 rfl rfl ⟨Nat.le_of_ble_eq_true rfl, Nat.le_of_ble_eq_true rfl⟩ ?_
  refine WP_aload_n dL_law_1021 rfl rfl ⟨Nat.le_of_ble_eq_true rfl, Nat.le_of_ble_eq_true rfl⟩ ?_
  refine WP_iload_n dL_law_1022 rfl rfl ?_
  refine WP_iconst dL_law_1023 (by decide) ?_
  refine WP_iadd dL_law_1024 ⟨by omega, by omega⟩ ?_
  refine WP_sld dL_law_1025 ⟨by omega, by show _ < (sc.1 : Int); omega⟩ ?_
  refine WP_aload_n dL_law_1026 rfl rfl ⟨Nat.le_of_ble_eq_true rfl, Nat.le_of_ble_eq_true rfl⟩ ?_
  refine WP_iload_n dL_law_1027 rfl rfl ?_
  refine WP_iconst dL_law_1028 (by decide) ?_
  refine WP_iadd dL_law_1029 ⟨by omega, by omega⟩ ?_
  refine WP_sld dL_law_1030 ⟨by omega, by show _ < (sc.1 : Int); omega⟩ ?_
  refine WL_invVi (v := (2, 183)) (as := [(0, sc.2 (i + 1)), (0, sc.2 (i + 2))]) dL_law_1031 l_L_125 mw_X10_silence mi_X10_silence ms_X10_silence mo_X10_silence (rcv (ci := 10) (n := 49) (r := (RX10, TX10, 49)) k_183 rfl rfl) (Nat.le_of_ble_eq_true rfl) h rfl (fun y μy h => ?_)
  obtain ⟨rfl, A', h⟩ := h
  exact WP_icmp_eq (tgt := 1480) dL_law_1034 (by decide) (fun _ => k A' _ h) (fun q => absurd rfl q)
theorem lc_27 {sc : SC} {Z : ZT} {μ : Mem} {A : StT} {i : Int} (hi : 0 ≤ i ∧ i + 6 ≤ (sc.1 : Int) ∧ (sc.1 : Int) ≤ 3072) (hsc : ∀ j, i32 (sc.2 j)) (h : RB μ A) (k : ∀ A' μ', RB μ' A' → WL sc Z 1480 [(4, 0), (2, 0), (2, 183), (0, i)] [] μ') : WL sc Z 1039 [(4, 0), (2, 0), (2, 183), (0, i)] [] μ := by
  refine WP_aload_n dL_law_1039 rfl rfl ⟨Nat.le_of_ble_eq_true rfl, Nat.le_of_ble_eq_true rfl⟩ ?_
  refine WP_aload_n dL_law_1040 rfl rfl ⟨Nat.le_of_ble_eq_true rfl, Nat.le_of_ble_eq_true rfl⟩ ?_
  refine WP_iload_n dL_law_1041 rfl rfl ?_
  refine WP_iconst dL_law_1042 (by decide) ?_
  refine WP_iadd dL_law_1043 ⟨by omega, by omega⟩ ?_
  refine WP_sld dL_law_1044 ⟨by omega, by show _ < (sc.1 : Int); omega⟩ ?_
  refine WP_aload_n dL_law_1045 rfl rfl ⟨Nat.le_of_ble_eq_true rfl, Nat.le_of_ble_eq_true rfl⟩ ?_
  refine WP_iload_n dL_law_1046 rfl rfl ?_
  refine WP_iconst dL_law_1047 (by decide) ?_
  refine WP_iadd dL_law_1048 ⟨by omega, by omega⟩ ?_
  refine WP_sld dL_law_1049 ⟨by omega, by show _ < (sc.1 : Int); omega⟩ ?_
  refine WL_invVi (v := (2, 0)) (as := [(0, sc.2 (i + 1)), (0, sc.2 (i + 2))]) dL_law_1050 l_L_126 mw_X9_heard mi_X9_heard ms_X9_heard mo_X9_heard (rcv (ci := 9) (n := 20) (r := (RX9, TX9, 20)) k_0 rfl rfl) (Nat.le_of_ble_eq_true rfl) (lk_heard (sc := sc) (a := sc.2 (i + 1)) (b := sc.2 (i + 2)) h) rfl (fun x μx h => ?_)
  refine WP_aload_n dL_law_1053 rfl rfl ⟨Nat.le_of_ble_eq_true rfl, Nat.le_of_ble_eq_true rfl⟩ ?_
  refine WP_aload_n dL_law_1054 rfl rfl ⟨Nat.le_of_ble_eq_true rfl, Nat.le_of_ble_eq_true rfl⟩ ?_
  refine WP_iload_n dL_law_1055 rfl rfl ?_
  refine WP_iconst dL_law_1056 (by decide) ?_
  refine WP_iadd dL_law_1057 ⟨by omega, by omega⟩ ?_
  refine WP_sld dL_law_1058 ⟨by omega, by show _ < (sc.1 : Int); omega⟩ ?_
  refine WP_aload_n dL_law_1059 rfl rfl ⟨Nat.le_of_ble_eq_true rfl, Nat.le_of_ble_eq_true rfl⟩ ?_
  refine WP_iload_n dL_law_1060 rfl rfl ?_
  refine WP_iconst dL_law_1061 (by decide) ?_
  refine WP_iadd dL_law_1062 ⟨by omega, by omega⟩ ?_
  refine WP_sld dL_law_1063 ⟨by omega, by show _ < (sc.1 : Int); omega⟩ ?_
  refine WL_invVi (v := (2, 183)) (as := [(0, sc.2 (i + 1)), (0, sc.2 (i + 2))]) dL_law_1064 l_L_129 mw_X10_heard mi_X10_heard ms_X10_heard mo_X10_heard (rcv (ci := 10) (n := 49) (r := (RX10, TX10, 49)) k_183 rfl rfl) (Nat.le_of_ble_eq_true rfl) h rfl (fun y μy h => ?_)
  obtain ⟨rfl, A', h⟩ := h
  exact WP_icmp_eq (tgt := 1480) dL_law_1067 (by decide) (fun _ => k A' _ h) (fun q => absurd rfl q)
theorem lc_28 {sc : SC} {Z : ZT} {μ : Mem} {A : StT} {i : Int} (hi : 0 ≤ i ∧ i + 6 ≤ (sc.1 : Int) ∧ (sc.1 : Int) ≤ 3072) (hsc : ∀ j, i32 (sc.2 j)) (h : RB μ A) (k : ∀ A' μ', RB μ' A' → WL sc Z 1480 [(4, 0), (2, 0), (2, 183), (0, i)] [] μ') : WL sc Z 1072 [(4, 0), (2, 0), (2, 183), (0, i)] [] μ := by
  refine WP_aload_n dL_law_1072 rfl rfl ⟨Nat.le_of_ble_eq_true rfl, Nat.le_of_ble_eq_true rfl⟩ ?_
  refine WP_aload_n dL_law_1073 rfl rfl ⟨Nat.le_of_ble_eq_true rfl, Nat.le_of_ble_eq_true rfl⟩ ?_
  refine WP_iload_n dL_law_1074 rfl rfl ?_
  refine WP_iconst dL_law_1075 (by decide) ?_
  refine WP_iadd dL_law_1076 ⟨by omega, by omega⟩ ?_
  refine WP_sld dL_law_1077 ⟨by omega, by show _ < (sc.1 : Int); omega⟩ ?_
  refine WP_aload_n dL_law_1078 rfl rfl ⟨Nat.le_of_ble_eq_true rfl, Nat.le_of_ble_eq_true rfl⟩ ?_
  refine WP_iload_n dL_law_1079 rfl rfl ?_
  refine WP_iconst dL_law_1080 (by decide) ?_
  refine WP_iadd dL_law_1081 ⟨by omega, by omega⟩ ?_
  refine WP_sld dL_law_1082 ⟨by omega, by show _ < (sc.1 : Int); omega⟩ ?_
  refine WP_aload_n dL_law_1083 rfl rfl ⟨Nat.le_of_ble_eq_true rfl, Nat.le_of_ble_eq_true rfl⟩ ?_
  refine WP_iload_n dL_law_1084 rfl rfl ?_
  refine WP_iconst dL_law_1085 (by decide) ?_
  refine WP_iadd dL_law_1086 ⟨by omega, by omega⟩ ?_
  refine WP_sld dL_law_1087 ⟨by omega, by show _ < (sc.1 : Int); omega⟩ ?_
  refine WL_invVi (v := (2, 0)) (as := [(0, sc.2 (i + 1)), (0, sc.2 (i + 2)), (0, sc.2 (i + 3))]) dL_law_1088 l_L_130 mw_X9_heardAt mi_X9_heardAt ms_X9_heardAt mo_X9_heardAt (rcv (ci := 9) (n := 20) (r := (RX9, TX9, 20)) k_0 rfl rfl) (Nat.le_of_ble_eq_true rfl) (lk_heardAt (sc := sc) (a := sc.2 (i + 1)) (b := sc.2 (i + 2)) (c := sc.2 (i + 3)) h) rfl (fun x μx h => ?_)
  refine WP_aload_n dL_law_1091 rfl rfl ⟨Nat.le_of_ble_eq_true rfl, Nat.le_of_ble_eq_true rfl⟩ ?_
  refine WP_aload_n dL_law_1092 rfl rfl ⟨Nat.le_of_ble_eq_true rfl, Nat.le_of_ble_eq_true rfl⟩ ?_
  refine WP_iload_n dL_law_1093 rfl rfl ?_
  refine WP_iconst dL_law_1094 (by decide) ?_
  refine WP_iadd dL_law_1095 ⟨by omega, by omega⟩ ?_
  refine WP_sld dL_law_1096 ⟨by omega, by show _ < (sc.1 : Int); omega⟩ ?_
  refine WP_aload_n dL_law_1097 rfl rfl ⟨Nat.le_of_ble_eq_true rfl, Nat.le_of_ble_eq_true rfl⟩ ?_
  refine WP_iload_n dL_law_1098 rfl rfl ?_
  refine WP_iconst dL_law_1099 (by decide) ?_
  refine WP_iadd dL_law_1100 ⟨by omega, by omega⟩ ?_
  refine WP_sld dL_law_1101 ⟨by omega, by show _ < (sc.1 : Int); omega⟩ ?_
  refine WP_aload_n dL_law_1102 rfl rfl ⟨Nat.le_of_ble_eq_true rfl, Nat.le_of_ble_eq_true rfl⟩ ?_
  refine WP_iload_n dL_law_1103 rfl rfl ?_
  refine WP_iconst dL_law_1104 (by decide) ?_
  refine WP_iadd dL_law_1105 ⟨by omega, by omega⟩ ?_
  refine WP_sld dL_law_1106 ⟨by omega, by show _ < (sc.1 : Int); omega⟩ ?_
  refine WL_invVi (v := (2, 183)) (as := [(0, sc.2 (i + 1)), (0, sc.2 (i + 2)), (0, sc.2 (i + 3))]) dL_law_1107 l_L_133 mw_X10_heardAt mi_X10_heardAt ms_X10_heardAt mo_X10_heardAt (rcv (ci := 10) (n := 49) (r := (RX10, TX10, 49)) k_183 rfl rfl) (Nat.le_of_ble_eq_true rfl) h rfl (fun y μy h => ?_)
  obtain ⟨rfl, A', h⟩ := h
  exact WP_icmp_eq (tgt := 1480) dL_law_1110 (by decide) (fun _ => k A' _ h) (fun q => absurd rfl q)
theorem lc_29 {sc : SC} {Z : ZT} {μ : Mem} {A : StT} {i : Int} (hi : 0 ≤ i ∧ i + 6 ≤ (sc.1 : Int) ∧ (sc.1 : Int) ≤ 3072) (hsc : ∀ j, i32 (sc.2 j)) (h : RB μ A) (k : ∀ A' μ', RB μ' A' → WL sc Z 1480 [(4, 0), (2, 0), (2, 183), (0, i)] [] μ') : WL sc Z 1115 [(4, 0), (2, 0), (2, 183), (0, i)] [] μ := by
  refine WP_aload_n dL_law_1115 rfl rfl ⟨Nat.le_of_ble_eq_true rfl, Nat.le_of_ble_eq_true rfl⟩ ?_
  refine WP_aload_n dL_law_1116 rfl rfl ⟨Nat.le_of_ble_eq_true rfl, Nat.le_of_ble_eq_true rfl⟩ ?_
  refine WP_iload_n dL_law_1117 rfl rfl ?_
  refine WP_iconst dL_law_1118 (by decide) ?_
  refine WP_iadd dL_law_1119 ⟨by omega, by omega⟩ ?_
  refine WP_sld dL_law_1120 ⟨by omega, by show _ < (sc.1 : Int); omega⟩ ?_
  refine WP_aload_n dL_law_1121 rfl rfl ⟨Nat.le_of_ble_eq_true rfl, Nat.le_of_ble_eq_true rfl⟩ ?_
  refine WP_iload_n dL_law_1122 rfl rfl ?_
  refine WP_iconst dL_law_1123 (by decide) ?_
  refine WP_iadd dL_law_1124 ⟨by omega, by omega⟩ ?_
  refine WP_sld dL_law_1125 ⟨by omega, by show _ < (sc.1 : Int); omega⟩ ?_
  refine WL_invVi (v := (2, 0)) (as := [(0, sc.2 (i + 1)), (0, sc.2 (i + 2))]) dL_law_1126 l_L_134 mw_X9_attempt mi_X9_attempt ms_X9_attempt mo_X9_attempt (rcv (ci := 9) (n := 20) (r := (RX9, TX9, 20)) k_0 rfl rfl) (Nat.le_of_ble_eq_true rfl) (lk_attempt (sc := sc) (a := sc.2 (i + 1)) (b := sc.2 (i + 2)) h) rfl (fun x μx h => ?_)
  refine WP_aload_n dL_law_1129 rfl rfl ⟨Nat.le_of_ble_eq_true rfl, Nat.le_of_ble_eq_true rfl⟩ ?_
  refine WP_aload_n dL_law_1130 rfl rfl ⟨Nat.le_of_ble_eq_true rfl, Nat.le_of_ble_eq_true rfl⟩ ?_
  refine WP_iload_n dL_law_1131 rfl rfl ?_
  refine WP_iconst dL_law_1132 (by decide) ?_
  refine WP_iadd dL_law_1133 ⟨by omega, by omega⟩ ?_
  refine WP_sld dL_law_1134 ⟨by omega, by show _ < (sc.1 : Int); omega⟩ ?_
  refine WP_aload_n dL_law_1135 rfl rfl ⟨Nat.le_of_ble_eq_true rfl, Nat.le_of_ble_eq_true rfl⟩ ?_
  refine WP_iload_n dL_law_1136 rfl rfl ?_
  refine WP_iconst dL_law_1137 (by decide) ?_
  refine WP_iadd dL_law_1138 ⟨by omega, by omega⟩ ?_
  refine WP_sld dL_law_1139 ⟨by omega, by show _ < (sc.1 : Int); omega⟩ ?_
  refine WL_invVi (v := (2, 183)) (as := [(0, sc.2 (i + 1)), (0, sc.2 (i + 2))]) dL_law_1140 l_L_137 mw_X10_attempt mi_X10_attempt ms_X10_attempt mo_X10_attempt (rcv (ci := 10) (n := 49) (r := (RX10, TX10, 49)) k_183 rfl rfl) (Nat.le_of_ble_eq_true rfl) h rfl (fun y μy h => ?_)
  obtain ⟨rfl, A', h⟩ := h
  exact WP_icmp_eq (tgt := 1480) dL_law_1143 (by decide) (fun _ => k A' _ h) (fun q => absurd rfl q)
theorem lc_30 {sc : SC} {Z : ZT} {μ : Mem} {A : StT} {i : Int} (hi : 0 ≤ i ∧ i + 6 ≤ (sc.1 : Int) ∧ (sc.1 : Int) ≤ 3072) (hsc : ∀ j, i32 (sc.2 j)) (h : RB μ A) (k : ∀ A' μ', RB μ' A' → WL sc Z 1480 [(4, 0), (2, 0), (2, 183), (0, i)] [] μ') : WL sc Z 1148 [(4, 0), (2, 0), (2, 183), (0, i)] [] μ := by
  refine WP_aload_n dL_law_1148 rfl rfl ⟨Nat.le_of_ble_eq_true rfl, Nat.le_of_ble_eq_true rfl⟩ ?_
  refine WP_aload_n dL_law_1149 rfl rfl ⟨Nat.le_of_ble_eq_true rfl, Nat.le_of_ble_eq_true rfl⟩ ?_
  refine WP_iload_n dL_law_1150 rfl rfl ?_
  refine WP_iconst dL_law_1151 (by decide) ?_
  refine WP_iadd dL_law_1152 ⟨by omega, by omega⟩ ?_
  refine WP_sld dL_law_1153 ⟨by omega, by show _ < (sc.1 : Int); omega⟩ ?_
  refine WP_aload_n dL_law_1154 rfl rfl ⟨Nat.le_of_ble_eq_true rfl, Nat.le_of_ble_eq_true rfl⟩ ?_
  refine WP_iload_n dL_law_1155 rfl rfl ?_
  refine WP_iconst dL_law_1156 (by decide) ?_
  refine WP_iadd dL_law_1157 ⟨by omega, by omega⟩ ?_
  refine WP_sld dL_law_1158 ⟨by omega, by show _ < (sc.1 : Int); omega⟩ ?_
  refine WL_invVi (v := (2, 0)) (as := [(0, sc.2 (i + 1)), (0, sc.2 (i + 2))]) dL_law_1159 l_L_138 mw_X9_winds mi_X9_winds ms_X9_winds mo_X9_winds (rcv (ci := 9) (n := 20) (r := (RX9, TX9, 20)) k_0 rfl rfl) (Nat.le_of_ble_eq_true rfl) (lk_winds (sc := sc) (a := sc.2 (i + 1)) (b := sc.2 (i + 2)) h) rfl (fun x μx h => ?_)
  refine WP_aload_n dL_law_1162 rfl rfl ⟨Nat.le_of_ble_eq_true rfl, Nat.le_of_ble_eq_true rfl⟩ ?_
  refine WP_aload_n dL_law_1163 rfl rfl ⟨Nat.le_of_ble_eq_true rfl, Nat.le_of_ble_eq_true rfl⟩ ?_
  refine WP_iload_n dL_law_1164 rfl rfl ?_
  refine WP_iconst dL_law_1165 (by decide) ?_
  refine WP_iadd dL_law_1166 ⟨by omega, by omega⟩ ?_
  refine WP_sld dL_law_1167 ⟨by omega, by show _ < (sc.1 : Int); omega⟩ ?_
  refine WP_aload_n dL_law_1168 rfl rfl ⟨Nat.le_of_ble_eq_true rfl, Nat.le_of_ble_eq_true rfl⟩ ?_
  refine WP_iload_n dL_law_1169 rfl rfl ?_
  refine WP_iconst dL_law_1170 (by decide) ?_
  refine WP_iadd dL_law_1171 ⟨by omega, by omega⟩ ?_
  refine WP_sld dL_law_1172 ⟨by omega, by show _ < (sc.1 : Int); omega⟩ ?_
  refine WL_invVi (v := (2, 183)) (as := [(0, sc.2 (i + 1)), (0, sc.2 (i + 2))]) dL_law_1173 l_L_141 mw_X10_winds mi_X10_winds ms_X10_winds mo_X10_winds (rcv (ci := 10) (n := 49) (r := (RX10, TX10, 49)) k_183 rfl rfl) (Nat.le_of_ble_eq_true rfl) h rfl (fun y μy h => ?_)
  obtain ⟨rfl, A', h⟩ := h
  exact WP_icmp_eq (tgt := 1480) dL_law_1176 (by decide) (fun _ => k A' _ h) (fun q => absurd rfl q)
theorem lc_31 {sc : SC} {Z : ZT} {μ : Mem} {A : StT} {i : Int} (hi : 0 ≤ i ∧ i + 6 ≤ (sc.1 : Int) ∧ (sc.1 : Int) ≤ 3072) (hsc : ∀ j, i32 (sc.2 j)) (h : RB μ A) (k : ∀ A' μ', RB μ' A' → WL sc Z 1480 [(4, 0), (2, 0), (2, 183), (0, i)] [] μ') : WL sc Z 1181 [(4, 0), (2, 0), (2, 183), (0, i)] [] μ := by
  refine WP_aload_n dL_law_1181 rfl rfl ⟨Nat.le_of_ble_eq_true rfl, Nat.le_of_ble_eq_true rfl⟩ ?_
  refine WP_aload_n dL_law_1182 rfl rfl ⟨Nat.le_of_ble_eq_true rfl, Nat.le_of_ble_eq_true rfl⟩ ?_
  refine WP_iload_n dL_law_1183 rfl rfl ?_
  refine WP_iconst dL_law_1184 (by decide) ?_
  refine WP_iadd dL_law_1185 ⟨by omega, by omega⟩ ?_
  refine WP_sld dL_law_1186 ⟨by omega, by show _ < (sc.1 : Int); omega⟩ ?_
  refine WP_aload_n dL_law_1187 rfl rfl ⟨Nat.le_of_ble_eq_true rfl, Nat.le_of_ble_eq_true rfl⟩ ?_
  refine WP_iload_n dL_law_1188 rfl rfl ?_
  refine WP_iconst dL_law_1189 (by decide) ?_
  refine WP_iadd dL_law_1190 ⟨by omega, by omega⟩ ?_
  refine WP_sld dL_law_1191 ⟨by omega, by show _ < (sc.1 : Int); omega⟩ ?_
  refine WL_invVi (v := (2, 0)) (as := [(0, sc.2 (i + 1)), (0, sc.2 (i + 2))]) dL_law_1192 l_L_142 mw_X9_chance mi_X9_chance ms_X9_chance mo_X9_chance (rcv (ci := 9) (n := 20) (r := (RX9, TX9, 20)) k_0 rfl rfl) (Nat.le_of_ble_eq_true rfl) (lk_chance (sc := sc) (a := sc.2 (i + 1)) (b := sc.2 (i + 2)) h) rfl (fun x μx h => ?_)
  refine WP_aload_n dL_law_1195 rfl rfl ⟨Nat.le_of_ble_eq_true rfl, Nat.le_of_ble_eq_true rfl⟩ ?_
  refine WP_aload_n dL_law_1196 rfl rfl ⟨Nat.le_of_ble_eq_true rfl, Nat.le_of_ble_eq_true rfl⟩ ?_
  refine WP_iload_n dL_law_1197 rfl rfl ?_
  refine WP_iconst dL_law_1198 (by decide) ?_
  refine WP_iadd dL_law_1199 ⟨by omega, by omega⟩ ?_
  refine WP_sld dL_law_1200 ⟨by omega, by show _ < (sc.1 : Int); omega⟩ ?_
  refine WP_aload_n dL_law_1201 rfl rfl ⟨Nat.le_of_ble_eq_true rfl, Nat.le_of_ble_eq_true rfl⟩ ?_
  refine WP_iload_n dL_law_1202 rfl rfl ?_
  refine WP_iconst dL_law_1203 (by decide) ?_
  refine WP_iadd dL_law_1204 ⟨by omega, by omega⟩ ?_
  refine WP_sld dL_law_1205 ⟨by omega, by show _ < (sc.1 : Int); omega⟩ ?_
  refine WL_invVi (v := (2, 183)) (as := [(0, sc.2 (i + 1)), (0, sc.2 (i + 2))]) dL_law_1206 l_L_145 mw_X10_chance mi_X10_chance ms_X10_chance mo_X10_chance (rcv (ci := 10) (n := 49) (r := (RX10, TX10, 49)) k_183 rfl rfl) (Nat.le_of_ble_eq_true rfl) h rfl (fun y μy h => ?_)
  obtain ⟨rfl, A', h⟩ := h
  exact WP_icmp_eq (tgt := 1480) dL_law_1209 (by decide) (fun _ => k A' _ h) (fun q => absurd rfl q)
theorem lc_32 {sc : SC} {Z : ZT} {μ : Mem} {A : StT} {i : Int} (hi : 0 ≤ i ∧ i + 6 ≤ (sc.1 : Int) ∧ (sc.1 : Int) ≤ 3072) (hsc : ∀ j, i32 (sc.2 j)) (h : RB μ A) (k : ∀ A' μ', RB μ' A' → WL sc Z 1480 [(4, 0), (2, 0), (2, 183), (0, i)] [] μ') : WL sc Z 1214 [(4, 0), (2, 0), (2, 183), (0, i)] [] μ := by
  refine WP_aload_n dL_law_1214 rfl rfl ⟨Nat.le_of_ble_eq_true rfl, Nat.le_of_ble_eq_true rfl⟩ ?_
  refine WP_aload_n dL_law_1215 rfl rfl ⟨Nat.le_of_ble_eq_true rfl, Nat.le_of_ble_eq_true rfl⟩ ?_
  refine WP_iload_n dL_law_1216 rfl rfl ?_
  refine WP_iconst dL_law_1217 (by decide) ?_
  refine WP_iadd dL_law_1218 ⟨by omega, by omega⟩ ?_
  refine WP_sld dL_law_1219 ⟨by omega, by show _ < (sc.1 : Int); omega⟩ ?_
  refine WP_aload_n dL_law_1220 rfl rfl ⟨Nat.le_of_ble_eq_true rfl, Nat.le_of_ble_eq_true rfl⟩ ?_
  refine WP_iload_n dL_law_1221 rfl rfl ?_
  refine WP_iconst dL_law_1222 (by decide) ?_
  refine WP_iadd dL_law_1223 ⟨by omega, by omega⟩ ?_
  refine WP_sld dL_law_1224 ⟨by omega, by show _ < (sc.1 : Int); omega⟩ ?_
  refine WL_invVl (v := (2, 0)) (as := [(0, sc.2 (i + 1)), (0, sc.2 (i + 2))]) dL_law_1225 l_L_146 mw_X9_mean mi_X9_mean ms_X9_mean mo_X9_mean (rcv (ci := 9) (n := 20) (r := (RX9, TX9, 20)) k_0 rfl rfl) (Nat.le_of_ble_eq_true rfl) (lk_mean (sc := sc) (a := sc.2 (i + 1)) (b := sc.2 (i + 2)) h) rfl (fun x μx h => ?_)
  refine WP_aload_n dL_law_1228 rfl rfl ⟨Nat.le_of_ble_eq_true rfl, Nat.le_of_ble_eq_true rfl⟩ ?_
  refine WP_aload_n dL_law_1229 rfl rfl ⟨Nat.le_of_ble_eq_true rfl, Nat.le_of_ble_eq_true rfl⟩ ?_
  refine WP_iload_n dL_law_1230 rfl rfl ?_
  refine WP_iconst dL_law_1231 (by decide) ?_
  refine WP_iadd dL_law_1232 ⟨by omega, by omega⟩ ?_
  refine WP_sld dL_law_1233 ⟨by omega, by show _ < (sc.1 : Int); omega⟩ ?_
  refine WP_aload_n dL_law_1234 rfl rfl ⟨Nat.le_of_ble_eq_true rfl, Nat.le_of_ble_eq_true rfl⟩ ?_
  refine WP_iload_n dL_law_1235 rfl rfl ?_
  refine WP_iconst dL_law_1236 (by decide) ?_
  refine WP_iadd dL_law_1237 ⟨by omega, by omega⟩ ?_
  refine WP_sld dL_law_1238 ⟨by omega, by show _ < (sc.1 : Int); omega⟩ ?_
  refine WL_invVl (v := (2, 183)) (as := [(0, sc.2 (i + 1)), (0, sc.2 (i + 2))]) dL_law_1239 l_L_150 mw_X10_mean mi_X10_mean ms_X10_mean mo_X10_mean (rcv (ci := 10) (n := 49) (r := (RX10, TX10, 49)) k_183 rfl rfl) (Nat.le_of_ble_eq_true rfl) h rfl (fun y μy h => ?_)
  obtain ⟨rfl, A', h⟩ := h
  refine WP_lcmp dL_law_1242 ?_
  rw [lCmp_same]
  exact WP_ifeq (tgt := 1480) dL_law_1243 (by decide) (fun _ => k A' _ h) (fun q => absurd rfl q)
theorem lc_33 {sc : SC} {Z : ZT} {μ : Mem} {A : StT} {i : Int} (hi : 0 ≤ i ∧ i + 6 ≤ (sc.1 : Int) ∧ (sc.1 : Int) ≤ 3072) (hsc : ∀ j, i32 (sc.2 j)) (h : RB μ A) (k : ∀ A' μ', RB μ' A' → WL sc Z 1480 [(4, 0), (2, 0), (2, 183), (0, i)] [] μ') : WL sc Z 1248 [(4, 0), (2, 0), (2, 183), (0, i)] [] μ := by
  refine WP_aload_n dL_law_1248 rfl rfl ⟨Nat.le_of_ble_eq_true rfl, Nat.le_of_ble_eq_true rfl⟩ ?_
  refine WL_invVi (v := (2, 0)) (as := []) dL_law_1249 l_L_151 mw_X9_famous mi_X9_famous ms_X9_famous mo_X9_famous (rcv (ci := 9) (n := 20) (r := (RX9, TX9, 20)) k_0 rfl rfl) (Nat.le_of_ble_eq_true rfl) (lk_famous (sc := sc) h) rfl (fun x μx h => ?_)
  refine WP_aload_n dL_law_1252 rfl rfl ⟨Nat.le_of_ble_eq_true rfl, Nat.le_of_ble_eq_true rfl⟩ ?_
  refine WL_invVi (v := (2, 183)) (as := []) dL_law_1253 l_L_154 mw_X10_famous mi_X10_famous ms_X10_famous mo_X10_famous (rcv (ci := 10) (n := 49) (r := (RX10, TX10, 49)) k_183 rfl rfl) (Nat.le_of_ble_eq_true rfl) h rfl (fun y μy h => ?_)
  obtain ⟨rfl, A', h⟩ := h
  exact WP_icmp_eq (tgt := 1480) dL_law_1256 (by decide) (fun _ => k A' _ h) (fun q => absurd rfl q)
theorem lc_34 {sc : SC} {Z : ZT} {μ : Mem} {A : StT} {i : Int} (hi : 0 ≤ i ∧ i + 6 ≤ (sc.1 : Int) ∧ (sc.1 : Int) ≤ 3072) (hsc : ∀ j, i32 (sc.2 j)) (h : RB μ A) (k : ∀ A' μ', RB μ' A' → WL sc Z 1480 [(4, 0), (2, 0), (2, 183), (0, i)] [] μ') : WL sc Z 1261 [(4, 0), (2, 0), (2, 183), (0, i)] [] μ := by
  refine WP_aload_n dL_law_1261 rfl rfl ⟨Nat.le_of_ble_eq_true rfl, Nat.le_of_ble_eq_true rfl⟩ ?_
  refine WP_aload_n dL_law_1262 rfl rfl ⟨Nat.le_of_ble_eq_true rfl, Nat.le_of_ble_eq_true rfl⟩ ?_
  refine WP_iload_n dL_law_1263 rfl rfl ?_
  refine WP_iconst dL_law_1264 (by decide) ?_
  refine WP_iadd dL_law_1265 ⟨by omega, by omega⟩ ?_
  refine WP_sld dL_law_1266 ⟨by omega, by show _ < (sc.1 : Int); omega⟩ ?_
  refine WP_aload_n dL_law_1267 rfl rfl ⟨Nat.le_of_ble_eq_true rfl, Nat.le_of_ble_eq_true rfl⟩ ?_
  refine WP_iload_n dL_law_1268 rfl rfl ?_
  refine WP_iconst dL_law_1269 (by decide) ?_
  refine WP_iadd dL_law_1270 ⟨by omega, by omega⟩ ?_
  refine WP_sld dL_law_1271 ⟨by omega, by show _ < (sc.1 : Int); omega⟩ ?_
  refine WP_aload_n dL_law_1272 rfl rfl ⟨Nat.le_of_ble_eq_true rfl, Nat.le_of_ble_eq_true rfl⟩ ?_
  refine WP_iload_n dL_law_1273 rfl rfl ?_
  refine WP_iconst dL_law_1274 (by decide) ?_
  refine WP_iadd dL_law_1275 ⟨by omega, by omega⟩ ?_
  refine WP_sld dL_law_1276 ⟨by omega, by show _ < (sc.1 : Int); omega⟩ ?_
  refine WL_invVi (v := (2, 0)) (as := [(0, sc.2 (i + 1)), (0, sc.2 (i + 2)), (0, sc.2 (i + 3))]) dL_law_1277 l_L_155 mw_X9_numbers mi_X9_numbers ms_X9_numbers mo_X9_numbers (rcv (ci := 9) (n := 20) (r := (RX9, TX9, 20)) k_0 rfl rfl) (Nat.le_of_ble_eq_true rfl) (lk_numbers (sc := sc) (a := sc.2 (i + 1)) (b := sc.2 (i + 2)) (c := sc.2 (i + 3)) h) rfl (fun x μx h => ?_)
  refine WP_aload_n dL_law_1280 rfl rfl ⟨Nat.le_of_ble_eq_true rfl, Nat.le_of_ble_eq_true rfl⟩ ?_
  refine WP_aload_n dL_law_1281 rfl rfl ⟨Nat.le_of_ble_eq_true rfl, Nat.le_of_ble_eq_true rfl⟩ ?_
  refine WP_iload_n dL_law_1282 rfl rfl ?_
  refine WP_iconst dL_law_1283 (by decide) ?_
  refine WP_iadd dL_law_1284 ⟨by omega, by omega⟩ ?_
  refine WP_sld dL_law_1285 ⟨by omega, by show _ < (sc.1 : Int); omega⟩ ?_
  refine WP_aload_n dL_law_1286 rfl rfl ⟨Nat.le_of_ble_eq_true rfl, Nat.le_of_ble_eq_true rfl⟩ ?_
  refine WP_iload_n dL_law_1287 rfl rfl ?_
  refine WP_iconst dL_law_1288 (by decide) ?_
  refine WP_iadd dL_law_1289 ⟨by omega, by omega⟩ ?_
  refine WP_sld dL_law_1290 ⟨by omega, by show _ < (sc.1 : Int); omega⟩ ?_
  refine WP_aload_n dL_law_1291 rfl rfl ⟨Nat.le_of_ble_eq_true rfl, Nat.le_of_ble_eq_true rfl⟩ ?_
  refine WP_iload_n dL_law_1292 rfl rfl ?_
  refine WP_iconst dL_law_1293 (by decide) ?_
  refine WP_iadd dL_law_1294 ⟨by omega, by omega⟩ ?_
  refine WP_sld dL_law_1295 ⟨by omega, by show _ < (sc.1 : Int); omega⟩ ?_
  refine WL_invVi (v := (2, 183)) (as := [(0, sc.2 (i + 1)), (0, sc.2 (i + 2)), (0, sc.2 (i + 3))]) dL_law_1296 l_L_158 mw_X10_numbers mi_X10_numbers ms_X10_numbers mo_X10_numbers (rcv (ci := 10) (n := 49) (r := (RX10, TX10, 49)) k_183 rfl rfl) (Nat.le_of_ble_eq_true rfl) h rfl (fun y μy h => ?_)
  obtain ⟨rfl, A', h⟩ := h
  exact WP_icmp_eq (tgt := 1480) dL_law_1299 (by decide) (fun _ => k A' _ h) (fun q => absurd rfl q)
theorem lc_35 {sc : SC} {Z : ZT} {μ : Mem} {A : StT} {i : Int} (hi : 0 ≤ i ∧ i + 6 ≤ (sc.1 : Int) ∧ (sc.1 : Int) ≤ 3072) (hsc : ∀ j, i32 (sc.2 j)) (h : RB μ A) (k : ∀ A' μ', RB μ' A' → WL sc Z 1480 [(4, 0), (2, 0), (2, 183), (0, i)] [] μ') : WL sc Z 1304 [(4, 0), (2, 0), (2, 183), (0, i)] [] μ := by
  refine WP_aload_n dL_law_1304 rfl rfl ⟨Nat.le_of_ble_eq_true rfl, Nat.le_of_ble_eq_true rfl⟩ ?_
  refine WP_aload_n dL_law_1305 rfl rfl ⟨Nat.le_of_ble_eq_true rfl, Nat.le_of_ble_eq_true rfl⟩ ?_
  refine WP_iload_n dL_law_1306 rfl rfl ?_
  refine WP_iconst dL_law_1307 (by decide) ?_
  refine WP_iadd dL_law_1308 ⟨by omega, by omega⟩ ?_
  refine WP_sld dL_law_1309 ⟨by omega, by show _ < (sc.1 : Int); omega⟩ ?_
  refine WP_aload_n dL_law_1310 rfl rfl ⟨Nat.le_of_ble_eq_true rfl, Nat.le_of_ble_eq_true rfl⟩ ?_
  refine WP_iload_n dL_law_1311 rfl rfl ?_
  refine WP_iconst dL_law_1312 (by decide) ?_
  refine WP_iadd dL_law_1313 ⟨by omega, by omega⟩ ?_
  refine WP_sld dL_law_1314 ⟨by omega, by show _ < (sc.1 : Int); omega⟩ ?_
  refine WP_aload_n dL_law_1315 rfl rfl ⟨Nat.le_of_ble_eq_true rfl, Nat.le_of_ble_eq_true rfl⟩ ?_
  refine WP_iload_n dL_law_1316 rfl rfl ?_
  refine WP_iconst dL_law_1317 (by decide) ?_
  refine WP_iadd dL_law_1318 ⟨by omega, by omega⟩ ?_
  refine WP_sld dL_law_1319 ⟨by omega, by show _ < (sc.1 : Int); omega⟩ ?_
  refine WP_i2l dL_law_1320 ?_
  refine WP_bipush dL_law_1321 (by decide +kernel) (by decide) ?_
  refine WP_lshl dL_law_1323 ?_
  refine WP_aload_n dL_law_1324 rfl rfl ⟨Nat.le_of_ble_eq_true rfl, Nat.le_of_ble_eq_true rfl⟩ ?_
  refine WP_iload_n dL_law_1325 rfl rfl ?_
  refine WP_iconst dL_law_1326 (by decide) ?_
  refine WP_iadd dL_law_1327 ⟨by omega, by omega⟩ ?_
  refine WP_sld dL_law_1328 ⟨by omega, by show _ < (sc.1 : Int); omega⟩ ?_
  refine WP_i2l dL_law_1329 ?_
  refine WP_ldc2 dL_law_1330 c_L_159 (by decide) ?_
  refine WP_land dL_law_1333 ?_
  refine WP_lor dL_law_1334 ?_
  refine WL_invVl (v := (2, 0)) (as := [(0, sc.2 (i + 1)), (0, sc.2 (i + 2)), (1, lOr (lShl (sc.2 (i + 3)) 32) (lAnd (sc.2 (i + 4)) (4294967295)))]) dL_law_1335 l_L_161 mw_X9_write mi_X9_write ms_X9_write mo_X9_write (rcv (ci := 9) (n := 20) (r := (RX9, TX9, 20)) k_0 rfl rfl) (Nat.le_of_ble_eq_true rfl) (lk_write (sc := sc) (a := sc.2 (i + 1)) (b := sc.2 (i + 2)) (c := lOr (lShl (sc.2 (i + 3)) 32) (lAnd (sc.2 (i + 4)) (4294967295))) h) rfl (fun x μx h => ?_)
  refine WP_aload_n dL_law_1338 rfl rfl ⟨Nat.le_of_ble_eq_true rfl, Nat.le_of_ble_eq_true rfl⟩ ?_
  refine WP_aload_n dL_law_1339 rfl rfl ⟨Nat.le_of_ble_eq_true rfl, Nat.le_of_ble_eq_true rfl⟩ ?_
  refine WP_iload_n dL_law_1340 rfl rfl ?_
  refine WP_iconst dL_law_1341 (by decide) ?_
  refine WP_iadd dL_law_1342 ⟨by omega, by omega⟩ ?_
  refine WP_sld dL_law_1343 ⟨by omega, by show _ < (sc.1 : Int); omega⟩ ?_
  refine WP_aload_n dL_law_1344 rfl rfl ⟨Nat.le_of_ble_eq_true rfl, Nat.le_of_ble_eq_true rfl⟩ ?_
  refine WP_iload_n dL_law_1345 rfl rfl ?_
  refine WP_iconst dL_law_1346 (by decide) ?_
  refine WP_iadd dL_law_1347 ⟨by omega, by omega⟩ ?_
  refine WP_sld dL_law_1348 ⟨by omega, by show _ < (sc.1 : Int); omega⟩ ?_
  refine WP_aload_n dL_law_1349 rfl rfl ⟨Nat.le_of_ble_eq_true rfl, Nat.le_of_ble_eq_true rfl⟩ ?_
  refine WP_iload_n dL_law_1350 rfl rfl ?_
  refine WP_iconst dL_law_1351 (by decide) ?_
  refine WP_iadd dL_law_1352 ⟨by omega, by omega⟩ ?_
  refine WP_sld dL_law_1353 ⟨by omega, by show _ < (sc.1 : Int); omega⟩ ?_
  refine WP_i2l dL_law_1354 ?_
  refine WP_bipush dL_law_1355 (by decide +kernel) (by decide) ?_
  refine WP_lshl dL_law_1357 ?_
  refine WP_aload_n dL_law_1358 rfl rfl ⟨Nat.le_of_ble_eq_true rfl, Nat.le_of_ble_eq_true rfl⟩ ?_
  refine WP_iload_n dL_law_1359 rfl rfl ?_
  refine WP_iconst dL_law_1360 (by decide) ?_
  refine WP_iadd dL_law_1361 ⟨by omega, by omega⟩ ?_
  refine WP_sld dL_law_1362 ⟨by omega, by show _ < (sc.1 : Int); omega⟩ ?_
  refine WP_i2l dL_law_1363 ?_
  refine WP_ldc2 dL_law_1364 c_L_159 (by decide) ?_
  refine WP_land dL_law_1367 ?_
  refine WP_lor dL_law_1368 ?_
  refine WL_invVl (v := (2, 183)) (as := [(0, sc.2 (i + 1)), (0, sc.2 (i + 2)), (1, lOr (lShl (sc.2 (i + 3)) 32) (lAnd (sc.2 (i + 4)) (4294967295)))]) dL_law_1369 l_L_165 mw_X10_write mi_X10_write ms_X10_write mo_X10_write (rcv (ci := 10) (n := 49) (r := (RX10, TX10, 49)) k_183 rfl rfl) (Nat.le_of_ble_eq_true rfl) h rfl (fun y μy h => ?_)
  obtain ⟨rfl, A', h⟩ := h
  refine WP_lcmp dL_law_1372 ?_
  rw [lCmp_same]
  exact WP_ifeq (tgt := 1480) dL_law_1373 (by decide) (fun _ => k A' _ h) (fun q => absurd rfl q)
theorem lc_36 {sc : SC} {Z : ZT} {μ : Mem} {A : StT} {i : Int} (hi : 0 ≤ i ∧ i + 6 ≤ (sc.1 : Int) ∧ (sc.1 : Int) ≤ 3072) (hsc : ∀ j, i32 (sc.2 j)) (h : RB μ A) (k : ∀ A' μ', RB μ' A' → WL sc Z 1480 [(4, 0), (2, 0), (2, 183), (0, i)] [] μ') : WL sc Z 1378 [(4, 0), (2, 0), (2, 183), (0, i)] [] μ := by
  refine WP_aload_n dL_law_1378 rfl rfl ⟨Nat.le_of_ble_eq_true rfl, Nat.le_of_ble_eq_true rfl⟩ ?_
  refine WP_aload_n dL_law_1379 rfl rfl ⟨Nat.le_of_ble_eq_true rfl, Nat.le_of_ble_eq_true rfl⟩ ?_
  refine WP_iload_n dL_law_1380 rfl rfl ?_
  refine WP_iconst dL_law_1381 (by decide) ?_
  refine WP_iadd dL_law_1382 ⟨by omega, by omega⟩ ?_
  refine WP_sld dL_law_1383 ⟨by omega, by show _ < (sc.1 : Int); omega⟩ ?_
  refine WP_aload_n dL_law_1384 rfl rfl ⟨Nat.le_of_ble_eq_true rfl, Nat.le_of_ble_eq_true rfl⟩ ?_
  refine WP_iload_n dL_law_1385 rfl rfl ?_
  refine WP_iconst dL_law_1386 (by decide) ?_
  refine WP_iadd dL_law_1387 ⟨by omega, by omega⟩ ?_
  refine WP_sld dL_law_1388 ⟨by omega, by show _ < (sc.1 : Int); omega⟩ ?_
  refine WL_invVi (v := (2, 0)) (as := [(0, sc.2 (i + 1)), (0, sc.2 (i + 2))]) dL_law_1389 l_L_166 mw_X9_lists mi_X9_lists ms_X9_lists mo_X9_lists (rcv (ci := 9) (n := 20) (r := (RX9, TX9, 20)) k_0 rfl rfl) (Nat.le_of_ble_eq_true rfl) (lk_lists (sc := sc) (a := sc.2 (i + 1)) (b := sc.2 (i + 2)) h) rfl (fun x μx h => ?_)
  refine WP_aload_n dL_law_1392 rfl rfl ⟨Nat.le_of_ble_eq_true rfl, Nat.le_of_ble_eq_true rfl⟩ ?_
  refine WP_aload_n dL_law_1393 rfl rfl ⟨Nat.le_of_ble_eq_true rfl, Nat.le_of_ble_eq_true rfl⟩ ?_
  refine WP_iload_n dL_law_1394 rfl rfl ?_
  refine WP_iconst dL_law_1395 (by decide) ?_
  refine WP_iadd dL_law_1396 ⟨by omega, by omega⟩ ?_
  refine WP_sld dL_law_1397 ⟨by omega, by show _ < (sc.1 : Int); omega⟩ ?_
  refine WP_aload_n dL_law_1398 rfl rfl ⟨Nat.le_of_ble_eq_true rfl, Nat.le_of_ble_eq_true rfl⟩ ?_
  refine WP_iload_n dL_law_1399 rfl rfl ?_
  refine WP_iconst dL_law_1400 (by decide) ?_
  refine WP_iadd dL_law_1401 ⟨by omega, by omega⟩ ?_
  refine WP_sld dL_law_1402 ⟨by omega, by show _ < (sc.1 : Int); omega⟩ ?_
  refine WL_invVi (v := (2, 183)) (as := [(0, sc.2 (i + 1)), (0, sc.2 (i + 2))]) dL_law_1403 l_L_169 mw_X10_lists mi_X10_lists ms_X10_lists mo_X10_lists (rcv (ci := 10) (n := 49) (r := (RX10, TX10, 49)) k_183 rfl rfl) (Nat.le_of_ble_eq_true rfl) h rfl (fun y μy h => ?_)
  obtain ⟨rfl, A', h⟩ := h
  exact WP_icmp_eq (tgt := 1480) dL_law_1406 (by decide) (fun _ => k A' _ h) (fun q => absurd rfl q)
theorem lc_37 {sc : SC} {Z : ZT} {μ : Mem} {A : StT} {i : Int} (hi : 0 ≤ i ∧ i + 6 ≤ (sc.1 : Int) ∧ (sc.1 : Int) ≤ 3072) (hsc : ∀ j, i32 (sc.2 j)) (h : RB μ A) (k : ∀ A' μ', RB μ' A' → WL sc Z 1480 [(4, 0), (2, 0), (2, 183), (0, i)] [] μ') : WL sc Z 1411 [(4, 0), (2, 0), (2, 183), (0, i)] [] μ := by
  refine WP_aload_n dL_law_1411 rfl rfl ⟨Nat.le_of_ble_eq_true rfl, Nat.le_of_ble_eq_true rfl⟩ ?_
  refine WP_aload_n dL_law_1412 rfl rfl ⟨Nat.le_of_ble_eq_true rfl, Nat.le_of_ble_eq_true rfl⟩ ?_
  refine WP_iload_n dL_law_1413 rfl rfl ?_
  refine WP_iconst dL_law_1414 (by decide) ?_
  refine WP_iadd dL_law_1415 ⟨by omega, by omega⟩ ?_
  refine WP_sld dL_law_1416 ⟨by omega, by show _ < (sc.1 : Int); omega⟩ ?_
  refine WL_invVi (v := (2, 0)) (as := [(0, sc.2 (i + 1))]) dL_law_1417 l_L_170 mw_X9_image mi_X9_image ms_X9_image mo_X9_image (rcv (ci := 9) (n := 20) (r := (RX9, TX9, 20)) k_0 rfl rfl) (Nat.le_of_ble_eq_true rfl) (lk_image (sc := sc) (a := sc.2 (i + 1)) h) rfl (fun x μx h => ?_)
  refine WP_aload_n dL_law_1420 rfl rfl ⟨Nat.le_of_ble_eq_true rfl, Nat.le_of_ble_eq_true rfl⟩ ?_
  refine WP_aload_n dL_law_1421 rfl rfl ⟨Nat.le_of_ble_eq_true rfl, Nat.le_of_ble_eq_true rfl⟩ ?_
  refine WP_iload_n dL_law_1422 rfl rfl ?_
  refine WP_iconst dL_law_1423 (by decide) ?_
  refine WP_iadd dL_law_1424 ⟨by omega, by omega⟩ ?_
  refine WP_sld dL_law_1425 ⟨by omega, by show _ < (sc.1 : Int); omega⟩ ?_
  refine WL_invVi (v := (2, 183)) (as := [(0, sc.2 (i + 1))]) dL_law_1426 l_L_173 mw_X10_image mi_X10_image ms_X10_image mo_X10_image (rcv (ci := 10) (n := 49) (r := (RX10, TX10, 49)) k_183 rfl rfl) (Nat.le_of_ble_eq_true rfl) h rfl (fun y μy h => ?_)
  obtain ⟨rfl, A', h⟩ := h
  exact WP_icmp_eq (tgt := 1480) dL_law_1429 (by decide) (fun _ => k A' _ h) (fun q => absurd rfl q)
theorem lc_38 {sc : SC} {Z : ZT} {μ : Mem} {A : StT} {i : Int} (hi : 0 ≤ i ∧ i + 6 ≤ (sc.1 : Int) ∧ (sc.1 : Int) ≤ 3072) (hsc : ∀ j, i32 (sc.2 j)) (h : RB μ A) (k : ∀ A' μ', RB μ' A' → WL sc Z 1480 [(4, 0), (2, 0), (2, 183), (0, i)] [] μ') : WL sc Z 1434 [(4, 0), (2, 0), (2, 183), (0, i)] [] μ := by
  refine WP_aload_n dL_law_1434 rfl rfl ⟨Nat.le_of_ble_eq_true rfl, Nat.le_of_ble_eq_true rfl⟩ ?_
  refine WP_aload_n dL_law_1435 rfl rfl ⟨Nat.le_of_ble_eq_true rfl, Nat.le_of_ble_eq_true rfl⟩ ?_
  refine WP_iload_n dL_law_1436 rfl rfl ?_
  refine WP_iconst dL_law_1437 (by decide) ?_
  refine WP_iadd dL_law_1438 ⟨by omega, by omega⟩ ?_
  refine WP_sld dL_law_1439 ⟨by omega, by show _ < (sc.1 : Int); omega⟩ ?_
  refine WL_invVi (v := (2, 0)) (as := [(0, sc.2 (i + 1))]) dL_law_1440 l_L_174 mw_X9_restore mi_X9_restore ms_X9_restore mo_X9_restore (rcv (ci := 9) (n := 20) (r := (RX9, TX9, 20)) k_0 rfl rfl) (Nat.le_of_ble_eq_true rfl) (lk_restore (sc := sc) (a := sc.2 (i + 1)) h) rfl (fun x μx h => ?_)
  refine WP_aload_n dL_law_1443 rfl rfl ⟨Nat.le_of_ble_eq_true rfl, Nat.le_of_ble_eq_true rfl⟩ ?_
  refine WP_aload_n dL_law_1444 rfl rfl ⟨Nat.le_of_ble_eq_true rfl, Nat.le_of_ble_eq_true rfl⟩ ?_
  refine WP_iload_n dL_law_1445 rfl rfl ?_
  refine WP_iconst dL_law_1446 (by decide) ?_
  refine WP_iadd dL_law_1447 ⟨by omega, by omega⟩ ?_
  refine WP_sld dL_law_1448 ⟨by omega, by show _ < (sc.1 : Int); omega⟩ ?_
  refine WL_invVi (v := (2, 183)) (as := [(0, sc.2 (i + 1))]) dL_law_1449 l_L_177 mw_X10_restore mi_X10_restore ms_X10_restore mo_X10_restore (rcv (ci := 10) (n := 49) (r := (RX10, TX10, 49)) k_183 rfl rfl) (Nat.le_of_ble_eq_true rfl) h rfl (fun y μy h => ?_)
  obtain ⟨rfl, A', h⟩ := h
  exact WP_icmp_eq (tgt := 1480) dL_law_1452 (by decide) (fun _ => k A' _ h) (fun q => absurd rfl q)
theorem lc_39 {sc : SC} {Z : ZT} {μ : Mem} {A : StT} {i : Int} (hi : 0 ≤ i ∧ i + 6 ≤ (sc.1 : Int) ∧ (sc.1 : Int) ≤ 3072) (hsc : ∀ j, i32 (sc.2 j)) (h : RB μ A) (k : ∀ A' μ', RB μ' A' → WL sc Z 1480 [(4, 0), (2, 0), (2, 183), (0, i)] [] μ') : WL sc Z 1457 [(4, 0), (2, 0), (2, 183), (0, i)] [] μ := by
  refine WP_aload_n dL_law_1457 rfl rfl ⟨Nat.le_of_ble_eq_true rfl, Nat.le_of_ble_eq_true rfl⟩ ?_
  refine WP_aload_n dL_law_1458 rfl rfl ⟨Nat.le_of_ble_eq_true rfl, Nat.le_of_ble_eq_true rfl⟩ ?_
  refine WP_iload_n dL_law_1459 rfl rfl ?_
  refine WP_iconst dL_law_1460 (by decide) ?_
  refine WP_iadd dL_law_1461 ⟨by omega, by omega⟩ ?_
  refine WP_sld dL_law_1462 ⟨by omega, by show _ < (sc.1 : Int); omega⟩ ?_
  refine WL_invVi (v := (2, 0)) (as := [(0, sc.2 (i + 1))]) dL_law_1463 l_L_178 mw_X9_count mi_X9_count ms_X9_count mo_X9_count (rcv (ci := 9) (n := 20) (r := (RX9, TX9, 20)) k_0 rfl rfl) (Nat.le_of_ble_eq_true rfl) (lk_count (sc := sc) (a := sc.2 (i + 1)) h) rfl (fun x μx h => ?_)
  refine WP_aload_n dL_law_1466 rfl rfl ⟨Nat.le_of_ble_eq_true rfl, Nat.le_of_ble_eq_true rfl⟩ ?_
  refine WP_aload_n dL_law_1467 rfl rfl ⟨Nat.le_of_ble_eq_true rfl, Nat.le_of_ble_eq_true rfl⟩ ?_
  refine WP_iload_n dL_law_1468 rfl rfl ?_
  refine WP_iconst dL_law_1469 (by decide) ?_
  refine WP_iadd dL_law_1470 ⟨by omega, by omega⟩ ?_
  refine WP_sld dL_law_1471 ⟨by omega, by show _ < (sc.1 : Int); omega⟩ ?_
  refine WL_invVi (v := (2, 183)) (as := [(0, sc.2 (i + 1))]) dL_law_1472 l_L_181 mw_X10_count mi_X10_count ms_X10_count mo_X10_count (rcv (ci := 10) (n := 49) (r := (RX10, TX10, 49)) k_183 rfl rfl) (Nat.le_of_ble_eq_true rfl) h rfl (fun y μy h => ?_)
  obtain ⟨rfl, A', h⟩ := h
  exact WP_icmp_eq (tgt := 1480) dL_law_1475 (by decide) (fun _ => k A' _ h) (fun q => absurd rfl q)

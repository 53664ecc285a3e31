theorem tp1 {w : Cond} (h : w ∈ tables_1_1) : w ∈ lw_tbl := List.mem_append_right _ (show w ∈ tables_1 from List.mem_append_left _ h)
theorem tp2 {w : Cond} (h : w ∈ tables_1_2) : w ∈ lw_tbl := List.mem_append_right _ (show w ∈ tables_1 from List.mem_append_right _ (List.mem_append_left _ h))
theorem tp3 {w : Cond} (h : w ∈ tables_1_3) : w ∈ lw_tbl := List.mem_append_right _ (show w ∈ tables_1 from List.mem_append_right _ (List.mem_append_right _ (List.mem_append_left _ h)))
theorem tp4 {w : Cond} (h : w ∈ tables_1_4) : w ∈ lw_tbl := List.mem_append_right _ (show w ∈ tables_1 from List.mem_append_right _ (List.mem_append_right _ (List.mem_append_right _ (List.mem_append_left _ h))))
theorem tp5 {w : Cond} (h : w ∈ tables_1_5) : w ∈ lw_tbl := List.mem_append_right _ (show w ∈ tables_1 from List.mem_append_right _ (List.mem_append_right _ (List.mem_append_right _ (List.mem_append_right _ (List.mem_append_left _ h)))))
theorem tp6 {w : Cond} (h : w ∈ tables_1_6) : w ∈ lw_tbl := List.mem_append_right _ (show w ∈ tables_1 from List.mem_append_right _ (List.mem_append_right _ (List.mem_append_right _ (List.mem_append_right _ (List.mem_append_right _ (List.mem_append_left _ h))))))
theorem tp7 {w : Cond} (h : w ∈ tables_1_7) : w ∈ lw_tbl := List.mem_append_right _ (show w ∈ tables_1 from List.mem_append_right _ (List.mem_append_right _ (List.mem_append_right _ (List.mem_append_right _ (List.mem_append_right _ (List.mem_append_right _ (List.mem_append_left _ h)))))))
theorem tp8 {w : Cond} (h : w ∈ tables_1_8) : w ∈ lw_tbl := List.mem_append_right _ (show w ∈ tables_1 from List.mem_append_right _ (List.mem_append_right _ (List.mem_append_right _ (List.mem_append_right _ (List.mem_append_right _ (List.mem_append_right _ (List.mem_append_right _ (h))))))))
theorem tq1 {w : Cond} (h : w ∈ k2_sels lw_privs_1) : w ∈ lw_tbl := by
  obtain ⟨q, hq, rfl⟩ := List.mem_map.mp h
  exact List.mem_append_left _ (List.mem_map.mpr ⟨q, (show q ∈ lw_privs from (fun h => List.mem_append_left _ h) hq), rfl⟩)
theorem tq2 {w : Cond} (h : w ∈ k2_sels lw_privs_2) : w ∈ lw_tbl := by
  obtain ⟨q, hq, rfl⟩ := List.mem_map.mp h
  exact List.mem_append_left _ (List.mem_map.mpr ⟨q, (show q ∈ lw_privs from (fun h => List.mem_append_right _ (List.mem_append_left _ h)) hq), rfl⟩)
theorem tq3 {w : Cond} (h : w ∈ k2_sels lw_privs_3) : w ∈ lw_tbl := by
  obtain ⟨q, hq, rfl⟩ := List.mem_map.mp h
  exact List.mem_append_left _ (List.mem_map.mpr ⟨q, (show q ∈ lw_privs from (fun h => List.mem_append_right _ (List.mem_append_right _ (List.mem_append_left _ h))) hq), rfl⟩)
theorem tq4 {w : Cond} (h : w ∈ k2_sels lw_privs_4) : w ∈ lw_tbl := by
  obtain ⟨q, hq, rfl⟩ := List.mem_map.mp h
  exact List.mem_append_left _ (List.mem_map.mpr ⟨q, (show q ∈ lw_privs from (fun h => List.mem_append_right _ (List.mem_append_right _ (List.mem_append_right _ (List.mem_append_left _ h)))) hq), rfl⟩)
theorem tq5 {w : Cond} (h : w ∈ k2_sels lw_privs_5) : w ∈ lw_tbl := by
  obtain ⟨q, hq, rfl⟩ := List.mem_map.mp h
  exact List.mem_append_left _ (List.mem_map.mpr ⟨q, (show q ∈ lw_privs from (fun h => List.mem_append_right _ (List.mem_append_right _ (List.mem_append_right _ (List.mem_append_right _ (List.mem_append_left _ h))))) hq), rfl⟩)
theorem tq6 {w : Cond} (h : w ∈ k2_sels lw_privs_6) : w ∈ lw_tbl := by
  obtain ⟨q, hq, rfl⟩ := List.mem_map.mp h
  exact List.mem_append_left _ (List.mem_map.mpr ⟨q, (show q ∈ lw_privs from (fun h => List.mem_append_right _ (List.mem_append_right _ (List.mem_append_right _ (List.mem_append_right _ (List.mem_append_right _ (List.mem_append_left _ h)))))) hq), rfl⟩)
theorem tq7 {w : Cond} (h : w ∈ k2_sels lw_privs_7) : w ∈ lw_tbl := by
  obtain ⟨q, hq, rfl⟩ := List.mem_map.mp h
  exact List.mem_append_left _ (List.mem_map.mpr ⟨q, (show q ∈ lw_privs from (fun h => List.mem_append_right _ (List.mem_append_right _ (List.mem_append_right _ (List.mem_append_right _ (List.mem_append_right _ (List.mem_append_right _ (List.mem_append_left _ h))))))) hq), rfl⟩)
theorem tq8 {w : Cond} (h : w ∈ k2_sels lw_privs_8) : w ∈ lw_tbl := by
  obtain ⟨q, hq, rfl⟩ := List.mem_map.mp h
  exact List.mem_append_left _ (List.mem_map.mpr ⟨q, (show q ∈ lw_privs from (fun h => List.mem_append_right _ (List.mem_append_right _ (List.mem_append_right _ (List.mem_append_right _ (List.mem_append_right _ (List.mem_append_right _ (List.mem_append_right _ (h)))))))) hq), rfl⟩)
/-! the methods -/
abbrev mJ0_charAt_5068e : MD := (yJ0_charAt_5068e, prog_15_method_56_code, 2, (some .char))
theorem mw_J0_charAt_5068e : MW mJ0_charAt_5068e := ⟨mUW (tp3 (List.mem_of_getElem? (i := 24) (by decide +kernel))) rfl, mUW (tp1 (List.mem_of_getElem? (i := 12) (by decide +kernel))) rfl⟩
theorem mi_J0_charAt_5068e : Cond.instanceMethod mJ0_charAt_5068e.1 ∈ UW := mUW (tp3 (List.mem_of_getElem? (i := 22) (by decide +kernel))) rfl
theorem ms_J0_charAt_5068e : Cond.selects mJ0_charAt_5068e.1.cls mJ0_charAt_5068e.1 mJ0_charAt_5068e.1 ∈ UW := mUW (tp3 (List.mem_of_getElem? (i := 23) (by decide +kernel))) rfl
theorem mo_J0_charAt_5068e : MOK mJ0_charAt_5068e 1 := ⟨by decide, by decide, by decide +kernel, by decide⟩
theorem mp_J0_charAt_5068e : plainName mJ0_charAt_5068e.1.cls = true := by decide +kernel
abbrev mJ0_checkIndex_df160 : MD := (yJ0_checkIndex_df160, prog_15_method_155_code, 2, none)
theorem mw_J0_checkIndex_df160 : MW mJ0_checkIndex_df160 := ⟨mUW (tp3 (List.mem_of_getElem? (i := 36) (by decide +kernel))) rfl, mUW (tp1 (List.mem_of_getElem? (i := 12) (by decide +kernel))) rfl⟩
theorem mt_J0_checkIndex_df160 : Cond.static mJ0_checkIndex_df160.1 ∈ UW := mUW (tp3 (List.mem_of_getElem? (i := 35) (by decide +kernel))) rfl
theorem mo_J0_checkIndex_df160 : MOK mJ0_checkIndex_df160 2 := ⟨by decide, by decide, by decide +kernel, by decide⟩
theorem mp_J0_checkIndex_df160 : plainName mJ0_checkIndex_df160.1.cls = true := by decide +kernel
abbrev mJ0_coder_7d493 : MD := (yJ0_coder_7d493, prog_15_method_152_code, 1, (some .byte))
theorem mw_J0_coder_7d493 : MW mJ0_coder_7d493 := ⟨mUW (tp3 (List.mem_of_getElem? (i := 88) (by decide +kernel))) rfl, mUW (tp1 (List.mem_of_getElem? (i := 12) (by decide +kernel))) rfl⟩
theorem mi_J0_coder_7d493 : Cond.instanceMethod mJ0_coder_7d493.1 ∈ UW := mUW (tp3 (List.mem_of_getElem? (i := 86) (by decide +kernel))) rfl
theorem ms_J0_coder_7d493 : Cond.selects mJ0_coder_7d493.1.cls mJ0_coder_7d493.1 mJ0_coder_7d493.1 ∈ UW := mUW (tp3 (List.mem_of_getElem? (i := 87) (by decide +kernel))) rfl
theorem mo_J0_coder_7d493 : MOK mJ0_coder_7d493 0 := ⟨by decide, by decide, by decide +kernel, by decide⟩
theorem mp_J0_coder_7d493 : plainName mJ0_coder_7d493.1.cls = true := by decide +kernel
abbrev mJ0_indexOf_0f7a4 : MD := (yJ0_indexOf_0f7a4, prog_15_method_79_code, 2, (some .int))
theorem mw_J0_indexOf_0f7a4 : MW mJ0_indexOf_0f7a4 := ⟨mUW (tp3 (List.mem_of_getElem? (i := 76) (by decide +kernel))) rfl, mUW (tp1 (List.mem_of_getElem? (i := 12) (by decide +kernel))) rfl⟩
theorem mi_J0_indexOf_0f7a4 : Cond.instanceMethod mJ0_indexOf_0f7a4.1 ∈ UW := mUW (tp3 (List.mem_of_getElem? (i := 74) (by decide +kernel))) rfl
theorem ms_J0_indexOf_0f7a4 : Cond.selects mJ0_indexOf_0f7a4.1.cls mJ0_indexOf_0f7a4.1 mJ0_indexOf_0f7a4.1 ∈ UW := mUW (tp3 (List.mem_of_getElem? (i := 75) (by decide +kernel))) rfl
theorem mo_J0_indexOf_0f7a4 : MOK mJ0_indexOf_0f7a4 1 := ⟨by decide, by decide, by decide +kernel, by decide⟩
theorem mp_J0_indexOf_0f7a4 : plainName mJ0_indexOf_0f7a4.1.cls = true := by decide +kernel
abbrev mJ0_indexOf_7cf53 : MD := (yJ0_indexOf_7cf53, prog_15_method_80_code, 3, (some .int))
theorem mw_J0_indexOf_7cf53 : MW mJ0_indexOf_7cf53 := ⟨mUW (tp3 (List.mem_of_getElem? (i := 80) (by decide +kernel))) rfl, mUW (tp1 (List.mem_of_getElem? (i := 12) (by decide +kernel))) rfl⟩
theorem mi_J0_indexOf_7cf53 : Cond.instanceMethod mJ0_indexOf_7cf53.1 ∈ UW := mUW (tp3 (List.mem_of_getElem? (i := 78) (by decide +kernel))) rfl
theorem ms_J0_indexOf_7cf53 : Cond.selects mJ0_indexOf_7cf53.1.cls mJ0_indexOf_7cf53.1 mJ0_indexOf_7cf53.1 ∈ UW := mUW (tp3 (List.mem_of_getElem? (i := 79) (by decide +kernel))) rfl
theorem mo_J0_indexOf_7cf53 : MOK mJ0_indexOf_7cf53 2 := ⟨by decide, by decide, by decide +kernel, by decide⟩
theorem mp_J0_indexOf_7cf53 : plainName mJ0_indexOf_7cf53.1.cls = true := by decide +kernel
abbrev mJ0_isLatin1_aae02 : MD := (yJ0_isLatin1_aae02, prog_15_method_154_code, 1, (some .boolean))
theorem mw_J0_isLatin1_aae02 : MW mJ0_isLatin1_aae02 := ⟨mUW (tp3 (List.mem_of_getElem? (i := 28) (by decide +kernel))) rfl, mUW (tp1 (List.mem_of_getElem? (i := 12) (by decide +kernel))) rfl⟩
theorem mi_J0_isLatin1_aae02 : Cond.instanceMethod mJ0_isLatin1_aae02.1 ∈ UW := mUW (tp3 (List.mem_of_getElem? (i := 26) (by decide +kernel))) rfl
theorem ms_J0_isLatin1_aae02 : Cond.selects mJ0_isLatin1_aae02.1.cls mJ0_isLatin1_aae02.1 mJ0_isLatin1_aae02.1 ∈ UW := mUW (tp3 (List.mem_of_getElem? (i := 27) (by decide +kernel))) rfl
theorem mo_J0_isLatin1_aae02 : MOK mJ0_isLatin1_aae02 0 := ⟨by decide, by decide, by decide +kernel, by decide⟩
theorem mp_J0_isLatin1_aae02 : plainName mJ0_isLatin1_aae02.1.cls = true := by decide +kernel
abbrev mJ0_length_8abf5 : MD := (yJ0_length_8abf5, prog_15_method_54_code, 1, (some .int))
theorem mw_J0_length_8abf5 : MW mJ0_length_8abf5 := ⟨mUW (tp3 (List.mem_of_getElem? (i := 84) (by decide +kernel))) rfl, mUW (tp1 (List.mem_of_getElem? (i := 12) (by decide +kernel))) rfl⟩
theorem mi_J0_length_8abf5 : Cond.instanceMethod mJ0_length_8abf5.1 ∈ UW := mUW (tp3 (List.mem_of_getElem? (i := 82) (by decide +kernel))) rfl
theorem ms_J0_length_8abf5 : Cond.selects mJ0_length_8abf5.1.cls mJ0_length_8abf5.1 mJ0_length_8abf5.1 ∈ UW := mUW (tp3 (List.mem_of_getElem? (i := 83) (by decide +kernel))) rfl
theorem mo_J0_length_8abf5 : MOK mJ0_length_8abf5 0 := ⟨by decide, by decide, by decide +kernel, by decide⟩
theorem mp_J0_length_8abf5 : plainName mJ0_length_8abf5.1.cls = true := by decide +kernel
abbrev mJ1_canEncode_9a6ad : MD := (yJ1_canEncode_9a6ad, prog_16_method_4_code, 1, (some .boolean))
theorem mw_J1_canEncode_9a6ad : MW mJ1_canEncode_9a6ad := ⟨mUW (tp3 (List.mem_of_getElem? (i := 94) (by decide +kernel))) rfl, mUW (tp1 (List.mem_of_getElem? (i := 13) (by decide +kernel))) rfl⟩
theorem mt_J1_canEncode_9a6ad : Cond.static mJ1_canEncode_9a6ad.1 ∈ UW := mUW (tp3 (List.mem_of_getElem? (i := 93) (by decide +kernel))) rfl
theorem mo_J1_canEncode_9a6ad : MOK mJ1_canEncode_9a6ad 1 := ⟨by decide, by decide, by decide +kernel, by decide⟩
theorem mp_J1_canEncode_9a6ad : plainName mJ1_canEncode_9a6ad.1.cls = true := by decide +kernel
abbrev mJ1_charAt_3b067 : MD := (yJ1_charAt_3b067, prog_16_method_2_code, 2, (some .char))
theorem mw_J1_charAt_3b067 : MW mJ1_charAt_3b067 := ⟨mUW (tp3 (List.mem_of_getElem? (i := 33) (by decide +kernel))) rfl, mUW (tp1 (List.mem_of_getElem? (i := 13) (by decide +kernel))) rfl⟩
theorem mt_J1_charAt_3b067 : Cond.static mJ1_charAt_3b067.1 ∈ UW := mUW (tp3 (List.mem_of_getElem? (i := 32) (by decide +kernel))) rfl
theorem mo_J1_charAt_3b067 : MOK mJ1_charAt_3b067 2 := ⟨by decide, by decide, by decide +kernel, by decide⟩
theorem mp_J1_charAt_3b067 : plainName mJ1_charAt_3b067.1.cls = true := by decide +kernel
abbrev mJ1_indexOfChar_4cfef : MD := (yJ1_indexOfChar_4cfef, prog_16_method_23_code, 6, (some .int))
theorem mw_J1_indexOfChar_4cfef : MW mJ1_indexOfChar_4cfef := ⟨mUW (tp3 (List.mem_of_getElem? (i := 103) (by decide +kernel))) rfl, mUW (tp1 (List.mem_of_getElem? (i := 13) (by decide +kernel))) rfl⟩
theorem mt_J1_indexOfChar_4cfef : Cond.static mJ1_indexOfChar_4cfef.1 ∈ UW := mUW (tp3 (List.mem_of_getElem? (i := 102) (by decide +kernel))) rfl
theorem mo_J1_indexOfChar_4cfef : MOK mJ1_indexOfChar_4cfef 4 := ⟨by decide, by decide, by decide +kernel, by decide⟩
theorem mp_J1_indexOfChar_4cfef : plainName mJ1_indexOfChar_4cfef.1.cls = true := by decide +kernel
abbrev mJ1_indexOf_4cfef : MD := (yJ1_indexOf_4cfef, prog_16_method_22_code, 4, (some .int))
theorem mw_J1_indexOf_4cfef : MW mJ1_indexOf_4cfef := ⟨mUW (tp3 (List.mem_of_getElem? (i := 91) (by decide +kernel))) rfl, mUW (tp1 (List.mem_of_getElem? (i := 13) (by decide +kernel))) rfl⟩
theorem mt_J1_indexOf_4cfef : Cond.static mJ1_indexOf_4cfef.1 ∈ UW := mUW (tp3 (List.mem_of_getElem? (i := 90) (by decide +kernel))) rfl
theorem mo_J1_indexOf_4cfef : MOK mJ1_indexOf_4cfef 4 := ⟨by decide, by decide, by decide +kernel, by decide⟩
theorem mp_J1_indexOf_4cfef : plainName mJ1_indexOf_4cfef.1.cls = true := by decide +kernel
abbrev mJ3_checkIndex_8e157 : MD := (yJ3_checkIndex_8e157, prog_20_method_11_code, 3, (some .int))
theorem mw_J3_checkIndex_8e157 : MW mJ3_checkIndex_8e157 := ⟨mUW (tp3 (List.mem_of_getElem? (i := 41) (by decide +kernel))) rfl, mUW (tp1 (List.mem_of_getElem? (i := 14) (by decide +kernel))) rfl⟩
theorem mt_J3_checkIndex_8e157 : Cond.static mJ3_checkIndex_8e157.1 ∈ UW := mUW (tp3 (List.mem_of_getElem? (i := 40) (by decide +kernel))) rfl
theorem mo_J3_checkIndex_8e157 : MOK mJ3_checkIndex_8e157 3 := ⟨by decide, by decide, by decide +kernel, by decide⟩
theorem mp_J3_checkIndex_8e157 : plainName mJ3_checkIndex_8e157.1.cls = true := by decide +kernel
abbrev mJ7_fill_53178 : MD := (yJ7_fill_53178, prog_19_method_103_code, 4, none)
theorem mw_J7_fill_53178 : MW mJ7_fill_53178 := ⟨mUW (tp3 (List.mem_of_getElem? (i := 145) (by decide +kernel))) rfl, mUW (tp1 (List.mem_of_getElem? (i := 18) (by decide +kernel))) rfl⟩
theorem mt_J7_fill_53178 : Cond.static mJ7_fill_53178.1 ∈ UW := mUW (tp3 (List.mem_of_getElem? (i := 144) (by decide +kernel))) rfl
theorem mo_J7_fill_53178 : MOK mJ7_fill_53178 2 := ⟨by decide, by decide, by decide +kernel, by decide⟩
theorem mp_J7_fill_53178 : plainName mJ7_fill_53178.1.cls = true := by decide +kernel
abbrev mJ7_fill_d0a16 : MD := (yJ7_fill_d0a16, prog_19_method_101_code, 5, none)
theorem mw_J7_fill_d0a16 : MW mJ7_fill_d0a16 := ⟨mUW (tp4 (List.mem_of_getElem? (i := 28) (by decide +kernel))) rfl, mUW (tp1 (List.mem_of_getElem? (i := 18) (by decide +kernel))) rfl⟩
theorem mt_J7_fill_d0a16 : Cond.static mJ7_fill_d0a16.1 ∈ UW := mUW (tp4 (List.mem_of_getElem? (i := 27) (by decide +kernel))) rfl
theorem mo_J7_fill_d0a16 : MOK mJ7_fill_d0a16 2 := ⟨by decide, by decide, by decide +kernel, by decide⟩
theorem mp_J7_fill_d0a16 : plainName mJ7_fill_d0a16.1.cls = true := by decide +kernel
abbrev mJ9_abs_0f7a4 : MD := (yJ9_abs_0f7a4, prog_14_method_59_code, 1, (some .int))
theorem mw_J9_abs_0f7a4 : MW mJ9_abs_0f7a4 := ⟨mUW (tp4 (List.mem_of_getElem? (i := 39) (by decide +kernel))) rfl, mUW (tp1 (List.mem_of_getElem? (i := 16) (by decide +kernel))) rfl⟩
theorem mt_J9_abs_0f7a4 : Cond.static mJ9_abs_0f7a4.1 ∈ UW := mUW (tp4 (List.mem_of_getElem? (i := 38) (by decide +kernel))) rfl
theorem mo_J9_abs_0f7a4 : MOK mJ9_abs_0f7a4 1 := ⟨by decide, by decide, by decide +kernel, by decide⟩
abbrev mJ9_max_7cf53 : MD := (yJ9_max_7cf53, prog_14_method_65_code, 2, (some .int))
theorem mw_J9_max_7cf53 : MW mJ9_max_7cf53 := ⟨mUW (tp3 (List.mem_of_getElem? (i := 97) (by decide +kernel))) rfl, mUW (tp1 (List.mem_of_getElem? (i := 16) (by decide +kernel))) rfl⟩
theorem mt_J9_max_7cf53 : Cond.static mJ9_max_7cf53.1 ∈ UW := mUW (tp3 (List.mem_of_getElem? (i := 96) (by decide +kernel))) rfl
theorem mo_J9_max_7cf53 : MOK mJ9_max_7cf53 2 := ⟨by decide, by decide, by decide +kernel, by decide⟩
abbrev mJ9_max_f86c9 : MD := (yJ9_max_f86c9, prog_14_method_66_code, 4, (some .long))
theorem mw_J9_max_f86c9 : MW mJ9_max_f86c9 := ⟨mUW (tp4 (List.mem_of_getElem? (i := 55) (by decide +kernel))) rfl, mUW (tp1 (List.mem_of_getElem? (i := 16) (by decide +kernel))) rfl⟩
theorem mt_J9_max_f86c9 : Cond.static mJ9_max_f86c9.1 ∈ UW := mUW (tp4 (List.mem_of_getElem? (i := 54) (by decide +kernel))) rfl
theorem mo_J9_max_f86c9 : MOK mJ9_max_f86c9 2 := ⟨by decide, by decide, by decide +kernel, by decide⟩
abbrev mJ9_min_7cf53 : MD := (yJ9_min_7cf53, prog_14_method_69_code, 2, (some .int))
theorem mw_J9_min_7cf53 : MW mJ9_min_7cf53 := ⟨mUW (tp3 (List.mem_of_getElem? (i := 100) (by decide +kernel))) rfl, mUW (tp1 (List.mem_of_getElem? (i := 16) (by decide +kernel))) rfl⟩
theorem mt_J9_min_7cf53 : Cond.static mJ9_min_7cf53.1 ∈ UW := mUW (tp3 (List.mem_of_getElem? (i := 99) (by decide +kernel))) rfl
theorem mo_J9_min_7cf53 : MOK mJ9_min_7cf53 2 := ⟨by decide, by decide, by decide +kernel, by decide⟩
abbrev mJ9_min_f86c9 : MD := (yJ9_min_f86c9, prog_14_method_70_code, 4, (some .long))
theorem mw_J9_min_f86c9 : MW mJ9_min_f86c9 := ⟨mUW (tp4 (List.mem_of_getElem? (i := 52) (by decide +kernel))) rfl, mUW (tp1 (List.mem_of_getElem? (i := 16) (by decide +kernel))) rfl⟩
theorem mt_J9_min_f86c9 : Cond.static mJ9_min_f86c9.1 ∈ UW := mUW (tp4 (List.mem_of_getElem? (i := 51) (by decide +kernel))) rfl
theorem mo_J9_min_f86c9 : MOK mJ9_min_f86c9 2 := ⟨by decide, by decide, by decide +kernel, by decide⟩
abbrev mJ_Object_init___V : MD := ((⟨"java/lang/Object", "<init>", "()V"⟩ : MethodName), object_method_1_code, 1, none)
abbrev mL_law : MD := (yL_law, code, 4, (some .boolean))
abbrev mX0_clear : MD := (yX0_clear, prog_2_method_3_code, 2, none)
theorem mw_X0_clear : MW mX0_clear := ⟨mUW (tp4 (List.mem_of_getElem? (i := 65) (by decide +kernel))) rfl, mUW (tp1 (List.mem_of_getElem? (i := 7) (by decide +kernel))) rfl⟩
theorem mi_X0_clear : Cond.instanceMethod mX0_clear.1 ∈ UW := mUW (tp4 (List.mem_of_getElem? (i := 64) (by decide +kernel))) rfl
theorem ms_X0_clear : Cond.selects mX0_clear.1.cls mX0_clear.1 mX0_clear.1 ∈ UW := mUW (tq2 (List.mem_of_getElem? (i := 13) (by decide +kernel))) rfl
theorem mo_X0_clear : MOK mX0_clear 0 := ⟨by decide, by decide, by decide +kernel, by decide⟩
theorem mp_X0_clear : plainName mX0_clear.1.cls = true := by decide +kernel
abbrev mX0_come : MD := (yX0_come, prog_2_method_4_code, 6, (some .int))
theorem mw_X0_come : MW mX0_come := ⟨mUW (tp4 (List.mem_of_getElem? (i := 70) (by decide +kernel))) rfl, mUW (tp1 (List.mem_of_getElem? (i := 7) (by decide +kernel))) rfl⟩
theorem mi_X0_come : Cond.instanceMethod mX0_come.1 ∈ UW := mUW (tp4 (List.mem_of_getElem? (i := 69) (by decide +kernel))) rfl
theorem ms_X0_come : Cond.selects mX0_come.1.cls mX0_come.1 mX0_come.1 ∈ UW := mUW (tq2 (List.mem_of_getElem? (i := 14) (by decide +kernel))) rfl
theorem mo_X0_come : MOK mX0_come 1 := ⟨by decide, by decide, by decide +kernel, by decide⟩
theorem mp_X0_come : plainName mX0_come.1.cls = true := by decide +kernel
abbrev mX0_hasHiccup : MD := (yX0_hasHiccup, prog_2_method_9_code, 4, (some .boolean))
theorem mw_X0_hasHiccup : MW mX0_hasHiccup := ⟨mUW (tp4 (List.mem_of_getElem? (i := 238) (by decide +kernel))) rfl, mUW (tp1 (List.mem_of_getElem? (i := 7) (by decide +kernel))) rfl⟩
theorem mi_X0_hasHiccup : Cond.instanceMethod mX0_hasHiccup.1 ∈ UW := mUW (tp4 (List.mem_of_getElem? (i := 236) (by decide +kernel))) rfl
theorem ms_X0_hasHiccup : Cond.selects mX0_hasHiccup.1.cls mX0_hasHiccup.1 mX0_hasHiccup.1 ∈ UW := mUW (tp4 (List.mem_of_getElem? (i := 237) (by decide +kernel))) rfl
theorem mo_X0_hasHiccup : MOK mX0_hasHiccup 2 := ⟨by decide, by decide, by decide +kernel, by decide⟩
theorem mp_X0_hasHiccup : plainName mX0_hasHiccup.1.cls = true := by decide +kernel
abbrev mX0_init : MD := (yX0_init, prog_2_method_1_code, 1, none)
theorem mw_X0_init : MW mX0_init := ⟨mUW (tp2 (List.mem_of_getElem? (i := 21) (by decide +kernel))) rfl, mUW (tp1 (List.mem_of_getElem? (i := 7) (by decide +kernel))) rfl⟩
theorem mi_X0_init : Cond.instanceMethod mX0_init.1 ∈ UW := mUW (tp2 (List.mem_of_getElem? (i := 20) (by decide +kernel))) rfl
theorem mo_X0_init : MOK mX0_init 0 := ⟨by decide, by decide, by decide +kernel, by decide⟩
theorem mp_X0_init : plainName mX0_init.1.cls = true := by decide +kernel
abbrev mX0_isTimed : MD := (yX0_isTimed, prog_2_method_10_code, 5, (some .boolean))
theorem mw_X0_isTimed : MW mX0_isTimed := ⟨mUW (tp5 (List.mem_of_getElem? (i := 91) (by decide +kernel))) rfl, mUW (tp1 (List.mem_of_getElem? (i := 7) (by decide +kernel))) rfl⟩
theorem mi_X0_isTimed : Cond.instanceMethod mX0_isTimed.1 ∈ UW := mUW (tp5 (List.mem_of_getElem? (i := 89) (by decide +kernel))) rfl
theorem ms_X0_isTimed : Cond.selects mX0_isTimed.1.cls mX0_isTimed.1 mX0_isTimed.1 ∈ UW := mUW (tp5 (List.mem_of_getElem? (i := 90) (by decide +kernel))) rfl
theorem mo_X0_isTimed : MOK mX0_isTimed 2 := ⟨by decide, by decide, by decide +kernel, by decide⟩
theorem mp_X0_isTimed : plainName mX0_isTimed.1.cls = true := by decide +kernel
abbrev mX0_listInto : MD := (yX0_listInto, prog_2_method_11_code, 5, (some .int))
theorem mw_X0_listInto : MW mX0_listInto := ⟨mUW (tp5 (List.mem_of_getElem? (i := 150) (by decide +kernel))) rfl, mUW (tp1 (List.mem_of_getElem? (i := 7) (by decide +kernel))) rfl⟩
theorem mi_X0_listInto : Cond.instanceMethod mX0_listInto.1 ∈ UW := mUW (tp5 (List.mem_of_getElem? (i := 148) (by decide +kernel))) rfl
theorem ms_X0_listInto : Cond.selects mX0_listInto.1.cls mX0_listInto.1 mX0_listInto.1 ∈ UW := mUW (tp5 (List.mem_of_getElem? (i := 149) (by decide +kernel))) rfl
theorem mo_X0_listInto : MOK mX0_listInto 2 := ⟨by decide, by decide, by decide +kernel, by decide⟩
theorem mp_X0_listInto : plainName mX0_listInto.1.cls = true := by decide +kernel
abbrev mX0_nobodies : MD := (yX0_nobodies, prog_2_method_8_code, 4, (some .int))
theorem mw_X0_nobodies : MW mX0_nobodies := ⟨mUW (tp4 (List.mem_of_getElem? (i := 173) (by decide +kernel))) rfl, mUW (tp1 (List.mem_of_getElem? (i := 7) (by decide +kernel))) rfl⟩
theorem mi_X0_nobodies : Cond.instanceMethod mX0_nobodies.1 ∈ UW := mUW (tp4 (List.mem_of_getElem? (i := 171) (by decide +kernel))) rfl
theorem ms_X0_nobodies : Cond.selects mX0_nobodies.1.cls mX0_nobodies.1 mX0_nobodies.1 ∈ UW := mUW (tp4 (List.mem_of_getElem? (i := 172) (by decide +kernel))) rfl
theorem mo_X0_nobodies : MOK mX0_nobodies 1 := ⟨by decide, by decide, by decide +kernel, by decide⟩
theorem mp_X0_nobodies : plainName mX0_nobodies.1.cls = true := by decide +kernel
abbrev mX0_run : MD := (yX0_run, prog_2_method_2_code, 9, (some .boolean))
theorem mw_X0_run : MW mX0_run := ⟨mUW (tp4 (List.mem_of_getElem? (i := 61) (by decide +kernel))) rfl, mUW (tp1 (List.mem_of_getElem? (i := 7) (by decide +kernel))) rfl⟩
theorem mi_X0_run : Cond.instanceMethod mX0_run.1 ∈ UW := mUW (tp4 (List.mem_of_getElem? (i := 59) (by decide +kernel))) rfl
theorem ms_X0_run : Cond.selects mX0_run.1.cls mX0_run.1 mX0_run.1 ∈ UW := mUW (tp4 (List.mem_of_getElem? (i := 60) (by decide +kernel))) rfl
theorem mo_X0_run : MOK mX0_run 4 := ⟨by decide, by decide, by decide +kernel, by decide⟩
theorem mp_X0_run : plainName mX0_run.1.cls = true := by decide +kernel
abbrev mX0_say : MD := (yX0_say, prog_2_method_7_code, 4, none)
theorem mw_X0_say : MW mX0_say := ⟨mUW (tp4 (List.mem_of_getElem? (i := 78) (by decide +kernel))) rfl, mUW (tp1 (List.mem_of_getElem? (i := 7) (by decide +kernel))) rfl⟩
theorem mi_X0_say : Cond.instanceMethod mX0_say.1 ∈ UW := mUW (tp4 (List.mem_of_getElem? (i := 77) (by decide +kernel))) rfl
theorem ms_X0_say : Cond.selects mX0_say.1.cls mX0_say.1 mX0_say.1 ∈ UW := mUW (tq3 (List.mem_of_getElem? (i := 0) (by decide +kernel))) rfl
theorem mo_X0_say : MOK mX0_say 2 := ⟨by decide, by decide, by decide +kernel, by decide⟩
theorem mp_X0_say : plainName mX0_say.1.cls = true := by decide +kernel
abbrev mX0_sayAnswers : MD := (yX0_sayAnswers, prog_2_method_6_code, 8, none)
theorem mw_X0_sayAnswers : MW mX0_sayAnswers := ⟨mUW (tp4 (List.mem_of_getElem? (i := 82) (by decide +kernel))) rfl, mUW (tp1 (List.mem_of_getElem? (i := 7) (by decide +kernel))) rfl⟩
theorem mi_X0_sayAnswers : Cond.instanceMethod mX0_sayAnswers.1 ∈ UW := mUW (tp4 (List.mem_of_getElem? (i := 81) (by decide +kernel))) rfl
theorem ms_X0_sayAnswers : Cond.selects mX0_sayAnswers.1.cls mX0_sayAnswers.1 mX0_sayAnswers.1 ∈ UW := mUW (tq3 (List.mem_of_getElem? (i := 1) (by decide +kernel))) rfl
theorem mo_X0_sayAnswers : MOK mX0_sayAnswers 4 := ⟨by decide, by decide, by decide +kernel, by decide⟩
theorem mp_X0_sayAnswers : plainName mX0_sayAnswers.1.cls = true := by decide +kernel
abbrev mX0_sayNamings : MD := (yX0_sayNamings, prog_2_method_5_code, 7, none)
theorem mw_X0_sayNamings : MW mX0_sayNamings := ⟨mUW (tp4 (List.mem_of_getElem? (i := 74) (by decide +kernel))) rfl, mUW (tp1 (List.mem_of_getElem? (i := 7) (by decide +kernel))) rfl⟩
theorem mi_X0_sayNamings : Cond.instanceMethod mX0_sayNamings.1 ∈ UW := mUW (tp4 (List.mem_of_getElem? (i := 73) (by decide +kernel))) rfl
theorem ms_X0_sayNamings : Cond.selects mX0_sayNamings.1.cls mX0_sayNamings.1 mX0_sayNamings.1 ∈ UW := mUW (tq2 (List.mem_of_getElem? (i := 15) (by decide +kernel))) rfl
theorem mo_X0_sayNamings : MOK mX0_sayNamings 3 := ⟨by decide, by decide, by decide +kernel, by decide⟩
theorem mp_X0_sayNamings : plainName mX0_sayNamings.1.cls = true := by decide +kernel
abbrev mX10_answers : MD := (yX10_answers, prog_12_method_86_code, 2, (some .int))
theorem mw_X10_answers : MW mX10_answers := ⟨mUW (tp7 (List.mem_of_getElem? (i := 193) (by decide +kernel))) rfl, mUW (tp1 (List.mem_of_getElem? (i := 11) (by decide +kernel))) rfl⟩
theorem mi_X10_answers : Cond.instanceMethod mX10_answers.1 ∈ UW := mUW (tp7 (List.mem_of_getElem? (i := 191) (by decide +kernel))) rfl
theorem ms_X10_answers : Cond.selects mX10_answers.1.cls mX10_answers.1 mX10_answers.1 ∈ UW := mUW (tp7 (List.mem_of_getElem? (i := 192) (by decide +kernel))) rfl
theorem mo_X10_answers : MOK mX10_answers 1 := ⟨by decide, by decide, by decide +kernel, by decide⟩
theorem mp_X10_answers : plainName mX10_answers.1.cls = true := by decide +kernel
abbrev mX10_apart : MD := (yX10_apart, prog_12_method_38_code, 2, (some .int))
theorem mw_X10_apart : MW mX10_apart := ⟨mUW (tp6 (List.mem_of_getElem? (i := 238) (by decide +kernel))) rfl, mUW (tp1 (List.mem_of_getElem? (i := 11) (by decide +kernel))) rfl⟩
theorem mt_X10_apart : Cond.static mX10_apart.1 ∈ UW := mUW (tp6 (List.mem_of_getElem? (i := 237) (by decide +kernel))) rfl
theorem mo_X10_apart : MOK mX10_apart 2 := ⟨by decide, by decide, by decide +kernel, by decide⟩
theorem mp_X10_apart : plainName mX10_apart.1.cls = true := by decide +kernel
abbrev mX10_areTwo : MD := (yX10_areTwo, prog_12_method_36_code, 5, (some .boolean))
theorem mw_X10_areTwo : MW mX10_areTwo := ⟨mUW (tp6 (List.mem_of_getElem? (i := 223) (by decide +kernel))) rfl, mUW (tp1 (List.mem_of_getElem? (i := 11) (by decide +kernel))) rfl⟩
theorem mi_X10_areTwo : Cond.instanceMethod mX10_areTwo.1 ∈ UW := mUW (tp6 (List.mem_of_getElem? (i := 222) (by decide +kernel))) rfl
theorem ms_X10_areTwo : Cond.selects mX10_areTwo.1.cls mX10_areTwo.1 mX10_areTwo.1 ∈ UW := mUW (tq5 (List.mem_of_getElem? (i := 11) (by decide +kernel))) rfl
theorem mo_X10_areTwo : MOK mX10_areTwo 2 := ⟨by decide, by decide, by decide +kernel, by decide⟩
theorem mp_X10_areTwo : plainName mX10_areTwo.1.cls = true := by decide +kernel
abbrev mX10_atOnce : MD := (yX10_atOnce, prog_12_method_96_code, 6, (some .int))
theorem mw_X10_atOnce : MW mX10_atOnce := ⟨mUW (tp7 (List.mem_of_getElem? (i := 231) (by decide +kernel))) rfl, mUW (tp1 (List.mem_of_getElem? (i := 11) (by decide +kernel))) rfl⟩
theorem mi_X10_atOnce : Cond.instanceMethod mX10_atOnce.1 ∈ UW := mUW (tp7 (List.mem_of_getElem? (i := 229) (by decide +kernel))) rfl
theorem ms_X10_atOnce : Cond.selects mX10_atOnce.1.cls mX10_atOnce.1 mX10_atOnce.1 ∈ UW := mUW (tp7 (List.mem_of_getElem? (i := 230) (by decide +kernel))) rfl
theorem mo_X10_atOnce : MOK mX10_atOnce 2 := ⟨by decide, by decide, by decide +kernel, by decide⟩
theorem mp_X10_atOnce : plainName mX10_atOnce.1.cls = true := by decide +kernel
abbrev mX10_attempt : MD := (yX10_attempt, prog_12_method_106_code, 8, (some .int))
theorem mw_X10_attempt : MW mX10_attempt := ⟨mUW (tp8 (List.mem_of_getElem? (i := 33) (by decide +kernel))) rfl, mUW (tp1 (List.mem_of_getElem? (i := 11) (by decide +kernel))) rfl⟩
theorem mi_X10_attempt : Cond.instanceMethod mX10_attempt.1 ∈ UW := mUW (tp8 (List.mem_of_getElem? (i := 31) (by decide +kernel))) rfl
theorem ms_X10_attempt : Cond.selects mX10_attempt.1.cls mX10_attempt.1 mX10_attempt.1 ∈ UW := mUW (tp8 (List.mem_of_getElem? (i := 32) (by decide +kernel))) rfl
theorem mo_X10_attempt : MOK mX10_attempt 2 := ⟨by decide, by decide, by decide +kernel, by decide⟩
theorem mp_X10_attempt : plainName mX10_attempt.1.cls = true := by decide +kernel
abbrev mX10_between : MD := (yX10_between, prog_12_method_47_code, 4, (some .int))
theorem mw_X10_between : MW mX10_between := ⟨mUW (tp6 (List.mem_of_getElem? (i := 219) (by decide +kernel))) rfl, mUW (tp1 (List.mem_of_getElem? (i := 11) (by decide +kernel))) rfl⟩
theorem mi_X10_between : Cond.instanceMethod mX10_between.1 ∈ UW := mUW (tp6 (List.mem_of_getElem? (i := 217) (by decide +kernel))) rfl
theorem ms_X10_between : Cond.selects mX10_between.1.cls mX10_between.1 mX10_between.1 ∈ UW := mUW (tp6 (List.mem_of_getElem? (i := 218) (by decide +kernel))) rfl
theorem mo_X10_between : MOK mX10_between 3 := ⟨by decide, by decide, by decide +kernel, by decide⟩
theorem mp_X10_between : plainName mX10_between.1.cls = true := by decide +kernel
abbrev mX10_between1 : MD := (yX10_between1, prog_12_method_40_code, 5, (some .int))
theorem mw_X10_between1 : MW mX10_between1 := ⟨mUW (tp7 (List.mem_of_getElem? (i := 1) (by decide +kernel))) rfl, mUW (tp1 (List.mem_of_getElem? (i := 11) (by decide +kernel))) rfl⟩
theorem mt_X10_between1 : Cond.static mX10_between1.1 ∈ UW := mUW (tp7 (List.mem_of_getElem? (i := 0) (by decide +kernel))) rfl
theorem mo_X10_between1 : MOK mX10_between1 3 := ⟨by decide, by decide, by decide +kernel, by decide⟩
theorem mp_X10_between1 : plainName mX10_between1.1.cls = true := by decide +kernel
abbrev mX10_cellMany : MD := (yX10_cellMany, prog_12_method_34_code, 1, (some .int))
theorem mw_X10_cellMany : MW mX10_cellMany := ⟨mUW (tp7 (List.mem_of_getElem? (i := 91) (by decide +kernel))) rfl, mUW (tp1 (List.mem_of_getElem? (i := 11) (by decide +kernel))) rfl⟩
theorem mi_X10_cellMany : Cond.instanceMethod mX10_cellMany.1 ∈ UW := mUW (tp7 (List.mem_of_getElem? (i := 90) (by decide +kernel))) rfl
theorem ms_X10_cellMany : Cond.selects mX10_cellMany.1.cls mX10_cellMany.1 mX10_cellMany.1 ∈ UW := mUW (tq6 (List.mem_of_getElem? (i := 14) (by decide +kernel))) rfl
theorem mo_X10_cellMany : MOK mX10_cellMany 0 := ⟨by decide, by decide, by decide +kernel, by decide⟩
theorem mp_X10_cellMany : plainName mX10_cellMany.1.cls = true := by decide +kernel
abbrev mX10_chance : MD := (yX10_chance, prog_12_method_113_code, 3, (some .int))
theorem mw_X10_chance : MW mX10_chance := ⟨mUW (tp8 (List.mem_of_getElem? (i := 50) (by decide +kernel))) rfl, mUW (tp1 (List.mem_of_getElem? (i := 11) (by decide +kernel))) rfl⟩
theorem mi_X10_chance : Cond.instanceMethod mX10_chance.1 ∈ UW := mUW (tp8 (List.mem_of_getElem? (i := 48) (by decide +kernel))) rfl
theorem ms_X10_chance : Cond.selects mX10_chance.1.cls mX10_chance.1 mX10_chance.1 ∈ UW := mUW (tp8 (List.mem_of_getElem? (i := 49) (by decide +kernel))) rfl
theorem mo_X10_chance : MOK mX10_chance 2 := ⟨by decide, by decide, by decide +kernel, by decide⟩
theorem mp_X10_chance : plainName mX10_chance.1.cls = true := by decide +kernel
abbrev mX10_closes : MD := (yX10_closes, prog_12_method_31_code, 1, none)
theorem mw_X10_closes : MW mX10_closes := ⟨mUW (tp6 (List.mem_of_getElem? (i := 143) (by decide +kernel))) rfl, mUW (tp1 (List.mem_of_getElem? (i := 11) (by decide +kernel))) rfl⟩
theorem mi_X10_closes : Cond.instanceMethod mX10_closes.1 ∈ UW := mUW (tp6 (List.mem_of_getElem? (i := 142) (by decide +kernel))) rfl
theorem ms_X10_closes : Cond.selects mX10_closes.1.cls mX10_closes.1 mX10_closes.1 ∈ UW := mUW (tq4 (List.mem_of_getElem? (i := 10) (by decide +kernel))) rfl
theorem mo_X10_closes : MOK mX10_closes 0 := ⟨by decide, by decide, by decide +kernel, by decide⟩
theorem mp_X10_closes : plainName mX10_closes.1.cls = true := by decide +kernel
abbrev mX10_codes : MD := (yX10_codes, prog_12_method_17_code, 2, none)
theorem mw_X10_codes : MW mX10_codes := ⟨mUW (tp6 (List.mem_of_getElem? (i := 183) (by decide +kernel))) rfl, mUW (tp1 (List.mem_of_getElem? (i := 11) (by decide +kernel))) rfl⟩
theorem mi_X10_codes : Cond.instanceMethod mX10_codes.1 ∈ UW := mUW (tp6 (List.mem_of_getElem? (i := 182) (by decide +kernel))) rfl
theorem ms_X10_codes : Cond.selects mX10_codes.1.cls mX10_codes.1 mX10_codes.1 ∈ UW := mUW (tq5 (List.mem_of_getElem? (i := 4) (by decide +kernel))) rfl
theorem mo_X10_codes : MOK mX10_codes 1 := ⟨by decide, by decide, by decide +kernel, by decide⟩
theorem mp_X10_codes : plainName mX10_codes.1.cls = true := by decide +kernel
abbrev mX10_common : MD := (yX10_common, prog_12_method_111_code, 4, (some .long))
theorem mw_X10_common : MW mX10_common := ⟨mUW (tp8 (List.mem_of_getElem? (i := 63) (by decide +kernel))) rfl, mUW (tp1 (List.mem_of_getElem? (i := 11) (by decide +kernel))) rfl⟩
theorem mt_X10_common : Cond.static mX10_common.1 ∈ UW := mUW (tp8 (List.mem_of_getElem? (i := 62) (by decide +kernel))) rfl
theorem mo_X10_common : MOK mX10_common 2 := ⟨by decide, by decide, by decide +kernel, by decide⟩
theorem mp_X10_common : plainName mX10_common.1.cls = true := by decide +kernel
abbrev mX10_count : MD := (yX10_count, prog_12_method_122_code, 2, (some .int))
theorem mw_X10_count : MW mX10_count := ⟨mUW (tp8 (List.mem_of_getElem? (i := 100) (by decide +kernel))) rfl, mUW (tp1 (List.mem_of_getElem? (i := 11) (by decide +kernel))) rfl⟩
theorem mi_X10_count : Cond.instanceMethod mX10_count.1 ∈ UW := mUW (tp8 (List.mem_of_getElem? (i := 98) (by decide +kernel))) rfl
theorem ms_X10_count : Cond.selects mX10_count.1.cls mX10_count.1 mX10_count.1 ∈ UW := mUW (tp8 (List.mem_of_getElem? (i := 99) (by decide +kernel))) rfl
theorem mo_X10_count : MOK mX10_count 1 := ⟨by decide, by decide, by decide +kernel, by decide⟩
theorem mp_X10_count : plainName mX10_count.1.cls = true := by decide +kernel
abbrev mX10_crowd : MD := (yX10_crowd, prog_12_method_84_code, 2, (some .int))
theorem mw_X10_crowd : MW mX10_crowd := ⟨mUW (tp7 (List.mem_of_getElem? (i := 181) (by decide +kernel))) rfl, mUW (tp1 (List.mem_of_getElem? (i := 11) (by decide +kernel))) rfl⟩
theorem mi_X10_crowd : Cond.instanceMethod mX10_crowd.1 ∈ UW := mUW (tp7 (List.mem_of_getElem? (i := 179) (by decide +kernel))) rfl
theorem ms_X10_crowd : Cond.selects mX10_crowd.1.cls mX10_crowd.1 mX10_crowd.1 ∈ UW := mUW (tp7 (List.mem_of_getElem? (i := 180) (by decide +kernel))) rfl
theorem mo_X10_crowd : MOK mX10_crowd 1 := ⟨by decide, by decide, by decide +kernel, by decide⟩
theorem mp_X10_crowd : plainName mX10_crowd.1.cls = true := by decide +kernel
abbrev mX10_crowdAt : MD := (yX10_crowdAt, prog_12_method_83_code, 4, (some .int))
theorem mw_X10_crowdAt : MW mX10_crowdAt := ⟨mUW (tp7 (List.mem_of_getElem? (i := 185) (by decide +kernel))) rfl, mUW (tp1 (List.mem_of_getElem? (i := 11) (by decide +kernel))) rfl⟩
theorem mi_X10_crowdAt : Cond.instanceMethod mX10_crowdAt.1 ∈ UW := mUW (tp7 (List.mem_of_getElem? (i := 184) (by decide +kernel))) rfl
theorem ms_X10_crowdAt : Cond.selects mX10_crowdAt.1.cls mX10_crowdAt.1 mX10_crowdAt.1 ∈ UW := mUW (tq7 (List.mem_of_getElem? (i := 9) (by decide +kernel))) rfl
theorem mo_X10_crowdAt : MOK mX10_crowdAt 1 := ⟨by decide, by decide, by decide +kernel, by decide⟩
theorem mp_X10_crowdAt : plainName mX10_crowdAt.1.cls = true := by decide +kernel
abbrev mX10_cut : MD := (yX10_cut, prog_12_method_116_code, 3, (some .long))
theorem mw_X10_cut : MW mX10_cut := ⟨mUW (tp8 (List.mem_of_getElem? (i := 84) (by decide +kernel))) rfl, mUW (tp1 (List.mem_of_getElem? (i := 11) (by decide +kernel))) rfl⟩
theorem mt_X10_cut : Cond.static mX10_cut.1 ∈ UW := mUW (tp8 (List.mem_of_getElem? (i := 83) (by decide +kernel))) rfl
theorem mo_X10_cut : MOK mX10_cut 2 := ⟨by decide, by decide, by decide +kernel, by decide⟩
theorem mp_X10_cut : plainName mX10_cut.1.cls = true := by decide +kernel
abbrev mX10_does : MD := (yX10_does, prog_12_method_71_code, 2, none)
theorem mw_X10_does : MW mX10_does := ⟨mUW (tp7 (List.mem_of_getElem? (i := 131) (by decide +kernel))) rfl, mUW (tp1 (List.mem_of_getElem? (i := 11) (by decide +kernel))) rfl⟩
theorem mi_X10_does : Cond.instanceMethod mX10_does.1 ∈ UW := mUW (tp7 (List.mem_of_getElem? (i := 130) (by decide +kernel))) rfl
theorem ms_X10_does : Cond.selects mX10_does.1.cls mX10_does.1 mX10_does.1 ∈ UW := mUW (tq7 (List.mem_of_getElem? (i := 2) (by decide +kernel))) rfl
theorem mo_X10_does : MOK mX10_does 1 := ⟨by decide, by decide, by decide +kernel, by decide⟩
theorem mp_X10_does : plainName mX10_does.1.cls = true := by decide +kernel
abbrev mX10_draw : MD := (yX10_draw, prog_12_method_76_code, 2, (some .int))
theorem mw_X10_draw : MW mX10_draw := ⟨mUW (tp7 (List.mem_of_getElem? (i := 156) (by decide +kernel))) rfl, mUW (tp1 (List.mem_of_getElem? (i := 11) (by decide +kernel))) rfl⟩
theorem mi_X10_draw : Cond.instanceMethod mX10_draw.1 ∈ UW := mUW (tp7 (List.mem_of_getElem? (i := 155) (by decide +kernel))) rfl
theorem ms_X10_draw : Cond.selects mX10_draw.1.cls mX10_draw.1 mX10_draw.1 ∈ UW := mUW (tq7 (List.mem_of_getElem? (i := 6) (by decide +kernel))) rfl
theorem mo_X10_draw : MOK mX10_draw 1 := ⟨by decide, by decide, by decide +kernel, by decide⟩
theorem mp_X10_draw : plainName mX10_draw.1.cls = true := by decide +kernel
abbrev mX10_drawn : MD := (yX10_drawn, prog_12_method_77_code, 4, (some .int))
theorem mw_X10_drawn : MW mX10_drawn := ⟨mUW (tp7 (List.mem_of_getElem? (i := 152) (by decide +kernel))) rfl, mUW (tp1 (List.mem_of_getElem? (i := 11) (by decide +kernel))) rfl⟩
theorem mi_X10_drawn : Cond.instanceMethod mX10_drawn.1 ∈ UW := mUW (tp7 (List.mem_of_getElem? (i := 151) (by decide +kernel))) rfl
theorem ms_X10_drawn : Cond.selects mX10_drawn.1.cls mX10_drawn.1 mX10_drawn.1 ∈ UW := mUW (tq7 (List.mem_of_getElem? (i := 5) (by decide +kernel))) rfl
theorem mo_X10_drawn : MOK mX10_drawn 0 := ⟨by decide, by decide, by decide +kernel, by decide⟩
theorem mp_X10_drawn : plainName mX10_drawn.1.cls = true := by decide +kernel
abbrev mX10_drop : MD := (yX10_drop, prog_12_method_66_code, 2, (some .int))
theorem mw_X10_drop : MW mX10_drop := ⟨mUW (tp7 (List.mem_of_getElem? (i := 71) (by decide +kernel))) rfl, mUW (tp1 (List.mem_of_getElem? (i := 11) (by decide +kernel))) rfl⟩
theorem mi_X10_drop : Cond.instanceMethod mX10_drop.1 ∈ UW := mUW (tp7 (List.mem_of_getElem? (i := 69) (by decide +kernel))) rfl
theorem ms_X10_drop : Cond.selects mX10_drop.1.cls mX10_drop.1 mX10_drop.1 ∈ UW := mUW (tp7 (List.mem_of_getElem? (i := 70) (by decide +kernel))) rfl
theorem mo_X10_drop : MOK mX10_drop 1 := ⟨by decide, by decide, by decide +kernel, by decide⟩
theorem mp_X10_drop : plainName mX10_drop.1.cls = true := by decide +kernel
abbrev mX10_drops : MD := (yX10_drops, prog_12_method_62_code, 3, none)
theorem mw_X10_drops : MW mX10_drops := ⟨mUW (tp7 (List.mem_of_getElem? (i := 79) (by decide +kernel))) rfl, mUW (tp1 (List.mem_of_getElem? (i := 11) (by decide +kernel))) rfl⟩
theorem mi_X10_drops : Cond.instanceMethod mX10_drops.1 ∈ UW := mUW (tp7 (List.mem_of_getElem? (i := 78) (by decide +kernel))) rfl
theorem ms_X10_drops : Cond.selects mX10_drops.1.cls mX10_drops.1 mX10_drops.1 ∈ UW := mUW (tq6 (List.mem_of_getElem? (i := 12) (by decide +kernel))) rfl
theorem mo_X10_drops : MOK mX10_drops 1 := ⟨by decide, by decide, by decide +kernel, by decide⟩
theorem mp_X10_drops : plainName mX10_drops.1.cls = true := by decide +kernel
abbrev mX10_eats : MD := (yX10_eats, prog_12_method_13_code, 2, (some .boolean))
theorem mw_X10_eats : MW mX10_eats := ⟨mUW (tp6 (List.mem_of_getElem? (i := 127) (by decide +kernel))) rfl, mUW (tp1 (List.mem_of_getElem? (i := 11) (by decide +kernel))) rfl⟩
theorem mi_X10_eats : Cond.instanceMethod mX10_eats.1 ∈ UW := mUW (tp6 (List.mem_of_getElem? (i := 126) (by decide +kernel))) rfl
theorem ms_X10_eats : Cond.selects mX10_eats.1.cls mX10_eats.1 mX10_eats.1 ∈ UW := mUW (tq4 (List.mem_of_getElem? (i := 6) (by decide +kernel))) rfl
theorem mo_X10_eats : MOK mX10_eats 1 := ⟨by decide, by decide, by decide +kernel, by decide⟩
theorem mp_X10_eats : plainName mX10_eats.1.cls = true := by decide +kernel
abbrev mX10_fails : MD := (yX10_fails, prog_12_method_11_code, 2, none)
theorem mw_X10_fails : MW mX10_fails := ⟨mUW (tp6 (List.mem_of_getElem? (i := 135) (by decide +kernel))) rfl, mUW (tp1 (List.mem_of_getElem? (i := 11) (by decide +kernel))) rfl⟩
theorem mi_X10_fails : Cond.instanceMethod mX10_fails.1 ∈ UW := mUW (tp6 (List.mem_of_getElem? (i := 134) (by decide +kernel))) rfl
theorem ms_X10_fails : Cond.selects mX10_fails.1.cls mX10_fails.1 mX10_fails.1 ∈ UW := mUW (tq4 (List.mem_of_getElem? (i := 8) (by decide +kernel))) rfl
theorem mo_X10_fails : MOK mX10_fails 1 := ⟨by decide, by decide, by decide +kernel, by decide⟩
theorem mp_X10_fails : plainName mX10_fails.1.cls = true := by decide +kernel
abbrev mX10_famous : MD := (yX10_famous, prog_12_method_115_code, 3, (some .int))
theorem mw_X10_famous : MW mX10_famous := ⟨mUW (tp8 (List.mem_of_getElem? (i := 72) (by decide +kernel))) rfl, mUW (tp1 (List.mem_of_getElem? (i := 11) (by decide +kernel))) rfl⟩
theorem mi_X10_famous : Cond.instanceMethod mX10_famous.1 ∈ UW := mUW (tp8 (List.mem_of_getElem? (i := 70) (by decide +kernel))) rfl
theorem ms_X10_famous : Cond.selects mX10_famous.1.cls mX10_famous.1 mX10_famous.1 ∈ UW := mUW (tp8 (List.mem_of_getElem? (i := 71) (by decide +kernel))) rfl
theorem mo_X10_famous : MOK mX10_famous 0 := ⟨by decide, by decide, by decide +kernel, by decide⟩
theorem mp_X10_famous : plainName mX10_famous.1.cls = true := by decide +kernel
abbrev mX10_farOf : MD := (yX10_farOf, prog_12_method_39_code, 5, (some .int))
theorem mw_X10_farOf : MW mX10_farOf := ⟨mUW (tp6 (List.mem_of_getElem? (i := 235) (by decide +kernel))) rfl, mUW (tp1 (List.mem_of_getElem? (i := 11) (by decide +kernel))) rfl⟩
theorem mi_X10_farOf : Cond.instanceMethod mX10_farOf.1 ∈ UW := mUW (tp6 (List.mem_of_getElem? (i := 234) (by decide +kernel))) rfl
theorem ms_X10_farOf : Cond.selects mX10_farOf.1.cls mX10_farOf.1 mX10_farOf.1 ∈ UW := mUW (tq5 (List.mem_of_getElem? (i := 14) (by decide +kernel))) rfl
theorem mo_X10_farOf : MOK mX10_farOf 2 := ⟨by decide, by decide, by decide +kernel, by decide⟩
theorem mp_X10_farOf : plainName mX10_farOf.1.cls = true := by decide +kernel
abbrev mX10_fault : MD := (yX10_fault, prog_12_method_33_code, 2, (some .int))
theorem mw_X10_fault : MW mX10_fault := ⟨mUW (tp6 (List.mem_of_getElem? (i := 207) (by decide +kernel))) rfl, mUW (tp1 (List.mem_of_getElem? (i := 11) (by decide +kernel))) rfl⟩
theorem mi_X10_fault : Cond.instanceMethod mX10_fault.1 ∈ UW := mUW (tp6 (List.mem_of_getElem? (i := 205) (by decide +kernel))) rfl
theorem ms_X10_fault : Cond.selects mX10_fault.1.cls mX10_fault.1 mX10_fault.1 ∈ UW := mUW (tp6 (List.mem_of_getElem? (i := 206) (by decide +kernel))) rfl
theorem mo_X10_fault : MOK mX10_fault 1 := ⟨by decide, by decide, by decide +kernel, by decide⟩
theorem mp_X10_fault : plainName mX10_fault.1.cls = true := by decide +kernel
abbrev mX10_feed : MD := (yX10_feed, prog_12_method_5_code, 8, (some .int))
theorem mw_X10_feed : MW mX10_feed := ⟨mUW (tp6 (List.mem_of_getElem? (i := 94) (by decide +kernel))) rfl, mUW (tp1 (List.mem_of_getElem? (i := 11) (by decide +kernel))) rfl⟩
theorem mi_X10_feed : Cond.instanceMethod mX10_feed.1 ∈ UW := mUW (tp6 (List.mem_of_getElem? (i := 92) (by decide +kernel))) rfl
theorem ms_X10_feed : Cond.selects mX10_feed.1.cls mX10_feed.1 mX10_feed.1 ∈ UW := mUW (tp6 (List.mem_of_getElem? (i := 93) (by decide +kernel))) rfl
theorem mo_X10_feed : MOK mX10_feed 5 := ⟨by decide, by decide, by decide +kernel, by decide⟩
theorem mp_X10_feed : plainName mX10_feed.1.cls = true := by decide +kernel
abbrev mX10_gapOf : MD := (yX10_gapOf, prog_12_method_43_code, 3, (some .int))
theorem mw_X10_gapOf : MW mX10_gapOf := ⟨mUW (tp6 (List.mem_of_getElem? (i := 227) (by decide +kernel))) rfl, mUW (tp1 (List.mem_of_getElem? (i := 11) (by decide +kernel))) rfl⟩
theorem mi_X10_gapOf : Cond.instanceMethod mX10_gapOf.1 ∈ UW := mUW (tp6 (List.mem_of_getElem? (i := 226) (by decide +kernel))) rfl
theorem ms_X10_gapOf : Cond.selects mX10_gapOf.1.cls mX10_gapOf.1 mX10_gapOf.1 ∈ UW := mUW (tq5 (List.mem_of_getElem? (i := 12) (by decide +kernel))) rfl
theorem mo_X10_gapOf : MOK mX10_gapOf 2 := ⟨by decide, by decide, by decide +kernel, by decide⟩
theorem mp_X10_gapOf : plainName mX10_gapOf.1.cls = true := by decide +kernel
abbrev mX10_goesDay : MD := (yX10_goesDay, prog_12_method_52_code, 7, none)
theorem mw_X10_goesDay : MW mX10_goesDay := ⟨mUW (tp7 (List.mem_of_getElem? (i := 38) (by decide +kernel))) rfl, mUW (tp1 (List.mem_of_getElem? (i := 11) (by decide +kernel))) rfl⟩
theorem mi_X10_goesDay : Cond.instanceMethod mX10_goesDay.1 ∈ UW := mUW (tp7 (List.mem_of_getElem? (i := 37) (by decide +kernel))) rfl
theorem ms_X10_goesDay : Cond.selects mX10_goesDay.1.cls mX10_goesDay.1 mX10_goesDay.1 ∈ UW := mUW (tq6 (List.mem_of_getElem? (i := 4) (by decide +kernel))) rfl
theorem mo_X10_goesDay : MOK mX10_goesDay 0 := ⟨by decide, by decide, by decide +kernel, by decide⟩
theorem mp_X10_goesDay : plainName mX10_goesDay.1.cls = true := by decide +kernel
abbrev mX10_goesIn : MD := (yX10_goesIn, prog_12_method_18_code, 2, (some .boolean))
theorem mw_X10_goesIn : MW mX10_goesIn := ⟨mUW (tp6 (List.mem_of_getElem? (i := 179) (by decide +kernel))) rfl, mUW (tp1 (List.mem_of_getElem? (i := 11) (by decide +kernel))) rfl⟩
theorem mi_X10_goesIn : Cond.instanceMethod mX10_goesIn.1 ∈ UW := mUW (tp6 (List.mem_of_getElem? (i := 178) (by decide +kernel))) rfl
theorem ms_X10_goesIn : Cond.selects mX10_goesIn.1.cls mX10_goesIn.1 mX10_goesIn.1 ∈ UW := mUW (tq5 (List.mem_of_getElem? (i := 3) (by decide +kernel))) rfl
theorem mo_X10_goesIn : MOK mX10_goesIn 1 := ⟨by decide, by decide, by decide +kernel, by decide⟩
theorem mp_X10_goesIn : plainName mX10_goesIn.1.cls = true := by decide +kernel
abbrev mX10_hasOneAt : MD := (yX10_hasOneAt, prog_12_method_89_code, 4, (some .boolean))
theorem mw_X10_hasOneAt : MW mX10_hasOneAt := ⟨mUW (tp7 (List.mem_of_getElem? (i := 218) (by decide +kernel))) rfl, mUW (tp1 (List.mem_of_getElem? (i := 11) (by decide +kernel))) rfl⟩
theorem mi_X10_hasOneAt : Cond.instanceMethod mX10_hasOneAt.1 ∈ UW := mUW (tp7 (List.mem_of_getElem? (i := 217) (by decide +kernel))) rfl
theorem ms_X10_hasOneAt : Cond.selects mX10_hasOneAt.1.cls mX10_hasOneAt.1 mX10_hasOneAt.1 ∈ UW := mUW (tq7 (List.mem_of_getElem? (i := 12) (by decide +kernel))) rfl
theorem mo_X10_hasOneAt : MOK mX10_hasOneAt 2 := ⟨by decide, by decide, by decide +kernel, by decide⟩
theorem mp_X10_hasOneAt : plainName mX10_hasOneAt.1.cls = true := by decide +kernel
abbrev mX10_heard : MD := (yX10_heard, prog_12_method_103_code, 4, (some .int))
theorem mw_X10_heard : MW mX10_heard := ⟨mUW (tp8 (List.mem_of_getElem? (i := 12) (by decide +kernel))) rfl, mUW (tp1 (List.mem_of_getElem? (i := 11) (by decide +kernel))) rfl⟩
theorem mi_X10_heard : Cond.instanceMethod mX10_heard.1 ∈ UW := mUW (tp8 (List.mem_of_getElem? (i := 10) (by decide +kernel))) rfl
theorem ms_X10_heard : Cond.selects mX10_heard.1.cls mX10_heard.1 mX10_heard.1 ∈ UW := mUW (tp8 (List.mem_of_getElem? (i := 11) (by decide +kernel))) rfl
theorem mo_X10_heard : MOK mX10_heard 2 := ⟨by decide, by decide, by decide +kernel, by decide⟩
theorem mp_X10_heard : plainName mX10_heard.1.cls = true := by decide +kernel
abbrev mX10_heardAt : MD := (yX10_heardAt, prog_12_method_104_code, 5, (some .int))
theorem mw_X10_heardAt : MW mX10_heardAt := ⟨mUW (tp8 (List.mem_of_getElem? (i := 29) (by decide +kernel))) rfl, mUW (tp1 (List.mem_of_getElem? (i := 11) (by decide +kernel))) rfl⟩
theorem mi_X10_heardAt : Cond.instanceMethod mX10_heardAt.1 ∈ UW := mUW (tp8 (List.mem_of_getElem? (i := 27) (by decide +kernel))) rfl
theorem ms_X10_heardAt : Cond.selects mX10_heardAt.1.cls mX10_heardAt.1 mX10_heardAt.1 ∈ UW := mUW (tp8 (List.mem_of_getElem? (i := 28) (by decide +kernel))) rfl
theorem mo_X10_heardAt : MOK mX10_heardAt 3 := ⟨by decide, by decide, by decide +kernel, by decide⟩
theorem mp_X10_heardAt : plainName mX10_heardAt.1.cls = true := by decide +kernel
abbrev mX10_heardOf : MD := (yX10_heardOf, prog_12_method_102_code, 8, (some .int))
theorem mw_X10_heardOf : MW mX10_heardOf := ⟨mUW (tp8 (List.mem_of_getElem? (i := 21) (by decide +kernel))) rfl, mUW (tp1 (List.mem_of_getElem? (i := 11) (by decide +kernel))) rfl⟩
theorem mi_X10_heardOf : Cond.instanceMethod mX10_heardOf.1 ∈ UW := mUW (tp8 (List.mem_of_getElem? (i := 20) (by decide +kernel))) rfl
theorem ms_X10_heardOf : Cond.selects mX10_heardOf.1.cls mX10_heardOf.1 mX10_heardOf.1 ∈ UW := mUW (tq8 (List.mem_of_getElem? (i := 1) (by decide +kernel))) rfl
theorem mo_X10_heardOf : MOK mX10_heardOf 3 := ⟨by decide, by decide, by decide +kernel, by decide⟩
theorem mp_X10_heardOf : plainName mX10_heardOf.1.cls = true := by decide +kernel
abbrev mX10_hiccup : MD := (yX10_hiccup, prog_12_method_80_code, 3, (some .int))
theorem mw_X10_hiccup : MW mX10_hiccup := ⟨mUW (tp7 (List.mem_of_getElem? (i := 169) (by decide +kernel))) rfl, mUW (tp1 (List.mem_of_getElem? (i := 11) (by decide +kernel))) rfl⟩
theorem mi_X10_hiccup : Cond.instanceMethod mX10_hiccup.1 ∈ UW := mUW (tp7 (List.mem_of_getElem? (i := 167) (by decide +kernel))) rfl
theorem ms_X10_hiccup : Cond.selects mX10_hiccup.1.cls mX10_hiccup.1 mX10_hiccup.1 ∈ UW := mUW (tp7 (List.mem_of_getElem? (i := 168) (by decide +kernel))) rfl
theorem mo_X10_hiccup : MOK mX10_hiccup 2 := ⟨by decide, by decide, by decide +kernel, by decide⟩
theorem mp_X10_hiccup : plainName mX10_hiccup.1.cls = true := by decide +kernel
abbrev mX10_hiccups : MD := (yX10_hiccups, prog_12_method_79_code, 2, (some .int))
theorem mw_X10_hiccups : MW mX10_hiccups := ⟨mUW (tp7 (List.mem_of_getElem? (i := 161) (by decide +kernel))) rfl, mUW (tp1 (List.mem_of_getElem? (i := 11) (by decide +kernel))) rfl⟩
theorem mi_X10_hiccups : Cond.instanceMethod mX10_hiccups.1 ∈ UW := mUW (tp7 (List.mem_of_getElem? (i := 159) (by decide +kernel))) rfl
theorem ms_X10_hiccups : Cond.selects mX10_hiccups.1.cls mX10_hiccups.1 mX10_hiccups.1 ∈ UW := mUW (tp7 (List.mem_of_getElem? (i := 160) (by decide +kernel))) rfl
theorem mo_X10_hiccups : MOK mX10_hiccups 1 := ⟨by decide, by decide, by decide +kernel, by decide⟩
theorem mp_X10_hiccups : plainName mX10_hiccups.1.cls = true := by decide +kernel
abbrev mX10_hiccupsOf : MD := (yX10_hiccupsOf, prog_12_method_54_code, 4, (some .int))
theorem mw_X10_hiccupsOf : MW mX10_hiccupsOf := ⟨mUW (tp7 (List.mem_of_getElem? (i := 165) (by decide +kernel))) rfl, mUW (tp1 (List.mem_of_getElem? (i := 11) (by decide +kernel))) rfl⟩
theorem mi_X10_hiccupsOf : Cond.instanceMethod mX10_hiccupsOf.1 ∈ UW := mUW (tp7 (List.mem_of_getElem? (i := 164) (by decide +kernel))) rfl
theorem ms_X10_hiccupsOf : Cond.selects mX10_hiccupsOf.1.cls mX10_hiccupsOf.1 mX10_hiccupsOf.1 ∈ UW := mUW (tq7 (List.mem_of_getElem? (i := 7) (by decide +kernel))) rfl
theorem mo_X10_hiccupsOf : MOK mX10_hiccupsOf 1 := ⟨by decide, by decide, by decide +kernel, by decide⟩
theorem mp_X10_hiccupsOf : plainName mX10_hiccupsOf.1.cls = true := by decide +kernel
abbrev mX10_hill : MD := (yX10_hill, prog_12_method_32_code, 3, (some .int))
theorem mw_X10_hill : MW mX10_hill := ⟨mUW (tp6 (List.mem_of_getElem? (i := 98) (by decide +kernel))) rfl, mUW (tp1 (List.mem_of_getElem? (i := 11) (by decide +kernel))) rfl⟩
theorem mi_X10_hill : Cond.instanceMethod mX10_hill.1 ∈ UW := mUW (tp6 (List.mem_of_getElem? (i := 96) (by decide +kernel))) rfl
theorem ms_X10_hill : Cond.selects mX10_hill.1.cls mX10_hill.1 mX10_hill.1 ∈ UW := mUW (tp6 (List.mem_of_getElem? (i := 97) (by decide +kernel))) rfl
theorem mo_X10_hill : MOK mX10_hill 1 := ⟨by decide, by decide, by decide +kernel, by decide⟩
theorem mp_X10_hill : plainName mX10_hill.1.cls = true := by decide +kernel
abbrev mX10_image : MD := (yX10_image, prog_12_method_120_code, 3, (some .int))
theorem mw_X10_image : MW mX10_image := ⟨mUW (tp8 (List.mem_of_getElem? (i := 92) (by decide +kernel))) rfl, mUW (tp1 (List.mem_of_getElem? (i := 11) (by decide +kernel))) rfl⟩
theorem mi_X10_image : Cond.instanceMethod mX10_image.1 ∈ UW := mUW (tp8 (List.mem_of_getElem? (i := 90) (by decide +kernel))) rfl
theorem ms_X10_image : Cond.selects mX10_image.1.cls mX10_image.1 mX10_image.1 ∈ UW := mUW (tp8 (List.mem_of_getElem? (i := 91) (by decide +kernel))) rfl
theorem mo_X10_image : MOK mX10_image 1 := ⟨by decide, by decide, by decide +kernel, by decide⟩
theorem mp_X10_image : plainName mX10_image.1.cls = true := by decide +kernel
abbrev mX10_init : MD := (yX10_init, prog_12_method_3_code, 1, none)
theorem mw_X10_init : MW mX10_init := ⟨mUW (tp5 (List.mem_of_getElem? (i := 177) (by decide +kernel))) rfl, mUW (tp1 (List.mem_of_getElem? (i := 11) (by decide +kernel))) rfl⟩
theorem mi_X10_init : Cond.instanceMethod mX10_init.1 ∈ UW := mUW (tp5 (List.mem_of_getElem? (i := 176) (by decide +kernel))) rfl
theorem mo_X10_init : MOK mX10_init 0 := ⟨by decide, by decide, by decide +kernel, by decide⟩
theorem mp_X10_init : plainName mX10_init.1.cls = true := by decide +kernel
abbrev mX10_is : MD := (yX10_is, prog_12_method_12_code, 2, (some .boolean))
theorem mw_X10_is : MW mX10_is := ⟨mUW (tp6 (List.mem_of_getElem? (i := 131) (by decide +kernel))) rfl, mUW (tp1 (List.mem_of_getElem? (i := 11) (by decide +kernel))) rfl⟩
theorem mi_X10_is : Cond.instanceMethod mX10_is.1 ∈ UW := mUW (tp6 (List.mem_of_getElem? (i := 130) (by decide +kernel))) rfl
theorem ms_X10_is : Cond.selects mX10_is.1.cls mX10_is.1 mX10_is.1 ∈ UW := mUW (tq4 (List.mem_of_getElem? (i := 7) (by decide +kernel))) rfl
theorem mo_X10_is : MOK mX10_is 1 := ⟨by decide, by decide, by decide +kernel, by decide⟩
theorem mp_X10_is : plainName mX10_is.1.cls = true := by decide +kernel
abbrev mX10_isAgain : MD := (yX10_isAgain, prog_12_method_58_code, 2, none)
theorem mw_X10_isAgain : MW mX10_isAgain := ⟨mUW (tp7 (List.mem_of_getElem? (i := 135) (by decide +kernel))) rfl, mUW (tp1 (List.mem_of_getElem? (i := 11) (by decide +kernel))) rfl⟩
theorem mi_X10_isAgain : Cond.instanceMethod mX10_isAgain.1 ∈ UW := mUW (tp7 (List.mem_of_getElem? (i := 134) (by decide +kernel))) rfl
theorem ms_X10_isAgain : Cond.selects mX10_isAgain.1.cls mX10_isAgain.1 mX10_isAgain.1 ∈ UW := mUW (tq7 (List.mem_of_getElem? (i := 3) (by decide +kernel))) rfl
theorem mo_X10_isAgain : MOK mX10_isAgain 0 := ⟨by decide, by decide, by decide +kernel, by decide⟩
theorem mp_X10_isAgain : plainName mX10_isAgain.1.cls = true := by decide +kernel
abbrev mX10_isAnswered : MD := (yX10_isAnswered, prog_12_method_45_code, 6, (some .boolean))
theorem mw_X10_isAnswered : MW mX10_isAnswered := ⟨mUW (tp7 (List.mem_of_getElem? (i := 46) (by decide +kernel))) rfl, mUW (tp1 (List.mem_of_getElem? (i := 11) (by decide +kernel))) rfl⟩
theorem mi_X10_isAnswered : Cond.instanceMethod mX10_isAnswered.1 ∈ UW := mUW (tp7 (List.mem_of_getElem? (i := 45) (by decide +kernel))) rfl
theorem ms_X10_isAnswered : Cond.selects mX10_isAnswered.1.cls mX10_isAnswered.1 mX10_isAnswered.1 ∈ UW := mUW (tq6 (List.mem_of_getElem? (i := 6) (by decide +kernel))) rfl
theorem mo_X10_isAnswered : MOK mX10_isAnswered 4 := ⟨by decide, by decide, by decide +kernel, by decide⟩
theorem mp_X10_isAnswered : plainName mX10_isAnswered.1.cls = true := by decide +kernel
abbrev mX10_isCell : MD := (yX10_isCell, prog_12_method_64_code, 3, (some .boolean))
theorem mw_X10_isCell : MW mX10_isCell := ⟨mUW (tp7 (List.mem_of_getElem? (i := 87) (by decide +kernel))) rfl, mUW (tp1 (List.mem_of_getElem? (i := 11) (by decide +kernel))) rfl⟩
theorem mi_X10_isCell : Cond.instanceMethod mX10_isCell.1 ∈ UW := mUW (tp7 (List.mem_of_getElem? (i := 86) (by decide +kernel))) rfl
theorem ms_X10_isCell : Cond.selects mX10_isCell.1.cls mX10_isCell.1 mX10_isCell.1 ∈ UW := mUW (tq6 (List.mem_of_getElem? (i := 13) (by decide +kernel))) rfl
theorem mo_X10_isCell : MOK mX10_isCell 1 := ⟨by decide, by decide, by decide +kernel, by decide⟩
theorem mp_X10_isCell : plainName mX10_isCell.1.cls = true := by decide +kernel
abbrev mX10_isDigit : MD := (yX10_isDigit, prog_12_method_8_code, 1, (some .boolean))
theorem mw_X10_isDigit : MW mX10_isDigit := ⟨mUW (tp6 (List.mem_of_getElem? (i := 122) (by decide +kernel))) rfl, mUW (tp1 (List.mem_of_getElem? (i := 11) (by decide +kernel))) rfl⟩
theorem mt_X10_isDigit : Cond.static mX10_isDigit.1 ∈ UW := mUW (tp6 (List.mem_of_getElem? (i := 121) (by decide +kernel))) rfl
theorem mo_X10_isDigit : MOK mX10_isDigit 1 := ⟨by decide, by decide, by decide +kernel, by decide⟩
theorem mp_X10_isDigit : plainName mX10_isDigit.1.cls = true := by decide +kernel
abbrev mX10_isHeard : MD := (yX10_isHeard, prog_12_method_101_code, 5, (some .boolean))
theorem mw_X10_isHeard : MW mX10_isHeard := ⟨mUW (tp8 (List.mem_of_getElem? (i := 25) (by decide +kernel))) rfl, mUW (tp1 (List.mem_of_getElem? (i := 11) (by decide +kernel))) rfl⟩
theorem mi_X10_isHeard : Cond.instanceMethod mX10_isHeard.1 ∈ UW := mUW (tp8 (List.mem_of_getElem? (i := 24) (by decide +kernel))) rfl
theorem ms_X10_isHeard : Cond.selects mX10_isHeard.1.cls mX10_isHeard.1 mX10_isHeard.1 ∈ UW := mUW (tq8 (List.mem_of_getElem? (i := 2) (by decide +kernel))) rfl
theorem mo_X10_isHeard : MOK mX10_isHeard 2 := ⟨by decide, by decide, by decide +kernel, by decide⟩
theorem mp_X10_isHeard : plainName mX10_isHeard.1.cls = true := by decide +kernel
abbrev mX10_isIn : MD := (yX10_isIn, prog_12_method_15_code, 3, (some .boolean))
theorem mw_X10_isIn : MW mX10_isIn := ⟨mUW (tp7 (List.mem_of_getElem? (i := 30) (by decide +kernel))) rfl, mUW (tp1 (List.mem_of_getElem? (i := 11) (by decide +kernel))) rfl⟩
theorem mt_X10_isIn : Cond.static mX10_isIn.1 ∈ UW := mUW (tp7 (List.mem_of_getElem? (i := 29) (by decide +kernel))) rfl
theorem mo_X10_isIn : MOK mX10_isIn 2 := ⟨by decide, by decide, by decide +kernel, by decide⟩
theorem mp_X10_isIn : plainName mX10_isIn.1.cls = true := by decide +kernel
abbrev mX10_isNaming : MD := (yX10_isNaming, prog_12_method_63_code, 3, (some .boolean))
theorem mw_X10_isNaming : MW mX10_isNaming := ⟨mUW (tp7 (List.mem_of_getElem? (i := 75) (by decide +kernel))) rfl, mUW (tp1 (List.mem_of_getElem? (i := 11) (by decide +kernel))) rfl⟩
theorem mi_X10_isNaming : Cond.instanceMethod mX10_isNaming.1 ∈ UW := mUW (tp7 (List.mem_of_getElem? (i := 74) (by decide +kernel))) rfl
theorem ms_X10_isNaming : Cond.selects mX10_isNaming.1.cls mX10_isNaming.1 mX10_isNaming.1 ∈ UW := mUW (tq6 (List.mem_of_getElem? (i := 11) (by decide +kernel))) rfl
theorem mo_X10_isNaming : MOK mX10_isNaming 1 := ⟨by decide, by decide, by decide +kernel, by decide⟩
theorem mp_X10_isNaming : plainName mX10_isNaming.1.cls = true := by decide +kernel
abbrev mX10_isPerson : MD := (yX10_isPerson, prog_12_method_35_code, 3, (some .boolean))
theorem mw_X10_isPerson : MW mX10_isPerson := ⟨mUW (tp6 (List.mem_of_getElem? (i := 215) (by decide +kernel))) rfl, mUW (tp1 (List.mem_of_getElem? (i := 11) (by decide +kernel))) rfl⟩
theorem mi_X10_isPerson : Cond.instanceMethod mX10_isPerson.1 ∈ UW := mUW (tp6 (List.mem_of_getElem? (i := 214) (by decide +kernel))) rfl
theorem ms_X10_isPerson : Cond.selects mX10_isPerson.1.cls mX10_isPerson.1 mX10_isPerson.1 ∈ UW := mUW (tq5 (List.mem_of_getElem? (i := 10) (by decide +kernel))) rfl
theorem mo_X10_isPerson : MOK mX10_isPerson 1 := ⟨by decide, by decide, by decide +kernel, by decide⟩
theorem mp_X10_isPerson : plainName mX10_isPerson.1.cls = true := by decide +kernel
abbrev mX10_isSilent : MD := (yX10_isSilent, prog_12_method_97_code, 5, (some .boolean))
theorem mw_X10_isSilent : MW mX10_isSilent := ⟨mUW (tp8 (List.mem_of_getElem? (i := 8) (by decide +kernel))) rfl, mUW (tp1 (List.mem_of_getElem? (i := 11) (by decide +kernel))) rfl⟩
theorem mi_X10_isSilent : Cond.instanceMethod mX10_isSilent.1 ∈ UW := mUW (tp8 (List.mem_of_getElem? (i := 7) (by decide +kernel))) rfl
theorem ms_X10_isSilent : Cond.selects mX10_isSilent.1.cls mX10_isSilent.1 mX10_isSilent.1 ∈ UW := mUW (tq7 (List.mem_of_getElem? (i := 15) (by decide +kernel))) rfl
theorem mo_X10_isSilent : MOK mX10_isSilent 3 := ⟨by decide, by decide, by decide +kernel, by decide⟩
theorem mp_X10_isSilent : plainName mX10_isSilent.1.cls = true := by decide +kernel
abbrev mX10_isSmall : MD := (yX10_isSmall, prog_12_method_7_code, 1, (some .boolean))
theorem mw_X10_isSmall : MW mX10_isSmall := ⟨mUW (tp6 (List.mem_of_getElem? (i := 112) (by decide +kernel))) rfl, mUW (tp1 (List.mem_of_getElem? (i := 11) (by decide +kernel))) rfl⟩
theorem mt_X10_isSmall : Cond.static mX10_isSmall.1 ∈ UW := mUW (tp6 (List.mem_of_getElem? (i := 111) (by decide +kernel))) rfl
theorem mo_X10_isSmall : MOK mX10_isSmall 1 := ⟨by decide, by decide, by decide +kernel, by decide⟩
theorem mp_X10_isSmall : plainName mX10_isSmall.1.cls = true := by decide +kernel
abbrev mX10_isTimed : MD := (yX10_isTimed, prog_12_method_107_code, 4, (some .boolean))
theorem mw_X10_isTimed : MW mX10_isTimed := ⟨mUW (tp8 (List.mem_of_getElem? (i := 46) (by decide +kernel))) rfl, mUW (tp1 (List.mem_of_getElem? (i := 11) (by decide +kernel))) rfl⟩
theorem mi_X10_isTimed : Cond.instanceMethod mX10_isTimed.1 ∈ UW := mUW (tp8 (List.mem_of_getElem? (i := 45) (by decide +kernel))) rfl
theorem ms_X10_isTimed : Cond.selects mX10_isTimed.1.cls mX10_isTimed.1 mX10_isTimed.1 ∈ UW := mUW (tq8 (List.mem_of_getElem? (i := 4) (by decide +kernel))) rfl
theorem mo_X10_isTimed : MOK mX10_isTimed 2 := ⟨by decide, by decide, by decide +kernel, by decide⟩
theorem mp_X10_isTimed : plainName mX10_isTimed.1.cls = true := by decide +kernel
abbrev mX10_judge : MD := (yX10_judge, prog_12_method_74_code, 5, (some .int))
theorem mw_X10_judge : MW mX10_judge := ⟨mUW (tp7 (List.mem_of_getElem? (i := 105) (by decide +kernel))) rfl, mUW (tp1 (List.mem_of_getElem? (i := 11) (by decide +kernel))) rfl⟩
theorem mi_X10_judge : Cond.instanceMethod mX10_judge.1 ∈ UW := mUW (tp7 (List.mem_of_getElem? (i := 103) (by decide +kernel))) rfl
theorem ms_X10_judge : Cond.selects mX10_judge.1.cls mX10_judge.1 mX10_judge.1 ∈ UW := mUW (tp7 (List.mem_of_getElem? (i := 104) (by decide +kernel))) rfl
theorem mo_X10_judge : MOK mX10_judge 2 := ⟨by decide, by decide, by decide +kernel, by decide⟩
theorem mp_X10_judge : plainName mX10_judge.1.cls = true := by decide +kernel
abbrev mX10_kept : MD := (yX10_kept, prog_12_method_42_code, 3, (some .int))
theorem mw_X10_kept : MW mX10_kept := ⟨mUW (tp7 (List.mem_of_getElem? (i := 6) (by decide +kernel))) rfl, mUW (tp1 (List.mem_of_getElem? (i := 11) (by decide +kernel))) rfl⟩
theorem mt_X10_kept : Cond.static mX10_kept.1 ∈ UW := mUW (tp7 (List.mem_of_getElem? (i := 5) (by decide +kernel))) rfl
theorem mo_X10_kept : MOK mX10_kept 3 := ⟨by decide, by decide, by decide +kernel, by decide⟩
theorem mp_X10_kept : plainName mX10_kept.1.cls = true := by decide +kernel
abbrev mX10_keyAt : MD := (yX10_keyAt, prog_12_method_9_code, 4, (some .int))
theorem mw_X10_keyAt : MW mX10_keyAt := ⟨mUW (tp6 (List.mem_of_getElem? (i := 116) (by decide +kernel))) rfl, mUW (tp1 (List.mem_of_getElem? (i := 11) (by decide +kernel))) rfl⟩
theorem mi_X10_keyAt : Cond.instanceMethod mX10_keyAt.1 ∈ UW := mUW (tp6 (List.mem_of_getElem? (i := 115) (by decide +kernel))) rfl
theorem ms_X10_keyAt : Cond.selects mX10_keyAt.1.cls mX10_keyAt.1 mX10_keyAt.1 ∈ UW := mUW (tq4 (List.mem_of_getElem? (i := 5) (by decide +kernel))) rfl
theorem mo_X10_keyAt : MOK mX10_keyAt 0 := ⟨by decide, by decide, by decide +kernel, by decide⟩
theorem mp_X10_keyAt : plainName mX10_keyAt.1.cls = true := by decide +kernel
abbrev mX10_laysChances : MD := (yX10_laysChances, prog_12_method_110_code, 6, none)
theorem mw_X10_laysChances : MW mX10_laysChances := ⟨mUW (tp8 (List.mem_of_getElem? (i := 54) (by decide +kernel))) rfl, mUW (tp1 (List.mem_of_getElem? (i := 11) (by decide +kernel))) rfl⟩
theorem mi_X10_laysChances : Cond.instanceMethod mX10_laysChances.1 ∈ UW := mUW (tp8 (List.mem_of_getElem? (i := 53) (by decide +kernel))) rfl
theorem ms_X10_laysChances : Cond.selects mX10_laysChances.1.cls mX10_laysChances.1 mX10_laysChances.1 ∈ UW := mUW (tq8 (List.mem_of_getElem? (i := 5) (by decide +kernel))) rfl
theorem mo_X10_laysChances : MOK mX10_laysChances 0 := ⟨by decide, by decide, by decide +kernel, by decide⟩
theorem mp_X10_laysChances : plainName mX10_laysChances.1.cls = true := by decide +kernel
abbrev mX10_laysDay : MD := (yX10_laysDay, prog_12_method_53_code, 1, none)
theorem mw_X10_laysDay : MW mX10_laysDay := ⟨mUW (tp7 (List.mem_of_getElem? (i := 19) (by decide +kernel))) rfl, mUW (tp1 (List.mem_of_getElem? (i := 11) (by decide +kernel))) rfl⟩
theorem mi_X10_laysDay : Cond.instanceMethod mX10_laysDay.1 ∈ UW := mUW (tp7 (List.mem_of_getElem? (i := 18) (by decide +kernel))) rfl
theorem ms_X10_laysDay : Cond.selects mX10_laysDay.1.cls mX10_laysDay.1 mX10_laysDay.1 ∈ UW := mUW (tq6 (List.mem_of_getElem? (i := 0) (by decide +kernel))) rfl
theorem mo_X10_laysDay : MOK mX10_laysDay 0 := ⟨by decide, by decide, by decide +kernel, by decide⟩
theorem mp_X10_laysDay : plainName mX10_laysDay.1.cls = true := by decide +kernel
abbrev mX10_laysGaps : MD := (yX10_laysGaps, prog_12_method_48_code, 2, none)
theorem mw_X10_laysGaps : MW mX10_laysGaps := ⟨mUW (tp7 (List.mem_of_getElem? (i := 23) (by decide +kernel))) rfl, mUW (tp1 (List.mem_of_getElem? (i := 11) (by decide +kernel))) rfl⟩
theorem mi_X10_laysGaps : Cond.instanceMethod mX10_laysGaps.1 ∈ UW := mUW (tp7 (List.mem_of_getElem? (i := 22) (by decide +kernel))) rfl
theorem ms_X10_laysGaps : Cond.selects mX10_laysGaps.1.cls mX10_laysGaps.1 mX10_laysGaps.1 ∈ UW := mUW (tq6 (List.mem_of_getElem? (i := 1) (by decide +kernel))) rfl
theorem mo_X10_laysGaps : MOK mX10_laysGaps 0 := ⟨by decide, by decide, by decide +kernel, by decide⟩
theorem mp_X10_laysGaps : plainName mX10_laysGaps.1.cls = true := by decide +kernel
abbrev mX10_laysSilence : MD := (yX10_laysSilence, prog_12_method_98_code, 4, none)
theorem mw_X10_laysSilence : MW mX10_laysSilence := ⟨mUW (tp8 (List.mem_of_getElem? (i := 4) (by decide +kernel))) rfl, mUW (tp1 (List.mem_of_getElem? (i := 11) (by decide +kernel))) rfl⟩
theorem mi_X10_laysSilence : Cond.instanceMethod mX10_laysSilence.1 ∈ UW := mUW (tp8 (List.mem_of_getElem? (i := 3) (by decide +kernel))) rfl
theorem ms_X10_laysSilence : Cond.selects mX10_laysSilence.1.cls mX10_laysSilence.1 mX10_laysSilence.1 ∈ UW := mUW (tq7 (List.mem_of_getElem? (i := 14) (by decide +kernel))) rfl
theorem mo_X10_laysSilence : MOK mX10_laysSilence 1 := ⟨by decide, by decide, by decide +kernel, by decide⟩
theorem mp_X10_laysSilence : plainName mX10_laysSilence.1.cls = true := by decide +kernel
abbrev mX10_laysTold : MD := (yX10_laysTold, prog_12_method_49_code, 3, none)
theorem mw_X10_laysTold : MW mX10_laysTold := ⟨mUW (tp7 (List.mem_of_getElem? (i := 27) (by decide +kernel))) rfl, mUW (tp1 (List.mem_of_getElem? (i := 11) (by decide +kernel))) rfl⟩
theorem mi_X10_laysTold : Cond.instanceMethod mX10_laysTold.1 ∈ UW := mUW (tp7 (List.mem_of_getElem? (i := 26) (by decide +kernel))) rfl
theorem ms_X10_laysTold : Cond.selects mX10_laysTold.1.cls mX10_laysTold.1 mX10_laysTold.1 ∈ UW := mUW (tq6 (List.mem_of_getElem? (i := 2) (by decide +kernel))) rfl
theorem mo_X10_laysTold : MOK mX10_laysTold 1 := ⟨by decide, by decide, by decide +kernel, by decide⟩
theorem mp_X10_laysTold : plainName mX10_laysTold.1.cls = true := by decide +kernel
abbrev mX10_lists : MD := (yX10_lists, prog_12_method_119_code, 7, (some .int))
theorem mw_X10_lists : MW mX10_lists := ⟨mUW (tp8 (List.mem_of_getElem? (i := 88) (by decide +kernel))) rfl, mUW (tp1 (List.mem_of_getElem? (i := 11) (by decide +kernel))) rfl⟩
theorem mi_X10_lists : Cond.instanceMethod mX10_lists.1 ∈ UW := mUW (tp8 (List.mem_of_getElem? (i := 86) (by decide +kernel))) rfl
theorem ms_X10_lists : Cond.selects mX10_lists.1.cls mX10_lists.1 mX10_lists.1 ∈ UW := mUW (tp8 (List.mem_of_getElem? (i := 87) (by decide +kernel))) rfl
theorem mo_X10_lists : MOK mX10_lists 2 := ⟨by decide, by decide, by decide +kernel, by decide⟩
theorem mp_X10_lists : plainName mX10_lists.1.cls = true := by decide +kernel
abbrev mX10_mean : MD := (yX10_mean, prog_12_method_114_code, 3, (some .long))
theorem mw_X10_mean : MW mX10_mean := ⟨mUW (tp8 (List.mem_of_getElem? (i := 67) (by decide +kernel))) rfl, mUW (tp1 (List.mem_of_getElem? (i := 11) (by decide +kernel))) rfl⟩
theorem mi_X10_mean : Cond.instanceMethod mX10_mean.1 ∈ UW := mUW (tp8 (List.mem_of_getElem? (i := 65) (by decide +kernel))) rfl
theorem ms_X10_mean : Cond.selects mX10_mean.1.cls mX10_mean.1 mX10_mean.1 ∈ UW := mUW (tp8 (List.mem_of_getElem? (i := 66) (by decide +kernel))) rfl
theorem mo_X10_mean : MOK mX10_mean 2 := ⟨by decide, by decide, by decide +kernel, by decide⟩
theorem mp_X10_mean : plainName mX10_mean.1.cls = true := by decide +kernel
abbrev mX10_minute : MD := (yX10_minute, prog_12_method_82_code, 3, (some .int))
theorem mw_X10_minute : MW mX10_minute := ⟨mUW (tp7 (List.mem_of_getElem? (i := 173) (by decide +kernel))) rfl, mUW (tp1 (List.mem_of_getElem? (i := 11) (by decide +kernel))) rfl⟩
theorem mi_X10_minute : Cond.instanceMethod mX10_minute.1 ∈ UW := mUW (tp7 (List.mem_of_getElem? (i := 171) (by decide +kernel))) rfl
theorem ms_X10_minute : Cond.selects mX10_minute.1.cls mX10_minute.1 mX10_minute.1 ∈ UW := mUW (tp7 (List.mem_of_getElem? (i := 172) (by decide +kernel))) rfl
theorem mo_X10_minute : MOK mX10_minute 2 := ⟨by decide, by decide, by decide +kernel, by decide⟩
theorem mp_X10_minute : plainName mX10_minute.1.cls = true := by decide +kernel
abbrev mX10_minuteAt : MD := (yX10_minuteAt, prog_12_method_81_code, 5, (some .int))
theorem mw_X10_minuteAt : MW mX10_minuteAt := ⟨mUW (tp7 (List.mem_of_getElem? (i := 177) (by decide +kernel))) rfl, mUW (tp1 (List.mem_of_getElem? (i := 11) (by decide +kernel))) rfl⟩
theorem mi_X10_minuteAt : Cond.instanceMethod mX10_minuteAt.1 ∈ UW := mUW (tp7 (List.mem_of_getElem? (i := 176) (by decide +kernel))) rfl
theorem ms_X10_minuteAt : Cond.selects mX10_minuteAt.1.cls mX10_minuteAt.1 mX10_minuteAt.1 ∈ UW := mUW (tq7 (List.mem_of_getElem? (i := 8) (by decide +kernel))) rfl
theorem mo_X10_minuteAt : MOK mX10_minuteAt 2 := ⟨by decide, by decide, by decide +kernel, by decide⟩
theorem mp_X10_minuteAt : plainName mX10_minuteAt.1.cls = true := by decide +kernel
abbrev mX10_mostOften : MD := (yX10_mostOften, prog_12_method_105_code, 8, (some .int))
theorem mw_X10_mostOften : MW mX10_mostOften := ⟨mUW (tp8 (List.mem_of_getElem? (i := 37) (by decide +kernel))) rfl, mUW (tp1 (List.mem_of_getElem? (i := 11) (by decide +kernel))) rfl⟩
theorem mi_X10_mostOften : Cond.instanceMethod mX10_mostOften.1 ∈ UW := mUW (tp8 (List.mem_of_getElem? (i := 36) (by decide +kernel))) rfl
theorem ms_X10_mostOften : Cond.selects mX10_mostOften.1.cls mX10_mostOften.1 mX10_mostOften.1 ∈ UW := mUW (tq8 (List.mem_of_getElem? (i := 3) (by decide +kernel))) rfl
theorem mo_X10_mostOften : MOK mX10_mostOften 3 := ⟨by decide, by decide, by decide +kernel, by decide⟩
theorem mp_X10_mostOften : plainName mX10_mostOften.1.cls = true := by decide +kernel
abbrev mX10_move : MD := (yX10_move, prog_12_method_67_code, 3, (some .int))
theorem mw_X10_move : MW mX10_move := ⟨mUW (tp7 (List.mem_of_getElem? (i := 83) (by decide +kernel))) rfl, mUW (tp1 (List.mem_of_getElem? (i := 11) (by decide +kernel))) rfl⟩
theorem mi_X10_move : Cond.instanceMethod mX10_move.1 ∈ UW := mUW (tp7 (List.mem_of_getElem? (i := 81) (by decide +kernel))) rfl
theorem ms_X10_move : Cond.selects mX10_move.1.cls mX10_move.1 mX10_move.1 ∈ UW := mUW (tp7 (List.mem_of_getElem? (i := 82) (by decide +kernel))) rfl
theorem mo_X10_move : MOK mX10_move 2 := ⟨by decide, by decide, by decide +kernel, by decide⟩
theorem mp_X10_move : plainName mX10_move.1.cls = true := by decide +kernel
abbrev mX10_naming : MD := (yX10_naming, prog_12_method_56_code, 3, (some .int))
theorem mw_X10_naming : MW mX10_naming := ⟨mUW (tp7 (List.mem_of_getElem? (i := 14) (by decide +kernel))) rfl, mUW (tp1 (List.mem_of_getElem? (i := 11) (by decide +kernel))) rfl⟩
theorem mi_X10_naming : Cond.instanceMethod mX10_naming.1 ∈ UW := mUW (tp7 (List.mem_of_getElem? (i := 12) (by decide +kernel))) rfl
theorem ms_X10_naming : Cond.selects mX10_naming.1.cls mX10_naming.1 mX10_naming.1 ∈ UW := mUW (tp7 (List.mem_of_getElem? (i := 13) (by decide +kernel))) rfl
theorem mo_X10_naming : MOK mX10_naming 2 := ⟨by decide, by decide, by decide +kernel, by decide⟩
theorem mp_X10_naming : plainName mX10_naming.1.cls = true := by decide +kernel
abbrev mX10_next : MD := (yX10_next, prog_12_method_10_code, 2, none)
theorem mw_X10_next : MW mX10_next := ⟨mUW (tp6 (List.mem_of_getElem? (i := 105) (by decide +kernel))) rfl, mUW (tp1 (List.mem_of_getElem? (i := 11) (by decide +kernel))) rfl⟩
theorem mi_X10_next : Cond.instanceMethod mX10_next.1 ∈ UW := mUW (tp6 (List.mem_of_getElem? (i := 104) (by decide +kernel))) rfl
theorem ms_X10_next : Cond.selects mX10_next.1.cls mX10_next.1 mX10_next.1 ∈ UW := mUW (tq4 (List.mem_of_getElem? (i := 3) (by decide +kernel))) rfl
theorem mo_X10_next : MOK mX10_next 0 := ⟨by decide, by decide, by decide +kernel, by decide⟩
theorem mp_X10_next : plainName mX10_next.1.cls = true := by decide +kernel
abbrev mX10_noHeard : MD := (yX10_noHeard, prog_12_method_100_code, 7, (some .int))
theorem mw_X10_noHeard : MW mX10_noHeard := ⟨mUW (tp8 (List.mem_of_getElem? (i := 16) (by decide +kernel))) rfl, mUW (tp1 (List.mem_of_getElem? (i := 11) (by decide +kernel))) rfl⟩
theorem mi_X10_noHeard : Cond.instanceMethod mX10_noHeard.1 ∈ UW := mUW (tp8 (List.mem_of_getElem? (i := 15) (by decide +kernel))) rfl
theorem ms_X10_noHeard : Cond.selects mX10_noHeard.1.cls mX10_noHeard.1 mX10_noHeard.1 ∈ UW := mUW (tq8 (List.mem_of_getElem? (i := 0) (by decide +kernel))) rfl
theorem mo_X10_noHeard : MOK mX10_noHeard 2 := ⟨by decide, by decide, by decide +kernel, by decide⟩
theorem mp_X10_noHeard : plainName mX10_noHeard.1.cls = true := by decide +kernel
abbrev mX10_noStop : MD := (yX10_noStop, prog_12_method_91_code, 3, (some .int))
theorem mw_X10_noStop : MW mX10_noStop := ⟨mUW (tp7 (List.mem_of_getElem? (i := 210) (by decide +kernel))) rfl, mUW (tp1 (List.mem_of_getElem? (i := 11) (by decide +kernel))) rfl⟩
theorem mi_X10_noStop : Cond.instanceMethod mX10_noStop.1 ∈ UW := mUW (tp7 (List.mem_of_getElem? (i := 209) (by decide +kernel))) rfl
theorem ms_X10_noStop : Cond.selects mX10_noStop.1.cls mX10_noStop.1 mX10_noStop.1 ∈ UW := mUW (tq7 (List.mem_of_getElem? (i := 10) (by decide +kernel))) rfl
theorem mo_X10_noStop : MOK mX10_noStop 2 := ⟨by decide, by decide, by decide +kernel, by decide⟩
theorem mp_X10_noStop : plainName mX10_noStop.1.cls = true := by decide +kernel
abbrev mX10_noTray : MD := (yX10_noTray, prog_12_method_73_code, 2, (some .int))
theorem mw_X10_noTray : MW mX10_noTray := ⟨mUW (tp7 (List.mem_of_getElem? (i := 110) (by decide +kernel))) rfl, mUW (tp1 (List.mem_of_getElem? (i := 11) (by decide +kernel))) rfl⟩
theorem mi_X10_noTray : Cond.instanceMethod mX10_noTray.1 ∈ UW := mUW (tp7 (List.mem_of_getElem? (i := 109) (by decide +kernel))) rfl
theorem ms_X10_noTray : Cond.selects mX10_noTray.1.cls mX10_noTray.1 mX10_noTray.1 ∈ UW := mUW (tq6 (List.mem_of_getElem? (i := 15) (by decide +kernel))) rfl
theorem mo_X10_noTray : MOK mX10_noTray 1 := ⟨by decide, by decide, by decide +kernel, by decide⟩
theorem mp_X10_noTray : plainName mX10_noTray.1.cls = true := by decide +kernel
abbrev mX10_nobodies : MD := (yX10_nobodies, prog_12_method_55_code, 3, (some .int))
theorem mw_X10_nobodies : MW mX10_nobodies := ⟨mUW (tp7 (List.mem_of_getElem? (i := 139) (by decide +kernel))) rfl, mUW (tp1 (List.mem_of_getElem? (i := 11) (by decide +kernel))) rfl⟩
theorem mi_X10_nobodies : Cond.instanceMethod mX10_nobodies.1 ∈ UW := mUW (tp7 (List.mem_of_getElem? (i := 138) (by decide +kernel))) rfl
theorem ms_X10_nobodies : Cond.selects mX10_nobodies.1.cls mX10_nobodies.1 mX10_nobodies.1 ∈ UW := mUW (tq7 (List.mem_of_getElem? (i := 4) (by decide +kernel))) rfl
theorem mo_X10_nobodies : MOK mX10_nobodies 0 := ⟨by decide, by decide, by decide +kernel, by decide⟩
theorem mp_X10_nobodies : plainName mX10_nobodies.1.cls = true := by decide +kernel
abbrev mX10_nobody : MD := (yX10_nobody, prog_12_method_87_code, 1, (some .int))
theorem mw_X10_nobody : MW mX10_nobody := ⟨mUW (tp7 (List.mem_of_getElem? (i := 197) (by decide +kernel))) rfl, mUW (tp1 (List.mem_of_getElem? (i := 11) (by decide +kernel))) rfl⟩
theorem mi_X10_nobody : Cond.instanceMethod mX10_nobody.1 ∈ UW := mUW (tp7 (List.mem_of_getElem? (i := 195) (by decide +kernel))) rfl
theorem ms_X10_nobody : Cond.selects mX10_nobody.1.cls mX10_nobody.1 mX10_nobody.1 ∈ UW := mUW (tp7 (List.mem_of_getElem? (i := 196) (by decide +kernel))) rfl
theorem mo_X10_nobody : MOK mX10_nobody 0 := ⟨by decide, by decide, by decide +kernel, by decide⟩
theorem mp_X10_nobody : plainName mX10_nobody.1.cls = true := by decide +kernel
abbrev mX10_notes : MD := (yX10_notes, prog_12_method_59_code, 2, none)
theorem mw_X10_notes : MW mX10_notes := ⟨mUW (tp7 (List.mem_of_getElem? (i := 67) (by decide +kernel))) rfl, mUW (tp1 (List.mem_of_getElem? (i := 11) (by decide +kernel))) rfl⟩
theorem mi_X10_notes : Cond.instanceMethod mX10_notes.1 ∈ UW := mUW (tp7 (List.mem_of_getElem? (i := 66) (by decide +kernel))) rfl
theorem ms_X10_notes : Cond.selects mX10_notes.1.cls mX10_notes.1 mX10_notes.1 ∈ UW := mUW (tq6 (List.mem_of_getElem? (i := 10) (by decide +kernel))) rfl
theorem mo_X10_notes : MOK mX10_notes 0 := ⟨by decide, by decide, by decide +kernel, by decide⟩
theorem mp_X10_notes : plainName mX10_notes.1.cls = true := by decide +kernel
abbrev mX10_numbers : MD := (yX10_numbers, prog_12_method_117_code, 5, (some .int))
theorem mw_X10_numbers : MW mX10_numbers := ⟨mUW (tp8 (List.mem_of_getElem? (i := 76) (by decide +kernel))) rfl, mUW (tp1 (List.mem_of_getElem? (i := 11) (by decide +kernel))) rfl⟩
theorem mi_X10_numbers : Cond.instanceMethod mX10_numbers.1 ∈ UW := mUW (tp8 (List.mem_of_getElem? (i := 74) (by decide +kernel))) rfl
theorem ms_X10_numbers : Cond.selects mX10_numbers.1.cls mX10_numbers.1 mX10_numbers.1 ∈ UW := mUW (tp8 (List.mem_of_getElem? (i := 75) (by decide +kernel))) rfl
theorem mo_X10_numbers : MOK mX10_numbers 3 := ⟨by decide, by decide, by decide +kernel, by decide⟩
theorem mp_X10_numbers : plainName mX10_numbers.1.cls = true := by decide +kernel
abbrev mX10_oneGap : MD := (yX10_oneGap, prog_12_method_95_code, 6, (some .int))
theorem mw_X10_oneGap : MW mX10_oneGap := ⟨mUW (tp7 (List.mem_of_getElem? (i := 235) (by decide +kernel))) rfl, mUW (tp1 (List.mem_of_getElem? (i := 11) (by decide +kernel))) rfl⟩
theorem mi_X10_oneGap : Cond.instanceMethod mX10_oneGap.1 ∈ UW := mUW (tp7 (List.mem_of_getElem? (i := 234) (by decide +kernel))) rfl
theorem ms_X10_oneGap : Cond.selects mX10_oneGap.1.cls mX10_oneGap.1 mX10_oneGap.1 ∈ UW := mUW (tq7 (List.mem_of_getElem? (i := 13) (by decide +kernel))) rfl
theorem mo_X10_oneGap : MOK mX10_oneGap 2 := ⟨by decide, by decide, by decide +kernel, by decide⟩
theorem mp_X10_oneGap : plainName mX10_oneGap.1.cls = true := by decide +kernel
abbrev mX10_part : MD := (yX10_part, prog_12_method_112_code, 5, (some .long))
theorem mw_X10_part : MW mX10_part := ⟨mUW (tp8 (List.mem_of_getElem? (i := 60) (by decide +kernel))) rfl, mUW (tp1 (List.mem_of_getElem? (i := 11) (by decide +kernel))) rfl⟩
theorem mt_X10_part : Cond.static mX10_part.1 ∈ UW := mUW (tp8 (List.mem_of_getElem? (i := 59) (by decide +kernel))) rfl
theorem mo_X10_part : MOK mX10_part 3 := ⟨by decide, by decide, by decide +kernel, by decide⟩
theorem mp_X10_part : plainName mX10_part.1.cls = true := by decide +kernel
abbrev mX10_perform : MD := (yX10_perform, prog_12_method_75_code, 4, (some .int))
theorem mw_X10_perform : MW mX10_perform := ⟨mUW (tp7 (List.mem_of_getElem? (i := 143) (by decide +kernel))) rfl, mUW (tp1 (List.mem_of_getElem? (i := 11) (by decide +kernel))) rfl⟩
theorem mi_X10_perform : Cond.instanceMethod mX10_perform.1 ∈ UW := mUW (tp7 (List.mem_of_getElem? (i := 141) (by decide +kernel))) rfl
theorem ms_X10_perform : Cond.selects mX10_perform.1.cls mX10_perform.1 mX10_perform.1 ∈ UW := mUW (tp7 (List.mem_of_getElem? (i := 142) (by decide +kernel))) rfl
theorem mo_X10_perform : MOK mX10_perform 1 := ⟨by decide, by decide, by decide +kernel, by decide⟩
theorem mp_X10_perform : plainName mX10_perform.1.cls = true := by decide +kernel
abbrev mX10_person : MD := (yX10_person, prog_12_method_46_code, 3, (some .int))
theorem mw_X10_person : MW mX10_person := ⟨mUW (tp6 (List.mem_of_getElem? (i := 211) (by decide +kernel))) rfl, mUW (tp1 (List.mem_of_getElem? (i := 11) (by decide +kernel))) rfl⟩
theorem mi_X10_person : Cond.instanceMethod mX10_person.1 ∈ UW := mUW (tp6 (List.mem_of_getElem? (i := 209) (by decide +kernel))) rfl
theorem ms_X10_person : Cond.selects mX10_person.1.cls mX10_person.1 mX10_person.1 ∈ UW := mUW (tp6 (List.mem_of_getElem? (i := 210) (by decide +kernel))) rfl
theorem mo_X10_person : MOK mX10_person 2 := ⟨by decide, by decide, by decide +kernel, by decide⟩
theorem mp_X10_person : plainName mX10_person.1.cls = true := by decide +kernel
abbrev mX10_pitchOf : MD := (yX10_pitchOf, prog_12_method_44_code, 3, (some .int))
theorem mw_X10_pitchOf : MW mX10_pitchOf := ⟨mUW (tp7 (List.mem_of_getElem? (i := 10) (by decide +kernel))) rfl, mUW (tp1 (List.mem_of_getElem? (i := 11) (by decide +kernel))) rfl⟩
theorem mi_X10_pitchOf : Cond.instanceMethod mX10_pitchOf.1 ∈ UW := mUW (tp7 (List.mem_of_getElem? (i := 9) (by decide +kernel))) rfl
theorem ms_X10_pitchOf : Cond.selects mX10_pitchOf.1.cls mX10_pitchOf.1 mX10_pitchOf.1 ∈ UW := mUW (tq5 (List.mem_of_getElem? (i := 15) (by decide +kernel))) rfl
theorem mo_X10_pitchOf : MOK mX10_pitchOf 2 := ⟨by decide, by decide, by decide +kernel, by decide⟩
theorem mp_X10_pitchOf : plainName mX10_pitchOf.1.cls = true := by decide +kernel
abbrev mX10_plain : MD := (yX10_plain, prog_12_method_4_code, 2, none)
theorem mw_X10_plain : MW mX10_plain := ⟨mUW (tp5 (List.mem_of_getElem? (i := 182) (by decide +kernel))) rfl, mUW (tp1 (List.mem_of_getElem? (i := 11) (by decide +kernel))) rfl⟩
theorem mt_X10_plain : Cond.static mX10_plain.1 ∈ UW := mUW (tp5 (List.mem_of_getElem? (i := 181) (by decide +kernel))) rfl
theorem mo_X10_plain : MOK mX10_plain 1 := ⟨by decide, by decide, by decide +kernel, by decide⟩
theorem mp_X10_plain : plainName mX10_plain.1.cls = true := by decide +kernel
abbrev mX10_quiet : MD := (yX10_quiet, prog_12_method_94_code, 8, (some .int))
theorem mw_X10_quiet : MW mX10_quiet := ⟨mUW (tp7 (List.mem_of_getElem? (i := 226) (by decide +kernel))) rfl, mUW (tp1 (List.mem_of_getElem? (i := 11) (by decide +kernel))) rfl⟩
theorem mi_X10_quiet : Cond.instanceMethod mX10_quiet.1 ∈ UW := mUW (tp7 (List.mem_of_getElem? (i := 224) (by decide +kernel))) rfl
theorem ms_X10_quiet : Cond.selects mX10_quiet.1.cls mX10_quiet.1 mX10_quiet.1 ∈ UW := mUW (tp7 (List.mem_of_getElem? (i := 225) (by decide +kernel))) rfl
theorem mo_X10_quiet : MOK mX10_quiet 2 := ⟨by decide, by decide, by decide +kernel, by decide⟩
theorem mp_X10_quiet : plainName mX10_quiet.1.cls = true := by decide +kernel
abbrev mX10_readAtom : MD := (yX10_readAtom, prog_12_method_19_code, 2, none)
theorem mw_X10_readAtom : MW mX10_readAtom := ⟨mUW (tp6 (List.mem_of_getElem? (i := 195) (by decide +kernel))) rfl, mUW (tp1 (List.mem_of_getElem? (i := 11) (by decide +kernel))) rfl⟩
theorem mi_X10_readAtom : Cond.instanceMethod mX10_readAtom.1 ∈ UW := mUW (tp6 (List.mem_of_getElem? (i := 194) (by decide +kernel))) rfl
theorem ms_X10_readAtom : Cond.selects mX10_readAtom.1.cls mX10_readAtom.1 mX10_readAtom.1 ∈ UW := mUW (tq5 (List.mem_of_getElem? (i := 7) (by decide +kernel))) rfl
theorem mo_X10_readAtom : MOK mX10_readAtom 1 := ⟨by decide, by decide, by decide +kernel, by decide⟩
theorem mp_X10_readAtom : plainName mX10_readAtom.1.cls = true := by decide +kernel
abbrev mX10_readBoth : MD := (yX10_readBoth, prog_12_method_24_code, 2, none)
theorem mw_X10_readBoth : MW mX10_readBoth := ⟨mUW (tp6 (List.mem_of_getElem? (i := 171) (by decide +kernel))) rfl, mUW (tp1 (List.mem_of_getElem? (i := 11) (by decide +kernel))) rfl⟩
theorem mi_X10_readBoth : Cond.instanceMethod mX10_readBoth.1 ∈ UW := mUW (tp6 (List.mem_of_getElem? (i := 170) (by decide +kernel))) rfl
theorem ms_X10_readBoth : Cond.selects mX10_readBoth.1.cls mX10_readBoth.1 mX10_readBoth.1 ∈ UW := mUW (tq5 (List.mem_of_getElem? (i := 1) (by decide +kernel))) rfl
theorem mo_X10_readBoth : MOK mX10_readBoth 1 := ⟨by decide, by decide, by decide +kernel, by decide⟩
theorem mp_X10_readBoth : plainName mX10_readBoth.1.cls = true := by decide +kernel
abbrev mX10_readFlag : MD := (yX10_readFlag, prog_12_method_26_code, 2, (some .boolean))
theorem mw_X10_readFlag : MW mX10_readFlag := ⟨mUW (tp6 (List.mem_of_getElem? (i := 155) (by decide +kernel))) rfl, mUW (tp1 (List.mem_of_getElem? (i := 11) (by decide +kernel))) rfl⟩
theorem mi_X10_readFlag : Cond.instanceMethod mX10_readFlag.1 ∈ UW := mUW (tp6 (List.mem_of_getElem? (i := 154) (by decide +kernel))) rfl
theorem ms_X10_readFlag : Cond.selects mX10_readFlag.1.cls mX10_readFlag.1 mX10_readFlag.1 ∈ UW := mUW (tq4 (List.mem_of_getElem? (i := 13) (by decide +kernel))) rfl
theorem mo_X10_readFlag : MOK mX10_readFlag 1 := ⟨by decide, by decide, by decide +kernel, by decide⟩
theorem mp_X10_readFlag : plainName mX10_readFlag.1.cls = true := by decide +kernel
abbrev mX10_readIf : MD := (yX10_readIf, prog_12_method_20_code, 2, none)
theorem mw_X10_readIf : MW mX10_readIf := ⟨mUW (tp6 (List.mem_of_getElem? (i := 203) (by decide +kernel))) rfl, mUW (tp1 (List.mem_of_getElem? (i := 11) (by decide +kernel))) rfl⟩
theorem mi_X10_readIf : Cond.instanceMethod mX10_readIf.1 ∈ UW := mUW (tp6 (List.mem_of_getElem? (i := 202) (by decide +kernel))) rfl
theorem ms_X10_readIf : Cond.selects mX10_readIf.1.cls mX10_readIf.1 mX10_readIf.1 ∈ UW := mUW (tq5 (List.mem_of_getElem? (i := 9) (by decide +kernel))) rfl
theorem mo_X10_readIf : MOK mX10_readIf 1 := ⟨by decide, by decide, by decide +kernel, by decide⟩
theorem mp_X10_readIf : plainName mX10_readIf.1.cls = true := by decide +kernel
abbrev mX10_readLaw : MD := (yX10_readLaw, prog_12_method_29_code, 3, none)
theorem mw_X10_readLaw : MW mX10_readLaw := ⟨mUW (tp6 (List.mem_of_getElem? (i := 163) (by decide +kernel))) rfl, mUW (tp1 (List.mem_of_getElem? (i := 11) (by decide +kernel))) rfl⟩
theorem mi_X10_readLaw : Cond.instanceMethod mX10_readLaw.1 ∈ UW := mUW (tp6 (List.mem_of_getElem? (i := 162) (by decide +kernel))) rfl
theorem ms_X10_readLaw : Cond.selects mX10_readLaw.1.cls mX10_readLaw.1 mX10_readLaw.1 ∈ UW := mUW (tq4 (List.mem_of_getElem? (i := 15) (by decide +kernel))) rfl
theorem mo_X10_readLaw : MOK mX10_readLaw 1 := ⟨by decide, by decide, by decide +kernel, by decide⟩
theorem mp_X10_readLaw : plainName mX10_readLaw.1.cls = true := by decide +kernel
abbrev mX10_readLine : MD := (yX10_readLine, prog_12_method_30_code, 1, none)
theorem mw_X10_readLine : MW mX10_readLine := ⟨mUW (tp6 (List.mem_of_getElem? (i := 147) (by decide +kernel))) rfl, mUW (tp1 (List.mem_of_getElem? (i := 11) (by decide +kernel))) rfl⟩
theorem mi_X10_readLine : Cond.instanceMethod mX10_readLine.1 ∈ UW := mUW (tp6 (List.mem_of_getElem? (i := 146) (by decide +kernel))) rfl
theorem ms_X10_readLine : Cond.selects mX10_readLine.1.cls mX10_readLine.1 mX10_readLine.1 ∈ UW := mUW (tq4 (List.mem_of_getElem? (i := 11) (by decide +kernel))) rfl
theorem mo_X10_readLine : MOK mX10_readLine 0 := ⟨by decide, by decide, by decide +kernel, by decide⟩
theorem mp_X10_readLine : plainName mX10_readLine.1.cls = true := by decide +kernel
abbrev mX10_readNames : MD := (yX10_readNames, prog_12_method_28_code, 3, none)
theorem mw_X10_readNames : MW mX10_readNames := ⟨mUW (tp6 (List.mem_of_getElem? (i := 159) (by decide +kernel))) rfl, mUW (tp1 (List.mem_of_getElem? (i := 11) (by decide +kernel))) rfl⟩
theorem mi_X10_readNames : Cond.instanceMethod mX10_readNames.1 ∈ UW := mUW (tp6 (List.mem_of_getElem? (i := 158) (by decide +kernel))) rfl
theorem ms_X10_readNames : Cond.selects mX10_readNames.1.cls mX10_readNames.1 mX10_readNames.1 ∈ UW := mUW (tq4 (List.mem_of_getElem? (i := 14) (by decide +kernel))) rfl
theorem mo_X10_readNames : MOK mX10_readNames 0 := ⟨by decide, by decide, by decide +kernel, by decide⟩
theorem mp_X10_readNames : plainName mX10_readNames.1.cls = true := by decide +kernel
abbrev mX10_readPerson : MD := (yX10_readPerson, prog_12_method_27_code, 2, none)
theorem mw_X10_readPerson : MW mX10_readPerson := ⟨mUW (tp6 (List.mem_of_getElem? (i := 151) (by decide +kernel))) rfl, mUW (tp1 (List.mem_of_getElem? (i := 11) (by decide +kernel))) rfl⟩
theorem mi_X10_readPerson : Cond.instanceMethod mX10_readPerson.1 ∈ UW := mUW (tp6 (List.mem_of_getElem? (i := 150) (by decide +kernel))) rfl
theorem ms_X10_readPerson : Cond.selects mX10_readPerson.1.cls mX10_readPerson.1 mX10_readPerson.1 ∈ UW := mUW (tq4 (List.mem_of_getElem? (i := 12) (by decide +kernel))) rfl
theorem mo_X10_readPerson : MOK mX10_readPerson 0 := ⟨by decide, by decide, by decide +kernel, by decide⟩
theorem mp_X10_readPerson : plainName mX10_readPerson.1.cls = true := by decide +kernel
abbrev mX10_readSum : MD := (yX10_readSum, prog_12_method_22_code, 3, none)
theorem mw_X10_readSum : MW mX10_readSum := ⟨mUW (tp6 (List.mem_of_getElem? (i := 187) (by decide +kernel))) rfl, mUW (tp1 (List.mem_of_getElem? (i := 11) (by decide +kernel))) rfl⟩
theorem mi_X10_readSum : Cond.instanceMethod mX10_readSum.1 ∈ UW := mUW (tp6 (List.mem_of_getElem? (i := 186) (by decide +kernel))) rfl
theorem ms_X10_readSum : Cond.selects mX10_readSum.1.cls mX10_readSum.1 mX10_readSum.1 ∈ UW := mUW (tq5 (List.mem_of_getElem? (i := 5) (by decide +kernel))) rfl
theorem mo_X10_readSum : MOK mX10_readSum 1 := ⟨by decide, by decide, by decide +kernel, by decide⟩
theorem mp_X10_readSum : plainName mX10_readSum.1.cls = true := by decide +kernel
abbrev mX10_readTerm : MD := (yX10_readTerm, prog_12_method_21_code, 2, none)
theorem mw_X10_readTerm : MW mX10_readTerm := ⟨mUW (tp6 (List.mem_of_getElem? (i := 191) (by decide +kernel))) rfl, mUW (tp1 (List.mem_of_getElem? (i := 11) (by decide +kernel))) rfl⟩
theorem mi_X10_readTerm : Cond.instanceMethod mX10_readTerm.1 ∈ UW := mUW (tp6 (List.mem_of_getElem? (i := 190) (by decide +kernel))) rfl
theorem ms_X10_readTerm : Cond.selects mX10_readTerm.1.cls mX10_readTerm.1 mX10_readTerm.1 ∈ UW := mUW (tq5 (List.mem_of_getElem? (i := 6) (by decide +kernel))) rfl
theorem mo_X10_readTerm : MOK mX10_readTerm 1 := ⟨by decide, by decide, by decide +kernel, by decide⟩
theorem mp_X10_readTerm : plainName mX10_readTerm.1.cls = true := by decide +kernel
abbrev mX10_readTruth : MD := (yX10_readTruth, prog_12_method_25_code, 2, none)
theorem mw_X10_readTruth : MW mX10_readTruth := ⟨mUW (tp6 (List.mem_of_getElem? (i := 167) (by decide +kernel))) rfl, mUW (tp1 (List.mem_of_getElem? (i := 11) (by decide +kernel))) rfl⟩
theorem mi_X10_readTruth : Cond.instanceMethod mX10_readTruth.1 ∈ UW := mUW (tp6 (List.mem_of_getElem? (i := 166) (by decide +kernel))) rfl
theorem ms_X10_readTruth : Cond.selects mX10_readTruth.1.cls mX10_readTruth.1 mX10_readTruth.1 ∈ UW := mUW (tq5 (List.mem_of_getElem? (i := 0) (by decide +kernel))) rfl
theorem mo_X10_readTruth : MOK mX10_readTruth 1 := ⟨by decide, by decide, by decide +kernel, by decide⟩
theorem mp_X10_readTruth : plainName mX10_readTruth.1.cls = true := by decide +kernel
abbrev mX10_readUnit : MD := (yX10_readUnit, prog_12_method_23_code, 3, none)
theorem mw_X10_readUnit : MW mX10_readUnit := ⟨mUW (tp6 (List.mem_of_getElem? (i := 175) (by decide +kernel))) rfl, mUW (tp1 (List.mem_of_getElem? (i := 11) (by decide +kernel))) rfl⟩
theorem mi_X10_readUnit : Cond.instanceMethod mX10_readUnit.1 ∈ UW := mUW (tp6 (List.mem_of_getElem? (i := 174) (by decide +kernel))) rfl
theorem ms_X10_readUnit : Cond.selects mX10_readUnit.1.cls mX10_readUnit.1 mX10_readUnit.1 ∈ UW := mUW (tq5 (List.mem_of_getElem? (i := 2) (by decide +kernel))) rfl
theorem mo_X10_readUnit : MOK mX10_readUnit 1 := ⟨by decide, by decide, by decide +kernel, by decide⟩
theorem mp_X10_readUnit : plainName mX10_readUnit.1.cls = true := by decide +kernel
abbrev mX10_reckons : MD := (yX10_reckons, prog_12_method_41_code, 7, (some .int))
theorem mw_X10_reckons : MW mX10_reckons := ⟨mUW (tp6 (List.mem_of_getElem? (i := 231) (by decide +kernel))) rfl, mUW (tp1 (List.mem_of_getElem? (i := 11) (by decide +kernel))) rfl⟩
theorem mi_X10_reckons : Cond.instanceMethod mX10_reckons.1 ∈ UW := mUW (tp6 (List.mem_of_getElem? (i := 230) (by decide +kernel))) rfl
theorem ms_X10_reckons : Cond.selects mX10_reckons.1.cls mX10_reckons.1 mX10_reckons.1 ∈ UW := mUW (tq5 (List.mem_of_getElem? (i := 13) (by decide +kernel))) rfl
theorem mo_X10_reckons : MOK mX10_reckons 3 := ⟨by decide, by decide, by decide +kernel, by decide⟩
theorem mp_X10_reckons : plainName mX10_reckons.1.cls = true := by decide +kernel
abbrev mX10_restore : MD := (yX10_restore, prog_12_method_121_code, 3, (some .int))
theorem mw_X10_restore : MW mX10_restore := ⟨mUW (tp8 (List.mem_of_getElem? (i := 96) (by decide +kernel))) rfl, mUW (tp1 (List.mem_of_getElem? (i := 11) (by decide +kernel))) rfl⟩
theorem mi_X10_restore : Cond.instanceMethod mX10_restore.1 ∈ UW := mUW (tp8 (List.mem_of_getElem? (i := 94) (by decide +kernel))) rfl
theorem ms_X10_restore : Cond.selects mX10_restore.1.cls mX10_restore.1 mX10_restore.1 ∈ UW := mUW (tp8 (List.mem_of_getElem? (i := 95) (by decide +kernel))) rfl
theorem mo_X10_restore : MOK mX10_restore 1 := ⟨by decide, by decide, by decide +kernel, by decide⟩
theorem mp_X10_restore : plainName mX10_restore.1.cls = true := by decide +kernel
abbrev mX10_says : MD := (yX10_says, prog_12_method_51_code, 5, none)
theorem mw_X10_says : MW mX10_says := ⟨mUW (tp7 (List.mem_of_getElem? (i := 42) (by decide +kernel))) rfl, mUW (tp1 (List.mem_of_getElem? (i := 11) (by decide +kernel))) rfl⟩
theorem mi_X10_says : Cond.instanceMethod mX10_says.1 ∈ UW := mUW (tp7 (List.mem_of_getElem? (i := 41) (by decide +kernel))) rfl
theorem ms_X10_says : Cond.selects mX10_says.1.cls mX10_says.1 mX10_says.1 ∈ UW := mUW (tq6 (List.mem_of_getElem? (i := 5) (by decide +kernel))) rfl
theorem mo_X10_says : MOK mX10_says 3 := ⟨by decide, by decide, by decide +kernel, by decide⟩
theorem mp_X10_says : plainName mX10_says.1.cls = true := by decide +kernel
abbrev mX10_see : MD := (yX10_see, prog_12_method_6_code, 2, (some .int))
theorem mw_X10_see : MW mX10_see := ⟨mUW (tp6 (List.mem_of_getElem? (i := 109) (by decide +kernel))) rfl, mUW (tp1 (List.mem_of_getElem? (i := 11) (by decide +kernel))) rfl⟩
theorem mi_X10_see : Cond.instanceMethod mX10_see.1 ∈ UW := mUW (tp6 (List.mem_of_getElem? (i := 108) (by decide +kernel))) rfl
theorem ms_X10_see : Cond.selects mX10_see.1.cls mX10_see.1 mX10_see.1 ∈ UW := mUW (tq4 (List.mem_of_getElem? (i := 4) (by decide +kernel))) rfl
theorem mo_X10_see : MOK mX10_see 1 := ⟨by decide, by decide, by decide +kernel, by decide⟩
theorem mp_X10_see : plainName mX10_see.1.cls = true := by decide +kernel
abbrev mX10_silence : MD := (yX10_silence, prog_12_method_99_code, 3, (some .int))
theorem mw_X10_silence : MW mX10_silence := ⟨mUW (tp7 (List.mem_of_getElem? (i := 239) (by decide +kernel))) rfl, mUW (tp1 (List.mem_of_getElem? (i := 11) (by decide +kernel))) rfl⟩
theorem mi_X10_silence : Cond.instanceMethod mX10_silence.1 ∈ UW := mUW (tp7 (List.mem_of_getElem? (i := 237) (by decide +kernel))) rfl
theorem ms_X10_silence : Cond.selects mX10_silence.1.cls mX10_silence.1 mX10_silence.1 ∈ UW := mUW (tp7 (List.mem_of_getElem? (i := 238) (by decide +kernel))) rfl
theorem mo_X10_silence : MOK mX10_silence 2 := ⟨by decide, by decide, by decide +kernel, by decide⟩
theorem mp_X10_silence : plainName mX10_silence.1.cls = true := by decide +kernel
abbrev mX10_stopAt : MD := (yX10_stopAt, prog_12_method_90_code, 7, (some .int))
theorem mw_X10_stopAt : MW mX10_stopAt := ⟨mUW (tp7 (List.mem_of_getElem? (i := 214) (by decide +kernel))) rfl, mUW (tp1 (List.mem_of_getElem? (i := 11) (by decide +kernel))) rfl⟩
theorem mi_X10_stopAt : Cond.instanceMethod mX10_stopAt.1 ∈ UW := mUW (tp7 (List.mem_of_getElem? (i := 213) (by decide +kernel))) rfl
theorem ms_X10_stopAt : Cond.selects mX10_stopAt.1.cls mX10_stopAt.1 mX10_stopAt.1 ∈ UW := mUW (tq7 (List.mem_of_getElem? (i := 11) (by decide +kernel))) rfl
theorem mo_X10_stopAt : MOK mX10_stopAt 3 := ⟨by decide, by decide, by decide +kernel, by decide⟩
theorem mp_X10_stopAt : plainName mX10_stopAt.1.cls = true := by decide +kernel
abbrev mX10_stopBy : MD := (yX10_stopBy, prog_12_method_93_code, 5, (some .int))
theorem mw_X10_stopBy : MW mX10_stopBy := ⟨mUW (tp7 (List.mem_of_getElem? (i := 222) (by decide +kernel))) rfl, mUW (tp1 (List.mem_of_getElem? (i := 11) (by decide +kernel))) rfl⟩
theorem mi_X10_stopBy : Cond.instanceMethod mX10_stopBy.1 ∈ UW := mUW (tp7 (List.mem_of_getElem? (i := 220) (by decide +kernel))) rfl
theorem ms_X10_stopBy : Cond.selects mX10_stopBy.1.cls mX10_stopBy.1 mX10_stopBy.1 ∈ UW := mUW (tp7 (List.mem_of_getElem? (i := 221) (by decide +kernel))) rfl
theorem mo_X10_stopBy : MOK mX10_stopBy 3 := ⟨by decide, by decide, by decide +kernel, by decide⟩
theorem mp_X10_stopBy : plainName mX10_stopBy.1.cls = true := by decide +kernel
abbrev mX10_stops : MD := (yX10_stops, prog_12_method_92_code, 4, (some .int))
theorem mw_X10_stops : MW mX10_stops := ⟨mUW (tp7 (List.mem_of_getElem? (i := 206) (by decide +kernel))) rfl, mUW (tp1 (List.mem_of_getElem? (i := 11) (by decide +kernel))) rfl⟩
theorem mi_X10_stops : Cond.instanceMethod mX10_stops.1 ∈ UW := mUW (tp7 (List.mem_of_getElem? (i := 204) (by decide +kernel))) rfl
theorem ms_X10_stops : Cond.selects mX10_stops.1.cls mX10_stops.1 mX10_stops.1 ∈ UW := mUW (tp7 (List.mem_of_getElem? (i := 205) (by decide +kernel))) rfl
theorem mo_X10_stops : MOK mX10_stops 2 := ⟨by decide, by decide, by decide +kernel, by decide⟩
theorem mp_X10_stops : plainName mX10_stops.1.cls = true := by decide +kernel
abbrev mX10_stores : MD := (yX10_stores, prog_12_method_57_code, 2, none)
theorem mw_X10_stores : MW mX10_stores := ⟨mUW (tp7 (List.mem_of_getElem? (i := 59) (by decide +kernel))) rfl, mUW (tp1 (List.mem_of_getElem? (i := 11) (by decide +kernel))) rfl⟩
theorem mi_X10_stores : Cond.instanceMethod mX10_stores.1 ∈ UW := mUW (tp7 (List.mem_of_getElem? (i := 58) (by decide +kernel))) rfl
theorem ms_X10_stores : Cond.selects mX10_stores.1.cls mX10_stores.1 mX10_stores.1 ∈ UW := mUW (tq6 (List.mem_of_getElem? (i := 8) (by decide +kernel))) rfl
theorem mo_X10_stores : MOK mX10_stores 0 := ⟨by decide, by decide, by decide +kernel, by decide⟩
theorem mp_X10_stores : plainName mX10_stores.1.cls = true := by decide +kernel
abbrev mX10_takes : MD := (yX10_takes, prog_12_method_14_code, 4, (some .int))
theorem mw_X10_takes : MW mX10_takes := ⟨mUW (tp6 (List.mem_of_getElem? (i := 139) (by decide +kernel))) rfl, mUW (tp1 (List.mem_of_getElem? (i := 11) (by decide +kernel))) rfl⟩
theorem mi_X10_takes : Cond.instanceMethod mX10_takes.1 ∈ UW := mUW (tp6 (List.mem_of_getElem? (i := 138) (by decide +kernel))) rfl
theorem ms_X10_takes : Cond.selects mX10_takes.1.cls mX10_takes.1 mX10_takes.1 ∈ UW := mUW (tq4 (List.mem_of_getElem? (i := 9) (by decide +kernel))) rfl
theorem mo_X10_takes : MOK mX10_takes 2 := ⟨by decide, by decide, by decide +kernel, by decide⟩
theorem mp_X10_takes : plainName mX10_takes.1.cls = true := by decide +kernel
abbrev mX10_tell : MD := (yX10_tell, prog_12_method_65_code, 5, (some .int))
theorem mw_X10_tell : MW mX10_tell := ⟨mUW (tp7 (List.mem_of_getElem? (i := 50) (by decide +kernel))) rfl, mUW (tp1 (List.mem_of_getElem? (i := 11) (by decide +kernel))) rfl⟩
theorem mi_X10_tell : Cond.instanceMethod mX10_tell.1 ∈ UW := mUW (tp7 (List.mem_of_getElem? (i := 48) (by decide +kernel))) rfl
theorem ms_X10_tell : Cond.selects mX10_tell.1.cls mX10_tell.1 mX10_tell.1 ∈ UW := mUW (tp7 (List.mem_of_getElem? (i := 49) (by decide +kernel))) rfl
theorem mo_X10_tell : MOK mX10_tell 3 := ⟨by decide, by decide, by decide +kernel, by decide⟩
theorem mp_X10_tell : plainName mX10_tell.1.cls = true := by decide +kernel
abbrev mX10_tells : MD := (yX10_tells, prog_12_method_72_code, 3, (some .int))
theorem mw_X10_tells : MW mX10_tells := ⟨mUW (tp7 (List.mem_of_getElem? (i := 114) (by decide +kernel))) rfl, mUW (tp1 (List.mem_of_getElem? (i := 11) (by decide +kernel))) rfl⟩
theorem mi_X10_tells : Cond.instanceMethod mX10_tells.1 ∈ UW := mUW (tp7 (List.mem_of_getElem? (i := 113) (by decide +kernel))) rfl
theorem ms_X10_tells : Cond.selects mX10_tells.1.cls mX10_tells.1 mX10_tells.1 ∈ UW := mUW (tq7 (List.mem_of_getElem? (i := 0) (by decide +kernel))) rfl
theorem mo_X10_tells : MOK mX10_tells 1 := ⟨by decide, by decide, by decide +kernel, by decide⟩
theorem mp_X10_tells : plainName mX10_tells.1.cls = true := by decide +kernel
abbrev mX10_tellsOne : MD := (yX10_tellsOne, prog_12_method_61_code, 5, none)
theorem mw_X10_tellsOne : MW mX10_tellsOne := ⟨mUW (tp7 (List.mem_of_getElem? (i := 63) (by decide +kernel))) rfl, mUW (tp1 (List.mem_of_getElem? (i := 11) (by decide +kernel))) rfl⟩
theorem mi_X10_tellsOne : Cond.instanceMethod mX10_tellsOne.1 ∈ UW := mUW (tp7 (List.mem_of_getElem? (i := 62) (by decide +kernel))) rfl
theorem ms_X10_tellsOne : Cond.selects mX10_tellsOne.1.cls mX10_tellsOne.1 mX10_tellsOne.1 ∈ UW := mUW (tq6 (List.mem_of_getElem? (i := 9) (by decide +kernel))) rfl
theorem mo_X10_tellsOne : MOK mX10_tellsOne 3 := ⟨by decide, by decide, by decide +kernel, by decide⟩
theorem mp_X10_tellsOne : plainName mX10_tellsOne.1.cls = true := by decide +kernel
abbrev mX10_tellsToo : MD := (yX10_tellsToo, prog_12_method_50_code, 4, none)
theorem mw_X10_tellsToo : MW mX10_tellsToo := ⟨mUW (tp7 (List.mem_of_getElem? (i := 34) (by decide +kernel))) rfl, mUW (tp1 (List.mem_of_getElem? (i := 11) (by decide +kernel))) rfl⟩
theorem mi_X10_tellsToo : Cond.instanceMethod mX10_tellsToo.1 ∈ UW := mUW (tp7 (List.mem_of_getElem? (i := 33) (by decide +kernel))) rfl
theorem ms_X10_tellsToo : Cond.selects mX10_tellsToo.1.cls mX10_tellsToo.1 mX10_tellsToo.1 ∈ UW := mUW (tq6 (List.mem_of_getElem? (i := 3) (by decide +kernel))) rfl
theorem mo_X10_tellsToo : MOK mX10_tellsToo 3 := ⟨by decide, by decide, by decide +kernel, by decide⟩
theorem mp_X10_tellsToo : plainName mX10_tellsToo.1.cls = true := by decide +kernel
abbrev mX10_undo : MD := (yX10_undo, prog_12_method_69_code, 3, (some .int))
theorem mw_X10_undo : MW mX10_undo := ⟨mUW (tp7 (List.mem_of_getElem? (i := 100) (by decide +kernel))) rfl, mUW (tp1 (List.mem_of_getElem? (i := 11) (by decide +kernel))) rfl⟩
theorem mi_X10_undo : Cond.instanceMethod mX10_undo.1 ∈ UW := mUW (tp7 (List.mem_of_getElem? (i := 98) (by decide +kernel))) rfl
theorem ms_X10_undo : Cond.selects mX10_undo.1.cls mX10_undo.1 mX10_undo.1 ∈ UW := mUW (tp7 (List.mem_of_getElem? (i := 99) (by decide +kernel))) rfl
theorem mo_X10_undo : MOK mX10_undo 1 := ⟨by decide, by decide, by decide +kernel, by decide⟩
theorem mp_X10_undo : plainName mX10_undo.1.cls = true := by decide +kernel
abbrev mX10_week : MD := (yX10_week, prog_12_method_78_code, 6, (some .int))
theorem mw_X10_week : MW mX10_week := ⟨mUW (tp7 (List.mem_of_getElem? (i := 147) (by decide +kernel))) rfl, mUW (tp1 (List.mem_of_getElem? (i := 11) (by decide +kernel))) rfl⟩
theorem mi_X10_week : Cond.instanceMethod mX10_week.1 ∈ UW := mUW (tp7 (List.mem_of_getElem? (i := 145) (by decide +kernel))) rfl
theorem ms_X10_week : Cond.selects mX10_week.1.cls mX10_week.1 mX10_week.1 ∈ UW := mUW (tp7 (List.mem_of_getElem? (i := 146) (by decide +kernel))) rfl
theorem mo_X10_week : MOK mX10_week 2 := ⟨by decide, by decide, by decide +kernel, by decide⟩
theorem mp_X10_week : plainName mX10_week.1.cls = true := by decide +kernel
abbrev mX10_who : MD := (yX10_who, prog_12_method_88_code, 6, (some .int))
theorem mw_X10_who : MW mX10_who := ⟨mUW (tp7 (List.mem_of_getElem? (i := 201) (by decide +kernel))) rfl, mUW (tp1 (List.mem_of_getElem? (i := 11) (by decide +kernel))) rfl⟩
theorem mi_X10_who : Cond.instanceMethod mX10_who.1 ∈ UW := mUW (tp7 (List.mem_of_getElem? (i := 199) (by decide +kernel))) rfl
theorem ms_X10_who : Cond.selects mX10_who.1.cls mX10_who.1 mX10_who.1 ∈ UW := mUW (tp7 (List.mem_of_getElem? (i := 200) (by decide +kernel))) rfl
theorem mo_X10_who : MOK mX10_who 3 := ⟨by decide, by decide, by decide +kernel, by decide⟩
theorem mp_X10_who : plainName mX10_who.1.cls = true := by decide +kernel
abbrev mX10_wholeOf : MD := (yX10_wholeOf, prog_12_method_109_code, 4, (some .long))
theorem mw_X10_wholeOf : MW mX10_wholeOf := ⟨mUW (tp8 (List.mem_of_getElem? (i := 57) (by decide +kernel))) rfl, mUW (tp1 (List.mem_of_getElem? (i := 11) (by decide +kernel))) rfl⟩
theorem mt_X10_wholeOf : Cond.static mX10_wholeOf.1 ∈ UW := mUW (tp8 (List.mem_of_getElem? (i := 56) (by decide +kernel))) rfl
theorem mo_X10_wholeOf : MOK mX10_wholeOf 1 := ⟨by decide, by decide, by decide +kernel, by decide⟩
theorem mp_X10_wholeOf : plainName mX10_wholeOf.1.cls = true := by decide +kernel
abbrev mX10_whyNot : MD := (yX10_whyNot, prog_12_method_70_code, 3, (some .int))
theorem mw_X10_whyNot : MW mX10_whyNot := ⟨mUW (tp7 (List.mem_of_getElem? (i := 118) (by decide +kernel))) rfl, mUW (tp1 (List.mem_of_getElem? (i := 11) (by decide +kernel))) rfl⟩
theorem mi_X10_whyNot : Cond.instanceMethod mX10_whyNot.1 ∈ UW := mUW (tp7 (List.mem_of_getElem? (i := 117) (by decide +kernel))) rfl
theorem ms_X10_whyNot : Cond.selects mX10_whyNot.1.cls mX10_whyNot.1 mX10_whyNot.1 ∈ UW := mUW (tq7 (List.mem_of_getElem? (i := 1) (by decide +kernel))) rfl
theorem mo_X10_whyNot : MOK mX10_whyNot 1 := ⟨by decide, by decide, by decide +kernel, by decide⟩
theorem mp_X10_whyNot : plainName mX10_whyNot.1.cls = true := by decide +kernel
abbrev mX10_whyTell : MD := (yX10_whyTell, prog_12_method_60_code, 7, (some .int))
theorem mw_X10_whyTell : MW mX10_whyTell := ⟨mUW (tp7 (List.mem_of_getElem? (i := 54) (by decide +kernel))) rfl, mUW (tp1 (List.mem_of_getElem? (i := 11) (by decide +kernel))) rfl⟩
theorem mi_X10_whyTell : Cond.instanceMethod mX10_whyTell.1 ∈ UW := mUW (tp7 (List.mem_of_getElem? (i := 53) (by decide +kernel))) rfl
theorem ms_X10_whyTell : Cond.selects mX10_whyTell.1.cls mX10_whyTell.1 mX10_whyTell.1 ∈ UW := mUW (tq6 (List.mem_of_getElem? (i := 7) (by decide +kernel))) rfl
theorem mo_X10_whyTell : MOK mX10_whyTell 3 := ⟨by decide, by decide, by decide +kernel, by decide⟩
theorem mp_X10_whyTell : plainName mX10_whyTell.1.cls = true := by decide +kernel
abbrev mX10_wind : MD := (yX10_wind, prog_12_method_68_code, 2, (some .int))
theorem mw_X10_wind : MW mX10_wind := ⟨mUW (tp7 (List.mem_of_getElem? (i := 95) (by decide +kernel))) rfl, mUW (tp1 (List.mem_of_getElem? (i := 11) (by decide +kernel))) rfl⟩
theorem mi_X10_wind : Cond.instanceMethod mX10_wind.1 ∈ UW := mUW (tp7 (List.mem_of_getElem? (i := 93) (by decide +kernel))) rfl
theorem ms_X10_wind : Cond.selects mX10_wind.1.cls mX10_wind.1 mX10_wind.1 ∈ UW := mUW (tp7 (List.mem_of_getElem? (i := 94) (by decide +kernel))) rfl
theorem mo_X10_wind : MOK mX10_wind 1 := ⟨by decide, by decide, by decide +kernel, by decide⟩
theorem mp_X10_wind : plainName mX10_wind.1.cls = true := by decide +kernel
abbrev mX10_winds : MD := (yX10_winds, prog_12_method_108_code, 7, (some .int))
theorem mw_X10_winds : MW mX10_winds := ⟨mUW (tp8 (List.mem_of_getElem? (i := 41) (by decide +kernel))) rfl, mUW (tp1 (List.mem_of_getElem? (i := 11) (by decide +kernel))) rfl⟩
theorem mi_X10_winds : Cond.instanceMethod mX10_winds.1 ∈ UW := mUW (tp8 (List.mem_of_getElem? (i := 39) (by decide +kernel))) rfl
theorem ms_X10_winds : Cond.selects mX10_winds.1.cls mX10_winds.1 mX10_winds.1 ∈ UW := mUW (tp8 (List.mem_of_getElem? (i := 40) (by decide +kernel))) rfl
theorem mo_X10_winds : MOK mX10_winds 2 := ⟨by decide, by decide, by decide +kernel, by decide⟩
theorem mp_X10_winds : plainName mX10_winds.1.cls = true := by decide +kernel
abbrev mX10_within : MD := (yX10_within, prog_12_method_2_code, 6, (some .boolean))
theorem mw_X10_within : MW mX10_within := ⟨mUW (tp6 (List.mem_of_getElem? (i := 101) (by decide +kernel))) rfl, mUW (tp1 (List.mem_of_getElem? (i := 11) (by decide +kernel))) rfl⟩
theorem mt_X10_within : Cond.static mX10_within.1 ∈ UW := mUW (tp6 (List.mem_of_getElem? (i := 100) (by decide +kernel))) rfl
theorem mo_X10_within : MOK mX10_within 3 := ⟨by decide, by decide, by decide +kernel, by decide⟩
theorem mp_X10_within : plainName mX10_within.1.cls = true := by decide +kernel
abbrev mX10_wordOf : MD := (yX10_wordOf, prog_12_method_16_code, 2, (some .int))
theorem mw_X10_wordOf : MW mX10_wordOf := ⟨mUW (tp6 (List.mem_of_getElem? (i := 199) (by decide +kernel))) rfl, mUW (tp1 (List.mem_of_getElem? (i := 11) (by decide +kernel))) rfl⟩
theorem mi_X10_wordOf : Cond.instanceMethod mX10_wordOf.1 ∈ UW := mUW (tp6 (List.mem_of_getElem? (i := 198) (by decide +kernel))) rfl
theorem ms_X10_wordOf : Cond.selects mX10_wordOf.1.cls mX10_wordOf.1 mX10_wordOf.1 ∈ UW := mUW (tq5 (List.mem_of_getElem? (i := 8) (by decide +kernel))) rfl
theorem mo_X10_wordOf : MOK mX10_wordOf 1 := ⟨by decide, by decide, by decide +kernel, by decide⟩
theorem mp_X10_wordOf : plainName mX10_wordOf.1.cls = true := by decide +kernel
abbrev mX10_worst : MD := (yX10_worst, prog_12_method_85_code, 4, (some .int))
theorem mw_X10_worst : MW mX10_worst := ⟨mUW (tp7 (List.mem_of_getElem? (i := 189) (by decide +kernel))) rfl, mUW (tp1 (List.mem_of_getElem? (i := 11) (by decide +kernel))) rfl⟩
theorem mi_X10_worst : Cond.instanceMethod mX10_worst.1 ∈ UW := mUW (tp7 (List.mem_of_getElem? (i := 187) (by decide +kernel))) rfl
theorem ms_X10_worst : Cond.selects mX10_worst.1.cls mX10_worst.1 mX10_worst.1 ∈ UW := mUW (tp7 (List.mem_of_getElem? (i := 188) (by decide +kernel))) rfl
theorem mo_X10_worst : MOK mX10_worst 0 := ⟨by decide, by decide, by decide +kernel, by decide⟩
theorem mp_X10_worst : plainName mX10_worst.1.cls = true := by decide +kernel
abbrev mX10_write : MD := (yX10_write, prog_12_method_118_code, 6, (some .long))
theorem mw_X10_write : MW mX10_write := ⟨mUW (tp8 (List.mem_of_getElem? (i := 80) (by decide +kernel))) rfl, mUW (tp1 (List.mem_of_getElem? (i := 11) (by decide +kernel))) rfl⟩
theorem mi_X10_write : Cond.instanceMethod mX10_write.1 ∈ UW := mUW (tp8 (List.mem_of_getElem? (i := 78) (by decide +kernel))) rfl
theorem ms_X10_write : Cond.selects mX10_write.1.cls mX10_write.1 mX10_write.1 ∈ UW := mUW (tp8 (List.mem_of_getElem? (i := 79) (by decide +kernel))) rfl
theorem mo_X10_write : MOK mX10_write 3 := ⟨by decide, by decide, by decide +kernel, by decide⟩
theorem mp_X10_write : plainName mX10_write.1.cls = true := by decide +kernel
abbrev mX1_cells : MD := (yX1_cells, prog_3_method_2_code, 1, (some .int))
theorem mw_X1_cells : MW mX1_cells := ⟨mUW (tp3 (List.mem_of_getElem? (i := 181) (by decide +kernel))) rfl, mUW (tp1 (List.mem_of_getElem? (i := 2) (by decide +kernel))) rfl⟩
theorem mi_X1_cells : Cond.instanceMethod mX1_cells.1 ∈ UW := mUW (tp3 (List.mem_of_getElem? (i := 179) (by decide +kernel))) rfl
theorem ms_X1_cells : Cond.selects mX1_cells.1.cls mX1_cells.1 mX1_cells.1 ∈ UW := mUW (tp3 (List.mem_of_getElem? (i := 180) (by decide +kernel))) rfl
theorem mo_X1_cells : MOK mX1_cells 0 := ⟨by decide, by decide, by decide +kernel, by decide⟩
theorem mp_X1_cells : plainName mX1_cells.1.cls = true := by decide +kernel
abbrev mX1_clear : MD := (yX1_clear, prog_3_method_4_code, 1, none)
theorem mw_X1_clear : MW mX1_clear := ⟨mUW (tp3 (List.mem_of_getElem? (i := 142) (by decide +kernel))) rfl, mUW (tp1 (List.mem_of_getElem? (i := 2) (by decide +kernel))) rfl⟩
theorem mi_X1_clear : Cond.instanceMethod mX1_clear.1 ∈ UW := mUW (tp3 (List.mem_of_getElem? (i := 140) (by decide +kernel))) rfl
theorem ms_X1_clear : Cond.selects mX1_clear.1.cls mX1_clear.1 mX1_clear.1 ∈ UW := mUW (tp3 (List.mem_of_getElem? (i := 141) (by decide +kernel))) rfl
theorem mo_X1_clear : MOK mX1_clear 0 := ⟨by decide, by decide, by decide +kernel, by decide⟩
theorem mp_X1_clear : plainName mX1_clear.1.cls = true := by decide +kernel
abbrev mX1_copyFrom : MD := (yX1_copyFrom, prog_3_method_5_code, 2, none)
theorem mw_X1_copyFrom : MW mX1_copyFrom := ⟨mUW (tp5 (List.mem_of_getElem? (i := 162) (by decide +kernel))) rfl, mUW (tp1 (List.mem_of_getElem? (i := 2) (by decide +kernel))) rfl⟩
theorem mi_X1_copyFrom : Cond.instanceMethod mX1_copyFrom.1 ∈ UW := mUW (tp5 (List.mem_of_getElem? (i := 160) (by decide +kernel))) rfl
theorem ms_X1_copyFrom : Cond.selects mX1_copyFrom.1.cls mX1_copyFrom.1 mX1_copyFrom.1 ∈ UW := mUW (tp5 (List.mem_of_getElem? (i := 161) (by decide +kernel))) rfl
theorem mo_X1_copyFrom : MOK mX1_copyFrom 1 := ⟨by decide, by decide, by decide +kernel, by decide⟩
theorem mp_X1_copyFrom : plainName mX1_copyFrom.1.cls = true := by decide +kernel
abbrev mX1_hasLaw : MD := (yX1_hasLaw, prog_3_method_3_code, 2, (some .boolean))
theorem mw_X1_hasLaw : MW mX1_hasLaw := ⟨mUW (tp4 (List.mem_of_getElem? (i := 43) (by decide +kernel))) rfl, mUW (tp1 (List.mem_of_getElem? (i := 2) (by decide +kernel))) rfl⟩
theorem mi_X1_hasLaw : Cond.instanceMethod mX1_hasLaw.1 ∈ UW := mUW (tp4 (List.mem_of_getElem? (i := 41) (by decide +kernel))) rfl
theorem ms_X1_hasLaw : Cond.selects mX1_hasLaw.1.cls mX1_hasLaw.1 mX1_hasLaw.1 ∈ UW := mUW (tp4 (List.mem_of_getElem? (i := 42) (by decide +kernel))) rfl
theorem mo_X1_hasLaw : MOK mX1_hasLaw 1 := ⟨by decide, by decide, by decide +kernel, by decide⟩
theorem mp_X1_hasLaw : plainName mX1_hasLaw.1.cls = true := by decide +kernel
abbrev mX1_init : MD := (yX1_init, prog_3_method_1_code, 1, none)
theorem mw_X1_init : MW mX1_init := ⟨mUW (tp1 (List.mem_of_getElem? (i := 32) (by decide +kernel))) rfl, mUW (tp1 (List.mem_of_getElem? (i := 2) (by decide +kernel))) rfl⟩
theorem mi_X1_init : Cond.instanceMethod mX1_init.1 ∈ UW := mUW (tp1 (List.mem_of_getElem? (i := 31) (by decide +kernel))) rfl
theorem mo_X1_init : MOK mX1_init 0 := ⟨by decide, by decide, by decide +kernel, by decide⟩
theorem mp_X1_init : plainName mX1_init.1.cls = true := by decide +kernel
abbrev mX2_code : MD := (yX2_code, prog_4_method_7_code, 1, (some .int))
theorem mw_X2_code : MW mX2_code := ⟨mUW (tp5 (List.mem_of_getElem? (i := 52) (by decide +kernel))) rfl, mUW (tp1 (List.mem_of_getElem? (i := 9) (by decide +kernel))) rfl⟩
theorem mt_X2_code : Cond.static mX2_code.1 ∈ UW := mUW (tp5 (List.mem_of_getElem? (i := 51) (by decide +kernel))) rfl
theorem mo_X2_code : MOK mX2_code 1 := ⟨by decide, by decide, by decide +kernel, by decide⟩
theorem mp_X2_code : plainName mX2_code.1.cls = true := by decide +kernel
abbrev mX2_inTime : MD := (yX2_inTime, prog_4_method_3_code, 1, (some .int))
theorem mw_X2_inTime : MW mX2_inTime := ⟨mUW (tp5 (List.mem_of_getElem? (i := 35) (by decide +kernel))) rfl, mUW (tp1 (List.mem_of_getElem? (i := 9) (by decide +kernel))) rfl⟩
theorem mi_X2_inTime : Cond.instanceMethod mX2_inTime.1 ∈ UW := mUW (tp5 (List.mem_of_getElem? (i := 34) (by decide +kernel))) rfl
theorem ms_X2_inTime : Cond.selects mX2_inTime.1.cls mX2_inTime.1 mX2_inTime.1 ∈ UW := mUW (tq3 (List.mem_of_getElem? (i := 12) (by decide +kernel))) rfl
theorem mo_X2_inTime : MOK mX2_inTime 0 := ⟨by decide, by decide, by decide +kernel, by decide⟩
theorem mp_X2_inTime : plainName mX2_inTime.1.cls = true := by decide +kernel
abbrev mX2_init : MD := (yX2_init, prog_4_method_1_code, 1, none)
theorem mw_X2_init : MW mX2_init := ⟨mUW (tp2 (List.mem_of_getElem? (i := 107) (by decide +kernel))) rfl, mUW (tp1 (List.mem_of_getElem? (i := 9) (by decide +kernel))) rfl⟩
theorem mi_X2_init : Cond.instanceMethod mX2_init.1 ∈ UW := mUW (tp2 (List.mem_of_getElem? (i := 106) (by decide +kernel))) rfl
theorem mo_X2_init : MOK mX2_init 0 := ⟨by decide, by decide, by decide +kernel, by decide⟩
theorem mp_X2_init : plainName mX2_init.1.cls = true := by decide +kernel
abbrev mX2_isNaming : MD := (yX2_isNaming, prog_4_method_6_code, 3, (some .boolean))
theorem mw_X2_isNaming : MW mX2_isNaming := ⟨mUW (tp5 (List.mem_of_getElem? (i := 44) (by decide +kernel))) rfl, mUW (tp1 (List.mem_of_getElem? (i := 9) (by decide +kernel))) rfl⟩
theorem mi_X2_isNaming : Cond.instanceMethod mX2_isNaming.1 ∈ UW := mUW (tp5 (List.mem_of_getElem? (i := 43) (by decide +kernel))) rfl
theorem ms_X2_isNaming : Cond.selects mX2_isNaming.1.cls mX2_isNaming.1 mX2_isNaming.1 ∈ UW := mUW (tq3 (List.mem_of_getElem? (i := 13) (by decide +kernel))) rfl
theorem mo_X2_isNaming : MOK mX2_isNaming 1 := ⟨by decide, by decide, by decide +kernel, by decide⟩
theorem mp_X2_isNaming : plainName mX2_isNaming.1.cls = true := by decide +kernel
abbrev mX2_seekOne : MD := (yX2_seekOne, prog_4_method_4_code, 2, none)
theorem mw_X2_seekOne : MW mX2_seekOne := ⟨mUW (tp5 (List.mem_of_getElem? (i := 40) (by decide +kernel))) rfl, mUW (tp1 (List.mem_of_getElem? (i := 9) (by decide +kernel))) rfl⟩
theorem mi_X2_seekOne : Cond.instanceMethod mX2_seekOne.1 ∈ UW := mUW (tp5 (List.mem_of_getElem? (i := 38) (by decide +kernel))) rfl
theorem ms_X2_seekOne : Cond.selects mX2_seekOne.1.cls mX2_seekOne.1 mX2_seekOne.1 ∈ UW := mUW (tp5 (List.mem_of_getElem? (i := 39) (by decide +kernel))) rfl
theorem mo_X2_seekOne : MOK mX2_seekOne 0 := ⟨by decide, by decide, by decide +kernel, by decide⟩
theorem mp_X2_seekOne : plainName mX2_seekOne.1.cls = true := by decide +kernel
abbrev mX2_seekTwo : MD := (yX2_seekTwo, prog_4_method_5_code, 4, none)
theorem mw_X2_seekTwo : MW mX2_seekTwo := ⟨mUW (tp5 (List.mem_of_getElem? (i := 56) (by decide +kernel))) rfl, mUW (tp1 (List.mem_of_getElem? (i := 9) (by decide +kernel))) rfl⟩
theorem mi_X2_seekTwo : Cond.instanceMethod mX2_seekTwo.1 ∈ UW := mUW (tp5 (List.mem_of_getElem? (i := 54) (by decide +kernel))) rfl
theorem ms_X2_seekTwo : Cond.selects mX2_seekTwo.1.cls mX2_seekTwo.1 mX2_seekTwo.1 ∈ UW := mUW (tp5 (List.mem_of_getElem? (i := 55) (by decide +kernel))) rfl
theorem mo_X2_seekTwo : MOK mX2_seekTwo 0 := ⟨by decide, by decide, by decide +kernel, by decide⟩
theorem mp_X2_seekTwo : plainName mX2_seekTwo.1.cls = true := by decide +kernel
abbrev mX2_start : MD := (yX2_start, prog_4_method_2_code, 7, none)
theorem mw_X2_start : MW mX2_start := ⟨mUW (tp5 (List.mem_of_getElem? (i := 28) (by decide +kernel))) rfl, mUW (tp1 (List.mem_of_getElem? (i := 9) (by decide +kernel))) rfl⟩
theorem mi_X2_start : Cond.instanceMethod mX2_start.1 ∈ UW := mUW (tp5 (List.mem_of_getElem? (i := 26) (by decide +kernel))) rfl
theorem ms_X2_start : Cond.selects mX2_start.1.cls mX2_start.1 mX2_start.1 ∈ UW := mUW (tp5 (List.mem_of_getElem? (i := 27) (by decide +kernel))) rfl
theorem mo_X2_start : MOK mX2_start 5 := ⟨by decide, by decide, by decide +kernel, by decide⟩
theorem mp_X2_start : plainName mX2_start.1.cls = true := by decide +kernel
abbrev mX2_tellToo : MD := (yX2_tellToo, prog_4_method_8_code, 2, none)
theorem mw_X2_tellToo : MW mX2_tellToo := ⟨mUW (tp5 (List.mem_of_getElem? (i := 48) (by decide +kernel))) rfl, mUW (tp1 (List.mem_of_getElem? (i := 9) (by decide +kernel))) rfl⟩
theorem mi_X2_tellToo : Cond.instanceMethod mX2_tellToo.1 ∈ UW := mUW (tp5 (List.mem_of_getElem? (i := 47) (by decide +kernel))) rfl
theorem ms_X2_tellToo : Cond.selects mX2_tellToo.1.cls mX2_tellToo.1 mX2_tellToo.1 ∈ UW := mUW (tq3 (List.mem_of_getElem? (i := 14) (by decide +kernel))) rfl
theorem mo_X2_tellToo : MOK mX2_tellToo 1 := ⟨by decide, by decide, by decide +kernel, by decide⟩
theorem mp_X2_tellToo : plainName mX2_tellToo.1.cls = true := by decide +kernel
abbrev mX3_gapOf : MD := (yX3_gapOf, prog_5_method_4_code, 4, (some .int))
theorem mw_X3_gapOf : MW mX3_gapOf := ⟨mUW (tp4 (List.mem_of_getElem? (i := 32) (by decide +kernel))) rfl, mUW (tp1 (List.mem_of_getElem? (i := 6) (by decide +kernel))) rfl⟩
theorem mi_X3_gapOf : Cond.instanceMethod mX3_gapOf.1 ∈ UW := mUW (tp4 (List.mem_of_getElem? (i := 30) (by decide +kernel))) rfl
theorem ms_X3_gapOf : Cond.selects mX3_gapOf.1.cls mX3_gapOf.1 mX3_gapOf.1 ∈ UW := mUW (tp4 (List.mem_of_getElem? (i := 31) (by decide +kernel))) rfl
theorem mo_X3_gapOf : MOK mX3_gapOf 2 := ⟨by decide, by decide, by decide +kernel, by decide⟩
theorem mp_X3_gapOf : plainName mX3_gapOf.1.cls = true := by decide +kernel
abbrev mX3_init : MD := (yX3_init, prog_5_method_1_code, 1, none)
theorem mw_X3_init : MW mX3_init := ⟨mUW (tp1 (List.mem_of_getElem? (i := 222) (by decide +kernel))) rfl, mUW (tp1 (List.mem_of_getElem? (i := 6) (by decide +kernel))) rfl⟩
theorem mi_X3_init : Cond.instanceMethod mX3_init.1 ∈ UW := mUW (tp1 (List.mem_of_getElem? (i := 221) (by decide +kernel))) rfl
theorem mo_X3_init : MOK mX3_init 0 := ⟨by decide, by decide, by decide +kernel, by decide⟩
theorem mp_X3_init : plainName mX3_init.1.cls = true := by decide +kernel
abbrev mX3_isAnswered : MD := (yX3_isAnswered, prog_5_method_6_code, 6, (some .boolean))
theorem mw_X3_isAnswered : MW mX3_isAnswered := ⟨mUW (tp4 (List.mem_of_getElem? (i := 86) (by decide +kernel))) rfl, mUW (tp1 (List.mem_of_getElem? (i := 6) (by decide +kernel))) rfl⟩
theorem mi_X3_isAnswered : Cond.instanceMethod mX3_isAnswered.1 ∈ UW := mUW (tp4 (List.mem_of_getElem? (i := 84) (by decide +kernel))) rfl
theorem ms_X3_isAnswered : Cond.selects mX3_isAnswered.1.cls mX3_isAnswered.1 mX3_isAnswered.1 ∈ UW := mUW (tp4 (List.mem_of_getElem? (i := 85) (by decide +kernel))) rfl
theorem mo_X3_isAnswered : MOK mX3_isAnswered 2 := ⟨by decide, by decide, by decide +kernel, by decide⟩
theorem mp_X3_isAnswered : plainName mX3_isAnswered.1.cls = true := by decide +kernel
abbrev mX3_learn : MD := (yX3_learn, prog_5_method_3_code, 7, none)
theorem mw_X3_learn : MW mX3_learn := ⟨mUW (tp4 (List.mem_of_getElem? (i := 21) (by decide +kernel))) rfl, mUW (tp1 (List.mem_of_getElem? (i := 6) (by decide +kernel))) rfl⟩
theorem mi_X3_learn : Cond.instanceMethod mX3_learn.1 ∈ UW := mUW (tp4 (List.mem_of_getElem? (i := 19) (by decide +kernel))) rfl
theorem ms_X3_learn : Cond.selects mX3_learn.1.cls mX3_learn.1 mX3_learn.1 ∈ UW := mUW (tp4 (List.mem_of_getElem? (i := 20) (by decide +kernel))) rfl
theorem mo_X3_learn : MOK mX3_learn 2 := ⟨by decide, by decide, by decide +kernel, by decide⟩
theorem mp_X3_learn : plainName mX3_learn.1.cls = true := by decide +kernel
abbrev mX3_nameTwo : MD := (yX3_nameTwo, prog_5_method_5_code, 6, none)
theorem mw_X3_nameTwo : MW mX3_nameTwo := ⟨mUW (tp4 (List.mem_of_getElem? (i := 36) (by decide +kernel))) rfl, mUW (tp1 (List.mem_of_getElem? (i := 6) (by decide +kernel))) rfl⟩
theorem mi_X3_nameTwo : Cond.instanceMethod mX3_nameTwo.1 ∈ UW := mUW (tp4 (List.mem_of_getElem? (i := 35) (by decide +kernel))) rfl
theorem ms_X3_nameTwo : Cond.selects mX3_nameTwo.1.cls mX3_nameTwo.1 mX3_nameTwo.1 ∈ UW := mUW (tq2 (List.mem_of_getElem? (i := 11) (by decide +kernel))) rfl
theorem mo_X3_nameTwo : MOK mX3_nameTwo 2 := ⟨by decide, by decide, by decide +kernel, by decide⟩
theorem mp_X3_nameTwo : plainName mX3_nameTwo.1.cls = true := by decide +kernel
abbrev mX3_take : MD := (yX3_take, prog_5_method_2_code, 3, none)
theorem mw_X3_take : MW mX3_take := ⟨mUW (tp4 (List.mem_of_getElem? (i := 25) (by decide +kernel))) rfl, mUW (tp1 (List.mem_of_getElem? (i := 6) (by decide +kernel))) rfl⟩
theorem mi_X3_take : Cond.instanceMethod mX3_take.1 ∈ UW := mUW (tp4 (List.mem_of_getElem? (i := 23) (by decide +kernel))) rfl
theorem ms_X3_take : Cond.selects mX3_take.1.cls mX3_take.1 mX3_take.1 ∈ UW := mUW (tp4 (List.mem_of_getElem? (i := 24) (by decide +kernel))) rfl
theorem mo_X3_take : MOK mX3_take 2 := ⟨by decide, by decide, by decide +kernel, by decide⟩
theorem mp_X3_take : plainName mX3_take.1.cls = true := by decide +kernel
abbrev mX3_work : MD := (yX3_work, prog_5_method_7_code, 12, (some .int))
theorem mw_X3_work : MW mX3_work := ⟨mUW (tp4 (List.mem_of_getElem? (i := 47) (by decide +kernel))) rfl, mUW (tp1 (List.mem_of_getElem? (i := 6) (by decide +kernel))) rfl⟩
theorem mi_X3_work : Cond.instanceMethod mX3_work.1 ∈ UW := mUW (tp4 (List.mem_of_getElem? (i := 46) (by decide +kernel))) rfl
theorem ms_X3_work : Cond.selects mX3_work.1.cls mX3_work.1 mX3_work.1 ∈ UW := mUW (tq2 (List.mem_of_getElem? (i := 12) (by decide +kernel))) rfl
theorem mo_X3_work : MOK mX3_work 1 := ⟨by decide, by decide, by decide +kernel, by decide⟩
theorem mp_X3_work : plainName mX3_work.1.cls = true := by decide +kernel
abbrev mX4_init : MD := (yX4_init, prog_6_method_1_code, 1, none)
theorem mw_X4_init : MW mX4_init := ⟨mUW (tp2 (List.mem_of_getElem? (i := 84) (by decide +kernel))) rfl, mUW (tp1 (List.mem_of_getElem? (i := 8) (by decide +kernel))) rfl⟩
theorem mi_X4_init : Cond.instanceMethod mX4_init.1 ∈ UW := mUW (tp2 (List.mem_of_getElem? (i := 83) (by decide +kernel))) rfl
theorem mo_X4_init : MOK mX4_init 0 := ⟨by decide, by decide, by decide +kernel, by decide⟩
theorem mp_X4_init : plainName mX4_init.1.cls = true := by decide +kernel
abbrev mX4_reckon : MD := (yX4_reckon, prog_6_method_2_code, 10, none)
theorem mw_X4_reckon : MW mX4_reckon := ⟨mUW (tp5 (List.mem_of_getElem? (i := 103) (by decide +kernel))) rfl, mUW (tp1 (List.mem_of_getElem? (i := 8) (by decide +kernel))) rfl⟩
theorem mi_X4_reckon : Cond.instanceMethod mX4_reckon.1 ∈ UW := mUW (tp5 (List.mem_of_getElem? (i := 101) (by decide +kernel))) rfl
theorem ms_X4_reckon : Cond.selects mX4_reckon.1.cls mX4_reckon.1 mX4_reckon.1 ∈ UW := mUW (tp5 (List.mem_of_getElem? (i := 102) (by decide +kernel))) rfl
theorem mo_X4_reckon : MOK mX4_reckon 4 := ⟨by decide, by decide, by decide +kernel, by decide⟩
theorem mp_X4_reckon : plainName mX4_reckon.1.cls = true := by decide +kernel
abbrev mX4_tellSome : MD := (yX4_tellSome, prog_6_method_3_code, 6, (some .long))
theorem mw_X4_tellSome : MW mX4_tellSome := ⟨mUW (tp5 (List.mem_of_getElem? (i := 108) (by decide +kernel))) rfl, mUW (tp1 (List.mem_of_getElem? (i := 8) (by decide +kernel))) rfl⟩
theorem mt_X4_tellSome : Cond.static mX4_tellSome.1 ∈ UW := mUW (tp5 (List.mem_of_getElem? (i := 107) (by decide +kernel))) rfl
theorem mo_X4_tellSome : MOK mX4_tellSome 3 := ⟨by decide, by decide, by decide +kernel, by decide⟩
theorem mp_X4_tellSome : plainName mX4_tellSome.1.cls = true := by decide +kernel
abbrev mX5_forget : MD := (yX5_forget, prog_7_method_2_code, 1, none)
theorem mw_X5_forget : MW mX5_forget := ⟨mUW (tp3 (List.mem_of_getElem? (i := 233) (by decide +kernel))) rfl, mUW (tp1 (List.mem_of_getElem? (i := 5) (by decide +kernel))) rfl⟩
theorem mi_X5_forget : Cond.instanceMethod mX5_forget.1 ∈ UW := mUW (tp3 (List.mem_of_getElem? (i := 231) (by decide +kernel))) rfl
theorem ms_X5_forget : Cond.selects mX5_forget.1.cls mX5_forget.1 mX5_forget.1 ∈ UW := mUW (tp3 (List.mem_of_getElem? (i := 232) (by decide +kernel))) rfl
theorem mo_X5_forget : MOK mX5_forget 0 := ⟨by decide, by decide, by decide +kernel, by decide⟩
theorem mp_X5_forget : plainName mX5_forget.1.cls = true := by decide +kernel
abbrev mX5_init : MD := (yX5_init, prog_7_method_1_code, 2, none)
theorem mw_X5_init : MW mX5_init := ⟨mUW (tp1 (List.mem_of_getElem? (i := 202) (by decide +kernel))) rfl, mUW (tp1 (List.mem_of_getElem? (i := 5) (by decide +kernel))) rfl⟩
theorem mi_X5_init : Cond.instanceMethod mX5_init.1 ∈ UW := mUW (tp1 (List.mem_of_getElem? (i := 201) (by decide +kernel))) rfl
theorem mo_X5_init : MOK mX5_init 0 := ⟨by decide, by decide, by decide +kernel, by decide⟩
theorem mp_X5_init : plainName mX5_init.1.cls = true := by decide +kernel
abbrev mX5_keep : MD := (yX5_keep, prog_7_method_3_code, 4, none)
theorem mw_X5_keep : MW mX5_keep := ⟨mUW (tp4 (List.mem_of_getElem? (i := 117) (by decide +kernel))) rfl, mUW (tp1 (List.mem_of_getElem? (i := 5) (by decide +kernel))) rfl⟩
theorem mi_X5_keep : Cond.instanceMethod mX5_keep.1 ∈ UW := mUW (tp4 (List.mem_of_getElem? (i := 115) (by decide +kernel))) rfl
theorem ms_X5_keep : Cond.selects mX5_keep.1.cls mX5_keep.1 mX5_keep.1 ∈ UW := mUW (tp4 (List.mem_of_getElem? (i := 116) (by decide +kernel))) rfl
theorem mo_X5_keep : MOK mX5_keep 1 := ⟨by decide, by decide, by decide +kernel, by decide⟩
theorem mp_X5_keep : plainName mX5_keep.1.cls = true := by decide +kernel
abbrev mX5_takeBack : MD := (yX5_takeBack, prog_7_method_4_code, 3, none)
theorem mw_X5_takeBack : MW mX5_takeBack := ⟨mUW (tp4 (List.mem_of_getElem? (i := 153) (by decide +kernel))) rfl, mUW (tp1 (List.mem_of_getElem? (i := 5) (by decide +kernel))) rfl⟩
theorem mi_X5_takeBack : Cond.instanceMethod mX5_takeBack.1 ∈ UW := mUW (tp4 (List.mem_of_getElem? (i := 151) (by decide +kernel))) rfl
theorem ms_X5_takeBack : Cond.selects mX5_takeBack.1.cls mX5_takeBack.1 mX5_takeBack.1 ∈ UW := mUW (tp4 (List.mem_of_getElem? (i := 152) (by decide +kernel))) rfl
theorem mo_X5_takeBack : MOK mX5_takeBack 2 := ⟨by decide, by decide, by decide +kernel, by decide⟩
theorem mp_X5_takeBack : plainName mX5_takeBack.1.cls = true := by decide +kernel
abbrev mX6_add : MD := (yX6_add, prog_8_method_3_code, 5, none)
theorem mw_X6_add : MW mX6_add := ⟨mUW (tp3 (List.mem_of_getElem? (i := 189) (by decide +kernel))) rfl, mUW (tp1 (List.mem_of_getElem? (i := 3) (by decide +kernel))) rfl⟩
theorem mi_X6_add : Cond.instanceMethod mX6_add.1 ∈ UW := mUW (tp3 (List.mem_of_getElem? (i := 187) (by decide +kernel))) rfl
theorem ms_X6_add : Cond.selects mX6_add.1.cls mX6_add.1 mX6_add.1 ∈ UW := mUW (tp3 (List.mem_of_getElem? (i := 188) (by decide +kernel))) rfl
theorem mo_X6_add : MOK mX6_add 4 := ⟨by decide, by decide, by decide +kernel, by decide⟩
theorem mp_X6_add : plainName mX6_add.1.cls = true := by decide +kernel
abbrev mX6_copyFrom : MD := (yX6_copyFrom, prog_8_method_2_code, 2, none)
theorem mw_X6_copyFrom : MW mX6_copyFrom := ⟨mUW (tp4 (List.mem_of_getElem? (i := 98) (by decide +kernel))) rfl, mUW (tp1 (List.mem_of_getElem? (i := 3) (by decide +kernel))) rfl⟩
theorem mi_X6_copyFrom : Cond.instanceMethod mX6_copyFrom.1 ∈ UW := mUW (tp4 (List.mem_of_getElem? (i := 96) (by decide +kernel))) rfl
theorem ms_X6_copyFrom : Cond.selects mX6_copyFrom.1.cls mX6_copyFrom.1 mX6_copyFrom.1 ∈ UW := mUW (tp4 (List.mem_of_getElem? (i := 97) (by decide +kernel))) rfl
theorem mo_X6_copyFrom : MOK mX6_copyFrom 1 := ⟨by decide, by decide, by decide +kernel, by decide⟩
theorem mp_X6_copyFrom : plainName mX6_copyFrom.1.cls = true := by decide +kernel
abbrev mX6_init : MD := (yX6_init, prog_8_method_1_code, 1, none)
theorem mw_X6_init : MW mX6_init := ⟨mUW (tp1 (List.mem_of_getElem? (i := 38) (by decide +kernel))) rfl, mUW (tp1 (List.mem_of_getElem? (i := 3) (by decide +kernel))) rfl⟩
theorem mi_X6_init : Cond.instanceMethod mX6_init.1 ∈ UW := mUW (tp1 (List.mem_of_getElem? (i := 37) (by decide +kernel))) rfl
theorem mo_X6_init : MOK mX6_init 0 := ⟨by decide, by decide, by decide +kernel, by decide⟩
theorem mp_X6_init : plainName mX6_init.1.cls = true := by decide +kernel
abbrev mX6_remove : MD := (yX6_remove, prog_8_method_4_code, 3, none)
theorem mw_X6_remove : MW mX6_remove := ⟨mUW (tp4 (List.mem_of_getElem? (i := 129) (by decide +kernel))) rfl, mUW (tp1 (List.mem_of_getElem? (i := 3) (by decide +kernel))) rfl⟩
theorem mi_X6_remove : Cond.instanceMethod mX6_remove.1 ∈ UW := mUW (tp4 (List.mem_of_getElem? (i := 127) (by decide +kernel))) rfl
theorem ms_X6_remove : Cond.selects mX6_remove.1.cls mX6_remove.1 mX6_remove.1 ∈ UW := mUW (tp4 (List.mem_of_getElem? (i := 128) (by decide +kernel))) rfl
theorem mo_X6_remove : MOK mX6_remove 1 := ⟨by decide, by decide, by decide +kernel, by decide⟩
theorem mp_X6_remove : plainName mX6_remove.1.cls = true := by decide +kernel
abbrev mX7_emit : MD := (yX7_emit, prog_9_method_19_code, 2, none)
theorem mw_X7_emit : MW mX7_emit := ⟨mUW (tp3 (List.mem_of_getElem? (i := 213) (by decide +kernel))) rfl, mUW (tp1 (List.mem_of_getElem? (i := 4) (by decide +kernel))) rfl⟩
theorem mi_X7_emit : Cond.instanceMethod mX7_emit.1 ∈ UW := mUW (tp3 (List.mem_of_getElem? (i := 212) (by decide +kernel))) rfl
theorem ms_X7_emit : Cond.selects mX7_emit.1.cls mX7_emit.1 mX7_emit.1 ∈ UW := mUW (tq2 (List.mem_of_getElem? (i := 3) (by decide +kernel))) rfl
theorem mo_X7_emit : MOK mX7_emit 1 := ⟨by decide, by decide, by decide +kernel, by decide⟩
theorem mp_X7_emit : plainName mX7_emit.1.cls = true := by decide +kernel
abbrev mX7_enter : MD := (yX7_enter, prog_9_method_20_code, 2, (some .boolean))
theorem mw_X7_enter : MW mX7_enter := ⟨mUW (tp3 (List.mem_of_getElem? (i := 209) (by decide +kernel))) rfl, mUW (tp1 (List.mem_of_getElem? (i := 4) (by decide +kernel))) rfl⟩
theorem mi_X7_enter : Cond.instanceMethod mX7_enter.1 ∈ UW := mUW (tp3 (List.mem_of_getElem? (i := 208) (by decide +kernel))) rfl
theorem ms_X7_enter : Cond.selects mX7_enter.1.cls mX7_enter.1 mX7_enter.1 ∈ UW := mUW (tq2 (List.mem_of_getElem? (i := 2) (by decide +kernel))) rfl
theorem mo_X7_enter : MOK mX7_enter 1 := ⟨by decide, by decide, by decide +kernel, by decide⟩
theorem mp_X7_enter : plainName mX7_enter.1.cls = true := by decide +kernel
abbrev mX7_expect : MD := (yX7_expect, prog_9_method_12_code, 2, none)
theorem mw_X7_expect : MW mX7_expect := ⟨mUW (tp3 (List.mem_of_getElem? (i := 153) (by decide +kernel))) rfl, mUW (tp1 (List.mem_of_getElem? (i := 4) (by decide +kernel))) rfl⟩
theorem mi_X7_expect : Cond.instanceMethod mX7_expect.1 ∈ UW := mUW (tp3 (List.mem_of_getElem? (i := 152) (by decide +kernel))) rfl
theorem ms_X7_expect : Cond.selects mX7_expect.1.cls mX7_expect.1 mX7_expect.1 ∈ UW := mUW (tq1 (List.mem_of_getElem? (i := 6) (by decide +kernel))) rfl
theorem mo_X7_expect : MOK mX7_expect 1 := ⟨by decide, by decide, by decide +kernel, by decide⟩
theorem mp_X7_expect : plainName mX7_expect.1.cls = true := by decide +kernel
abbrev mX7_fail : MD := (yX7_fail, prog_9_method_9_code, 2, none)
theorem mw_X7_fail : MW mX7_fail := ⟨mUW (tp3 (List.mem_of_getElem? (i := 165) (by decide +kernel))) rfl, mUW (tp1 (List.mem_of_getElem? (i := 4) (by decide +kernel))) rfl⟩
theorem mi_X7_fail : Cond.instanceMethod mX7_fail.1 ∈ UW := mUW (tp3 (List.mem_of_getElem? (i := 164) (by decide +kernel))) rfl
theorem ms_X7_fail : Cond.selects mX7_fail.1.cls mX7_fail.1 mX7_fail.1 ∈ UW := mUW (tq1 (List.mem_of_getElem? (i := 9) (by decide +kernel))) rfl
theorem mo_X7_fail : MOK mX7_fail 1 := ⟨by decide, by decide, by decide +kernel, by decide⟩
theorem mp_X7_fail : plainName mX7_fail.1.cls = true := by decide +kernel
abbrev mX7_init : MD := (yX7_init, prog_9_method_1_code, 1, none)
theorem mw_X7_init : MW mX7_init := ⟨mUW (tp1 (List.mem_of_getElem? (i := 159) (by decide +kernel))) rfl, mUW (tp1 (List.mem_of_getElem? (i := 4) (by decide +kernel))) rfl⟩
theorem mi_X7_init : Cond.instanceMethod mX7_init.1 ∈ UW := mUW (tp1 (List.mem_of_getElem? (i := 158) (by decide +kernel))) rfl
theorem mo_X7_init : MOK mX7_init 0 := ⟨by decide, by decide, by decide +kernel, by decide⟩
theorem mp_X7_init : plainName mX7_init.1.cls = true := by decide +kernel
abbrev mX7_isAt : MD := (yX7_isAt, prog_9_method_10_code, 2, (some .boolean))
theorem mw_X7_isAt : MW mX7_isAt := ⟨mUW (tp3 (List.mem_of_getElem? (i := 157) (by decide +kernel))) rfl, mUW (tp1 (List.mem_of_getElem? (i := 4) (by decide +kernel))) rfl⟩
theorem mi_X7_isAt : Cond.instanceMethod mX7_isAt.1 ∈ UW := mUW (tp3 (List.mem_of_getElem? (i := 156) (by decide +kernel))) rfl
theorem ms_X7_isAt : Cond.selects mX7_isAt.1.cls mX7_isAt.1 mX7_isAt.1 ∈ UW := mUW (tq1 (List.mem_of_getElem? (i := 7) (by decide +kernel))) rfl
theorem mo_X7_isAt : MOK mX7_isAt 1 := ⟨by decide, by decide, by decide +kernel, by decide⟩
theorem mp_X7_isAt : plainName mX7_isAt.1.cls = true := by decide +kernel
abbrev mX7_isDigit : MD := (yX7_isDigit, prog_9_method_5_code, 1, (some .boolean))
theorem mw_X7_isDigit : MW mX7_isDigit := ⟨mUW (tp3 (List.mem_of_getElem? (i := 67) (by decide +kernel))) rfl, mUW (tp1 (List.mem_of_getElem? (i := 4) (by decide +kernel))) rfl⟩
theorem mt_X7_isDigit : Cond.static mX7_isDigit.1 ∈ UW := mUW (tp3 (List.mem_of_getElem? (i := 66) (by decide +kernel))) rfl
theorem mo_X7_isDigit : MOK mX7_isDigit 1 := ⟨by decide, by decide, by decide +kernel, by decide⟩
theorem mp_X7_isDigit : plainName mX7_isDigit.1.cls = true := by decide +kernel
abbrev mX7_isLetter : MD := (yX7_isLetter, prog_9_method_4_code, 1, (some .boolean))
theorem mw_X7_isLetter : MW mX7_isLetter := ⟨mUW (tp3 (List.mem_of_getElem? (i := 15) (by decide +kernel))) rfl, mUW (tp1 (List.mem_of_getElem? (i := 4) (by decide +kernel))) rfl⟩
theorem mt_X7_isLetter : Cond.static mX7_isLetter.1 ∈ UW := mUW (tp3 (List.mem_of_getElem? (i := 14) (by decide +kernel))) rfl
theorem mo_X7_isLetter : MOK mX7_isLetter 1 := ⟨by decide, by decide, by decide +kernel, by decide⟩
theorem mp_X7_isLetter : plainName mX7_isLetter.1.cls = true := by decide +kernel
abbrev mX7_putNumber : MD := (yX7_putNumber, prog_9_method_7_code, 5, none)
theorem mw_X7_putNumber : MW mX7_putNumber := ⟨mUW (tp3 (List.mem_of_getElem? (i := 71) (by decide +kernel))) rfl, mUW (tp1 (List.mem_of_getElem? (i := 4) (by decide +kernel))) rfl⟩
theorem mi_X7_putNumber : Cond.instanceMethod mX7_putNumber.1 ∈ UW := mUW (tp3 (List.mem_of_getElem? (i := 70) (by decide +kernel))) rfl
theorem ms_X7_putNumber : Cond.selects mX7_putNumber.1.cls mX7_putNumber.1 mX7_putNumber.1 ∈ UW := mUW (tq1 (List.mem_of_getElem? (i := 4) (by decide +kernel))) rfl
theorem mo_X7_putNumber : MOK mX7_putNumber 2 := ⟨by decide, by decide, by decide +kernel, by decide⟩
theorem mp_X7_putNumber : plainName mX7_putNumber.1.cls = true := by decide +kernel
abbrev mX7_putToken : MD := (yX7_putToken, prog_9_method_6_code, 4, none)
theorem mw_X7_putToken : MW mX7_putToken := ⟨mUW (tp3 (List.mem_of_getElem? (i := 64) (by decide +kernel))) rfl, mUW (tp1 (List.mem_of_getElem? (i := 4) (by decide +kernel))) rfl⟩
theorem mi_X7_putToken : Cond.instanceMethod mX7_putToken.1 ∈ UW := mUW (tp3 (List.mem_of_getElem? (i := 63) (by decide +kernel))) rfl
theorem ms_X7_putToken : Cond.selects mX7_putToken.1.cls mX7_putToken.1 mX7_putToken.1 ∈ UW := mUW (tq1 (List.mem_of_getElem? (i := 3) (by decide +kernel))) rfl
theorem mo_X7_putToken : MOK mX7_putToken 3 := ⟨by decide, by decide, by decide +kernel, by decide⟩
theorem mp_X7_putToken : plainName mX7_putToken.1.cls = true := by decide +kernel
abbrev mX7_read : MD := (yX7_read, prog_9_method_2_code, 5, (some .boolean))
theorem mw_X7_read : MW mX7_read := ⟨mUW (tp3 (List.mem_of_getElem? (i := 8) (by decide +kernel))) rfl, mUW (tp1 (List.mem_of_getElem? (i := 4) (by decide +kernel))) rfl⟩
theorem mi_X7_read : Cond.instanceMethod mX7_read.1 ∈ UW := mUW (tp3 (List.mem_of_getElem? (i := 6) (by decide +kernel))) rfl
theorem ms_X7_read : Cond.selects mX7_read.1.cls mX7_read.1 mX7_read.1 ∈ UW := mUW (tp3 (List.mem_of_getElem? (i := 7) (by decide +kernel))) rfl
theorem mo_X7_read : MOK mX7_read 3 := ⟨by decide, by decide, by decide +kernel, by decide⟩
theorem mp_X7_read : plainName mX7_read.1.cls = true := by decide +kernel
abbrev mX7_readAtom : MD := (yX7_readAtom, prog_9_method_26_code, 3, none)
theorem mw_X7_readAtom : MW mX7_readAtom := ⟨mUW (tp3 (List.mem_of_getElem? (i := 225) (by decide +kernel))) rfl, mUW (tp1 (List.mem_of_getElem? (i := 4) (by decide +kernel))) rfl⟩
theorem mi_X7_readAtom : Cond.instanceMethod mX7_readAtom.1 ∈ UW := mUW (tp3 (List.mem_of_getElem? (i := 224) (by decide +kernel))) rfl
theorem ms_X7_readAtom : Cond.selects mX7_readAtom.1.cls mX7_readAtom.1 mX7_readAtom.1 ∈ UW := mUW (tq2 (List.mem_of_getElem? (i := 6) (by decide +kernel))) rfl
theorem mo_X7_readAtom : MOK mX7_readAtom 1 := ⟨by decide, by decide, by decide +kernel, by decide⟩
theorem mp_X7_readAtom : plainName mX7_readAtom.1.cls = true := by decide +kernel
abbrev mX7_readBoth : MD := (yX7_readBoth, prog_9_method_22_code, 3, none)
theorem mw_X7_readBoth : MW mX7_readBoth := ⟨mUW (tp3 (List.mem_of_getElem? (i := 201) (by decide +kernel))) rfl, mUW (tp1 (List.mem_of_getElem? (i := 4) (by decide +kernel))) rfl⟩
theorem mi_X7_readBoth : Cond.instanceMethod mX7_readBoth.1 ∈ UW := mUW (tp3 (List.mem_of_getElem? (i := 200) (by decide +kernel))) rfl
theorem ms_X7_readBoth : Cond.selects mX7_readBoth.1.cls mX7_readBoth.1 mX7_readBoth.1 ∈ UW := mUW (tq2 (List.mem_of_getElem? (i := 0) (by decide +kernel))) rfl
theorem mo_X7_readBoth : MOK mX7_readBoth 1 := ⟨by decide, by decide, by decide +kernel, by decide⟩
theorem mp_X7_readBoth : plainName mX7_readBoth.1.cls = true := by decide +kernel
abbrev mX7_readChoice : MD := (yX7_readChoice, prog_9_method_27_code, 2, none)
theorem mw_X7_readChoice : MW mX7_readChoice := ⟨mUW (tp3 (List.mem_of_getElem? (i := 229) (by decide +kernel))) rfl, mUW (tp1 (List.mem_of_getElem? (i := 4) (by decide +kernel))) rfl⟩
theorem mi_X7_readChoice : Cond.instanceMethod mX7_readChoice.1 ∈ UW := mUW (tp3 (List.mem_of_getElem? (i := 228) (by decide +kernel))) rfl
theorem ms_X7_readChoice : Cond.selects mX7_readChoice.1.cls mX7_readChoice.1 mX7_readChoice.1 ∈ UW := mUW (tq2 (List.mem_of_getElem? (i := 7) (by decide +kernel))) rfl
theorem mo_X7_readChoice : MOK mX7_readChoice 1 := ⟨by decide, by decide, by decide +kernel, by decide⟩
theorem mp_X7_readChoice : plainName mX7_readChoice.1.cls = true := by decide +kernel
abbrev mX7_readFirstLine : MD := (yX7_readFirstLine, prog_9_method_14_code, 1, none)
theorem mw_X7_readFirstLine : MW mX7_readFirstLine := ⟨mUW (tp3 (List.mem_of_getElem? (i := 149) (by decide +kernel))) rfl, mUW (tp1 (List.mem_of_getElem? (i := 4) (by decide +kernel))) rfl⟩
theorem mi_X7_readFirstLine : Cond.instanceMethod mX7_readFirstLine.1 ∈ UW := mUW (tp3 (List.mem_of_getElem? (i := 148) (by decide +kernel))) rfl
theorem ms_X7_readFirstLine : Cond.selects mX7_readFirstLine.1.cls mX7_readFirstLine.1 mX7_readFirstLine.1 ∈ UW := mUW (tq1 (List.mem_of_getElem? (i := 5) (by decide +kernel))) rfl
theorem mo_X7_readFirstLine : MOK mX7_readFirstLine 0 := ⟨by decide, by decide, by decide +kernel, by decide⟩
theorem mp_X7_readFirstLine : plainName mX7_readFirstLine.1.cls = true := by decide +kernel
abbrev mX7_readLaw : MD := (yX7_readLaw, prog_9_method_18_code, 3, none)
theorem mw_X7_readLaw : MW mX7_readLaw := ⟨mUW (tp3 (List.mem_of_getElem? (i := 193) (by decide +kernel))) rfl, mUW (tp1 (List.mem_of_getElem? (i := 4) (by decide +kernel))) rfl⟩
theorem mi_X7_readLaw : Cond.instanceMethod mX7_readLaw.1 ∈ UW := mUW (tp3 (List.mem_of_getElem? (i := 192) (by decide +kernel))) rfl
theorem ms_X7_readLaw : Cond.selects mX7_readLaw.1.cls mX7_readLaw.1 mX7_readLaw.1 ∈ UW := mUW (tq1 (List.mem_of_getElem? (i := 14) (by decide +kernel))) rfl
theorem mo_X7_readLaw : MOK mX7_readLaw 1 := ⟨by decide, by decide, by decide +kernel, by decide⟩
theorem mp_X7_readLaw : plainName mX7_readLaw.1.cls = true := by decide +kernel
abbrev mX7_readLine : MD := (yX7_readLine, prog_9_method_15_code, 1, none)
theorem mw_X7_readLine : MW mX7_readLine := ⟨mUW (tp3 (List.mem_of_getElem? (i := 173) (by decide +kernel))) rfl, mUW (tp1 (List.mem_of_getElem? (i := 4) (by decide +kernel))) rfl⟩
theorem mi_X7_readLine : Cond.instanceMethod mX7_readLine.1 ∈ UW := mUW (tp3 (List.mem_of_getElem? (i := 172) (by decide +kernel))) rfl
theorem ms_X7_readLine : Cond.selects mX7_readLine.1.cls mX7_readLine.1 mX7_readLine.1 ∈ UW := mUW (tq1 (List.mem_of_getElem? (i := 11) (by decide +kernel))) rfl
theorem mo_X7_readLine : MOK mX7_readLine 0 := ⟨by decide, by decide, by decide +kernel, by decide⟩
theorem mp_X7_readLine : plainName mX7_readLine.1.cls = true := by decide +kernel
abbrev mX7_readNaming : MD := (yX7_readNaming, prog_9_method_17_code, 6, none)
theorem mw_X7_readNaming : MW mX7_readNaming := ⟨mUW (tp3 (List.mem_of_getElem? (i := 185) (by decide +kernel))) rfl, mUW (tp1 (List.mem_of_getElem? (i := 4) (by decide +kernel))) rfl⟩
theorem mi_X7_readNaming : Cond.instanceMethod mX7_readNaming.1 ∈ UW := mUW (tp3 (List.mem_of_getElem? (i := 184) (by decide +kernel))) rfl
theorem ms_X7_readNaming : Cond.selects mX7_readNaming.1.cls mX7_readNaming.1 mX7_readNaming.1 ∈ UW := mUW (tq1 (List.mem_of_getElem? (i := 13) (by decide +kernel))) rfl
theorem mo_X7_readNaming : MOK mX7_readNaming 0 := ⟨by decide, by decide, by decide +kernel, by decide⟩
theorem mp_X7_readNaming : plainName mX7_readNaming.1.cls = true := by decide +kernel
abbrev mX7_readNumber : MD := (yX7_readNumber, prog_9_method_13_code, 4, (some .int))
theorem mw_X7_readNumber : MW mX7_readNumber := ⟨mUW (tp3 (List.mem_of_getElem? (i := 169) (by decide +kernel))) rfl, mUW (tp1 (List.mem_of_getElem? (i := 4) (by decide +kernel))) rfl⟩
theorem mi_X7_readNumber : Cond.instanceMethod mX7_readNumber.1 ∈ UW := mUW (tp3 (List.mem_of_getElem? (i := 168) (by decide +kernel))) rfl
theorem ms_X7_readNumber : Cond.selects mX7_readNumber.1.cls mX7_readNumber.1 mX7_readNumber.1 ∈ UW := mUW (tq1 (List.mem_of_getElem? (i := 10) (by decide +kernel))) rfl
theorem mo_X7_readNumber : MOK mX7_readNumber 2 := ⟨by decide, by decide, by decide +kernel, by decide⟩
theorem mp_X7_readNumber : plainName mX7_readNumber.1.cls = true := by decide +kernel
abbrev mX7_readPerson : MD := (yX7_readPerson, prog_9_method_16_code, 5, none)
theorem mw_X7_readPerson : MW mX7_readPerson := ⟨mUW (tp3 (List.mem_of_getElem? (i := 177) (by decide +kernel))) rfl, mUW (tp1 (List.mem_of_getElem? (i := 4) (by decide +kernel))) rfl⟩
theorem mi_X7_readPerson : Cond.instanceMethod mX7_readPerson.1 ∈ UW := mUW (tp3 (List.mem_of_getElem? (i := 176) (by decide +kernel))) rfl
theorem ms_X7_readPerson : Cond.selects mX7_readPerson.1.cls mX7_readPerson.1 mX7_readPerson.1 ∈ UW := mUW (tq1 (List.mem_of_getElem? (i := 12) (by decide +kernel))) rfl
theorem mo_X7_readPerson : MOK mX7_readPerson 0 := ⟨by decide, by decide, by decide +kernel, by decide⟩
theorem mp_X7_readPerson : plainName mX7_readPerson.1.cls = true := by decide +kernel
abbrev mX7_readSum : MD := (yX7_readSum, prog_9_method_24_code, 4, none)
theorem mw_X7_readSum : MW mX7_readSum := ⟨mUW (tp3 (List.mem_of_getElem? (i := 217) (by decide +kernel))) rfl, mUW (tp1 (List.mem_of_getElem? (i := 4) (by decide +kernel))) rfl⟩
theorem mi_X7_readSum : Cond.instanceMethod mX7_readSum.1 ∈ UW := mUW (tp3 (List.mem_of_getElem? (i := 216) (by decide +kernel))) rfl
theorem ms_X7_readSum : Cond.selects mX7_readSum.1.cls mX7_readSum.1 mX7_readSum.1 ∈ UW := mUW (tq2 (List.mem_of_getElem? (i := 4) (by decide +kernel))) rfl
theorem mo_X7_readSum : MOK mX7_readSum 1 := ⟨by decide, by decide, by decide +kernel, by decide⟩
theorem mp_X7_readSum : plainName mX7_readSum.1.cls = true := by decide +kernel
abbrev mX7_readTerm : MD := (yX7_readTerm, prog_9_method_25_code, 3, none)
theorem mw_X7_readTerm : MW mX7_readTerm := ⟨mUW (tp3 (List.mem_of_getElem? (i := 221) (by decide +kernel))) rfl, mUW (tp1 (List.mem_of_getElem? (i := 4) (by decide +kernel))) rfl⟩
theorem mi_X7_readTerm : Cond.instanceMethod mX7_readTerm.1 ∈ UW := mUW (tp3 (List.mem_of_getElem? (i := 220) (by decide +kernel))) rfl
theorem ms_X7_readTerm : Cond.selects mX7_readTerm.1.cls mX7_readTerm.1 mX7_readTerm.1 ∈ UW := mUW (tq2 (List.mem_of_getElem? (i := 5) (by decide +kernel))) rfl
theorem mo_X7_readTerm : MOK mX7_readTerm 1 := ⟨by decide, by decide, by decide +kernel, by decide⟩
theorem mp_X7_readTerm : plainName mX7_readTerm.1.cls = true := by decide +kernel
abbrev mX7_readTruth : MD := (yX7_readTruth, prog_9_method_21_code, 3, none)
theorem mw_X7_readTruth : MW mX7_readTruth := ⟨mUW (tp3 (List.mem_of_getElem? (i := 197) (by decide +kernel))) rfl, mUW (tp1 (List.mem_of_getElem? (i := 4) (by decide +kernel))) rfl⟩
theorem mi_X7_readTruth : Cond.instanceMethod mX7_readTruth.1 ∈ UW := mUW (tp3 (List.mem_of_getElem? (i := 196) (by decide +kernel))) rfl
theorem ms_X7_readTruth : Cond.selects mX7_readTruth.1.cls mX7_readTruth.1 mX7_readTruth.1 ∈ UW := mUW (tq1 (List.mem_of_getElem? (i := 15) (by decide +kernel))) rfl
theorem mo_X7_readTruth : MOK mX7_readTruth 1 := ⟨by decide, by decide, by decide +kernel, by decide⟩
theorem mp_X7_readTruth : plainName mX7_readTruth.1.cls = true := by decide +kernel
abbrev mX7_readUnit : MD := (yX7_readUnit, prog_9_method_23_code, 3, none)
theorem mw_X7_readUnit : MW mX7_readUnit := ⟨mUW (tp3 (List.mem_of_getElem? (i := 205) (by decide +kernel))) rfl, mUW (tp1 (List.mem_of_getElem? (i := 4) (by decide +kernel))) rfl⟩
theorem mi_X7_readUnit : Cond.instanceMethod mX7_readUnit.1 ∈ UW := mUW (tp3 (List.mem_of_getElem? (i := 204) (by decide +kernel))) rfl
theorem ms_X7_readUnit : Cond.selects mX7_readUnit.1.cls mX7_readUnit.1 mX7_readUnit.1 ∈ UW := mUW (tq2 (List.mem_of_getElem? (i := 1) (by decide +kernel))) rfl
theorem mo_X7_readUnit : MOK mX7_readUnit 1 := ⟨by decide, by decide, by decide +kernel, by decide⟩
theorem mp_X7_readUnit : plainName mX7_readUnit.1.cls = true := by decide +kernel
abbrev mX7_split : MD := (yX7_split, prog_9_method_3_code, 6, none)
theorem mw_X7_split : MW mX7_split := ⟨mUW (tp3 (List.mem_of_getElem? (i := 12) (by decide +kernel))) rfl, mUW (tp1 (List.mem_of_getElem? (i := 4) (by decide +kernel))) rfl⟩
theorem mi_X7_split : Cond.instanceMethod mX7_split.1 ∈ UW := mUW (tp3 (List.mem_of_getElem? (i := 11) (by decide +kernel))) rfl
theorem ms_X7_split : Cond.selects mX7_split.1.cls mX7_split.1 mX7_split.1 ∈ UW := mUW (tq1 (List.mem_of_getElem? (i := 1) (by decide +kernel))) rfl
theorem mo_X7_split : MOK mX7_split 1 := ⟨by decide, by decide, by decide +kernel, by decide⟩
theorem mp_X7_split : plainName mX7_split.1.cls = true := by decide +kernel
abbrev mX7_step : MD := (yX7_step, prog_9_method_11_code, 1, none)
theorem mw_X7_step : MW mX7_step := ⟨mUW (tp3 (List.mem_of_getElem? (i := 161) (by decide +kernel))) rfl, mUW (tp1 (List.mem_of_getElem? (i := 4) (by decide +kernel))) rfl⟩
theorem mi_X7_step : Cond.instanceMethod mX7_step.1 ∈ UW := mUW (tp3 (List.mem_of_getElem? (i := 160) (by decide +kernel))) rfl
theorem ms_X7_step : Cond.selects mX7_step.1.cls mX7_step.1 mX7_step.1 ∈ UW := mUW (tq1 (List.mem_of_getElem? (i := 8) (by decide +kernel))) rfl
theorem mo_X7_step : MOK mX7_step 0 := ⟨by decide, by decide, by decide +kernel, by decide⟩
theorem mp_X7_step : plainName mX7_step.1.cls = true := by decide +kernel
abbrev mX7_wordKind : MD := (yX7_wordKind, prog_9_method_8_code, 5, (some .int))
theorem mw_X7_wordKind : MW mX7_wordKind := ⟨mUW (tp3 (List.mem_of_getElem? (i := 19) (by decide +kernel))) rfl, mUW (tp1 (List.mem_of_getElem? (i := 4) (by decide +kernel))) rfl⟩
theorem mi_X7_wordKind : Cond.instanceMethod mX7_wordKind.1 ∈ UW := mUW (tp3 (List.mem_of_getElem? (i := 18) (by decide +kernel))) rfl
theorem ms_X7_wordKind : Cond.selects mX7_wordKind.1.cls mX7_wordKind.1 mX7_wordKind.1 ∈ UW := mUW (tq1 (List.mem_of_getElem? (i := 2) (by decide +kernel))) rfl
theorem mo_X7_wordKind : MOK mX7_wordKind 2 := ⟨by decide, by decide, by decide +kernel, by decide⟩
theorem mp_X7_wordKind : plainName mX7_wordKind.1.cls = true := by decide +kernel
abbrev mX8_init : MD := (yX8_init, prog_10_method_1_code, 1, none)
theorem mw_X8_init : MW mX8_init := ⟨mUW (tp2 (List.mem_of_getElem? (i := 152) (by decide +kernel))) rfl, mUW (tp1 (List.mem_of_getElem? (i := 10) (by decide +kernel))) rfl⟩
theorem mi_X8_init : Cond.instanceMethod mX8_init.1 ∈ UW := mUW (tp2 (List.mem_of_getElem? (i := 151) (by decide +kernel))) rfl
theorem mo_X8_init : MOK mX8_init 0 := ⟨by decide, by decide, by decide +kernel, by decide⟩
theorem mp_X8_init : plainName mX8_init.1.cls = true := by decide +kernel
abbrev mX8_lay : MD := (yX8_lay, prog_10_method_2_code, 3, none)
theorem mw_X8_lay : MW mX8_lay := ⟨mUW (tp5 (List.mem_of_getElem? (i := 130) (by decide +kernel))) rfl, mUW (tp1 (List.mem_of_getElem? (i := 10) (by decide +kernel))) rfl⟩
theorem mi_X8_lay : Cond.instanceMethod mX8_lay.1 ∈ UW := mUW (tp5 (List.mem_of_getElem? (i := 128) (by decide +kernel))) rfl
theorem ms_X8_lay : Cond.selects mX8_lay.1.cls mX8_lay.1 mX8_lay.1 ∈ UW := mUW (tp5 (List.mem_of_getElem? (i := 129) (by decide +kernel))) rfl
theorem mo_X8_lay : MOK mX8_lay 2 := ⟨by decide, by decide, by decide +kernel, by decide⟩
theorem mp_X8_lay : plainName mX8_lay.1.cls = true := by decide +kernel
abbrev mX8_put : MD := (yX8_put, prog_10_method_3_code, 4, (some .long))
theorem mw_X8_put : MW mX8_put := ⟨mUW (tp5 (List.mem_of_getElem? (i := 141) (by decide +kernel))) rfl, mUW (tp1 (List.mem_of_getElem? (i := 10) (by decide +kernel))) rfl⟩
theorem mi_X8_put : Cond.instanceMethod mX8_put.1 ∈ UW := mUW (tp5 (List.mem_of_getElem? (i := 139) (by decide +kernel))) rfl
theorem ms_X8_put : Cond.selects mX8_put.1.cls mX8_put.1 mX8_put.1 ∈ UW := mUW (tp5 (List.mem_of_getElem? (i := 140) (by decide +kernel))) rfl
theorem mo_X8_put : MOK mX8_put 2 := ⟨by decide, by decide, by decide +kernel, by decide⟩
theorem mp_X8_put : plainName mX8_put.1.cls = true := by decide +kernel
abbrev mX9_acceptTrial : MD := (yX9_acceptTrial, prog_1_method_58_code, 1, none)
theorem mw_X9_acceptTrial : MW mX9_acceptTrial := ⟨mUW (tp4 (List.mem_of_getElem? (i := 113) (by decide +kernel))) rfl, mUW (tp1 (List.mem_of_getElem? (i := 1) (by decide +kernel))) rfl⟩
theorem mi_X9_acceptTrial : Cond.instanceMethod mX9_acceptTrial.1 ∈ UW := mUW (tp4 (List.mem_of_getElem? (i := 112) (by decide +kernel))) rfl
theorem ms_X9_acceptTrial : Cond.selects mX9_acceptTrial.1.cls mX9_acceptTrial.1 mX9_acceptTrial.1 ∈ UW := mUW (tq3 (List.mem_of_getElem? (i := 3) (by decide +kernel))) rfl
theorem mo_X9_acceptTrial : MOK mX9_acceptTrial 0 := ⟨by decide, by decide, by decide +kernel, by decide⟩
theorem mp_X9_acceptTrial : plainName mX9_acceptTrial.1.cls = true := by decide +kernel
abbrev mX9_answers : MD := (yX9_answers, prog_1_method_21_code, 2, (some .int))
theorem mw_X9_answers : MW mX9_answers := ⟨mUW (tp4 (List.mem_of_getElem? (i := 214) (by decide +kernel))) rfl, mUW (tp1 (List.mem_of_getElem? (i := 1) (by decide +kernel))) rfl⟩
theorem mi_X9_answers : Cond.instanceMethod mX9_answers.1 ∈ UW := mUW (tp4 (List.mem_of_getElem? (i := 212) (by decide +kernel))) rfl
theorem ms_X9_answers : Cond.selects mX9_answers.1.cls mX9_answers.1 mX9_answers.1 ∈ UW := mUW (tp4 (List.mem_of_getElem? (i := 213) (by decide +kernel))) rfl
theorem mo_X9_answers : MOK mX9_answers 1 := ⟨by decide, by decide, by decide +kernel, by decide⟩
theorem mp_X9_answers : plainName mX9_answers.1.cls = true := by decide +kernel
abbrev mX9_atOnce : MD := (yX9_atOnce, prog_1_method_27_code, 6, (some .int))
theorem mw_X9_atOnce : MW mX9_atOnce := ⟨mUW (tp5 (List.mem_of_getElem? (i := 10) (by decide +kernel))) rfl, mUW (tp1 (List.mem_of_getElem? (i := 1) (by decide +kernel))) rfl⟩
theorem mi_X9_atOnce : Cond.instanceMethod mX9_atOnce.1 ∈ UW := mUW (tp5 (List.mem_of_getElem? (i := 8) (by decide +kernel))) rfl
theorem ms_X9_atOnce : Cond.selects mX9_atOnce.1.cls mX9_atOnce.1 mX9_atOnce.1 ∈ UW := mUW (tp5 (List.mem_of_getElem? (i := 9) (by decide +kernel))) rfl
theorem mo_X9_atOnce : MOK mX9_atOnce 2 := ⟨by decide, by decide, by decide +kernel, by decide⟩
theorem mp_X9_atOnce : plainName mX9_atOnce.1.cls = true := by decide +kernel
abbrev mX9_attempt : MD := (yX9_attempt, prog_1_method_31_code, 9, (some .int))
theorem mw_X9_attempt : MW mX9_attempt := ⟨mUW (tp5 (List.mem_of_getElem? (i := 77) (by decide +kernel))) rfl, mUW (tp1 (List.mem_of_getElem? (i := 1) (by decide +kernel))) rfl⟩
theorem mi_X9_attempt : Cond.instanceMethod mX9_attempt.1 ∈ UW := mUW (tp5 (List.mem_of_getElem? (i := 75) (by decide +kernel))) rfl
theorem ms_X9_attempt : Cond.selects mX9_attempt.1.cls mX9_attempt.1 mX9_attempt.1 ∈ UW := mUW (tp5 (List.mem_of_getElem? (i := 76) (by decide +kernel))) rfl
theorem mo_X9_attempt : MOK mX9_attempt 2 := ⟨by decide, by decide, by decide +kernel, by decide⟩
theorem mp_X9_attempt : plainName mX9_attempt.1.cls = true := by decide +kernel
abbrev mX9_between : MD := (yX9_between, prog_1_method_7_code, 5, (some .int))
theorem mw_X9_between : MW mX9_between := ⟨mUW (tp4 (List.mem_of_getElem? (i := 90) (by decide +kernel))) rfl, mUW (tp1 (List.mem_of_getElem? (i := 1) (by decide +kernel))) rfl⟩
theorem mi_X9_between : Cond.instanceMethod mX9_between.1 ∈ UW := mUW (tp4 (List.mem_of_getElem? (i := 88) (by decide +kernel))) rfl
theorem ms_X9_between : Cond.selects mX9_between.1.cls mX9_between.1 mX9_between.1 ∈ UW := mUW (tp4 (List.mem_of_getElem? (i := 89) (by decide +kernel))) rfl
theorem mo_X9_between : MOK mX9_between 3 := ⟨by decide, by decide, by decide +kernel, by decide⟩
theorem mp_X9_between : plainName mX9_between.1.cls = true := by decide +kernel
abbrev mX9_chance : MD := (yX9_chance, prog_1_method_33_code, 3, (some .int))
theorem mw_X9_chance : MW mX9_chance := ⟨mUW (tp5 (List.mem_of_getElem? (i := 95) (by decide +kernel))) rfl, mUW (tp1 (List.mem_of_getElem? (i := 1) (by decide +kernel))) rfl⟩
theorem mi_X9_chance : Cond.instanceMethod mX9_chance.1 ∈ UW := mUW (tp5 (List.mem_of_getElem? (i := 93) (by decide +kernel))) rfl
theorem ms_X9_chance : Cond.selects mX9_chance.1.cls mX9_chance.1 mX9_chance.1 ∈ UW := mUW (tp5 (List.mem_of_getElem? (i := 94) (by decide +kernel))) rfl
theorem mo_X9_chance : MOK mX9_chance 2 := ⟨by decide, by decide, by decide +kernel, by decide⟩
theorem mp_X9_chance : plainName mX9_chance.1.cls = true := by decide +kernel
abbrev mX9_count : MD := (yX9_count, prog_1_method_41_code, 2, (some .int))
theorem mw_X9_count : MW mX9_count := ⟨mUW (tp5 (List.mem_of_getElem? (i := 172) (by decide +kernel))) rfl, mUW (tp1 (List.mem_of_getElem? (i := 1) (by decide +kernel))) rfl⟩
theorem mi_X9_count : Cond.instanceMethod mX9_count.1 ∈ UW := mUW (tp5 (List.mem_of_getElem? (i := 170) (by decide +kernel))) rfl
theorem ms_X9_count : Cond.selects mX9_count.1.cls mX9_count.1 mX9_count.1 ∈ UW := mUW (tp5 (List.mem_of_getElem? (i := 171) (by decide +kernel))) rfl
theorem mo_X9_count : MOK mX9_count 1 := ⟨by decide, by decide, by decide +kernel, by decide⟩
theorem mp_X9_count : plainName mX9_count.1.cls = true := by decide +kernel
abbrev mX9_crowd : MD := (yX9_crowd, prog_1_method_19_code, 4, (some .int))
theorem mw_X9_crowd : MW mX9_crowd := ⟨mUW (tp4 (List.mem_of_getElem? (i := 206) (by decide +kernel))) rfl, mUW (tp1 (List.mem_of_getElem? (i := 1) (by decide +kernel))) rfl⟩
theorem mi_X9_crowd : Cond.instanceMethod mX9_crowd.1 ∈ UW := mUW (tp4 (List.mem_of_getElem? (i := 204) (by decide +kernel))) rfl
theorem ms_X9_crowd : Cond.selects mX9_crowd.1.cls mX9_crowd.1 mX9_crowd.1 ∈ UW := mUW (tp4 (List.mem_of_getElem? (i := 205) (by decide +kernel))) rfl
theorem mo_X9_crowd : MOK mX9_crowd 1 := ⟨by decide, by decide, by decide +kernel, by decide⟩
theorem mp_X9_crowd : plainName mX9_crowd.1.cls = true := by decide +kernel
abbrev mX9_deed : MD := (yX9_deed, prog_1_method_56_code, 5, (some .int))
theorem mw_X9_deed : MW mX9_deed := ⟨mUW (tp4 (List.mem_of_getElem? (i := 168) (by decide +kernel))) rfl, mUW (tp1 (List.mem_of_getElem? (i := 1) (by decide +kernel))) rfl⟩
theorem mi_X9_deed : Cond.instanceMethod mX9_deed.1 ∈ UW := mUW (tp4 (List.mem_of_getElem? (i := 167) (by decide +kernel))) rfl
theorem ms_X9_deed : Cond.selects mX9_deed.1.cls mX9_deed.1 mX9_deed.1 ∈ UW := mUW (tq3 (List.mem_of_getElem? (i := 6) (by decide +kernel))) rfl
theorem mo_X9_deed : MOK mX9_deed 2 := ⟨by decide, by decide, by decide +kernel, by decide⟩
theorem mp_X9_deed : plainName mX9_deed.1.cls = true := by decide +kernel
abbrev mX9_draw : MD := (yX9_draw, prog_1_method_59_code, 2, (some .int))
theorem mw_X9_draw : MW mX9_draw := ⟨mUW (tp4 (List.mem_of_getElem? (i := 189) (by decide +kernel))) rfl, mUW (tp1 (List.mem_of_getElem? (i := 1) (by decide +kernel))) rfl⟩
theorem mi_X9_draw : Cond.instanceMethod mX9_draw.1 ∈ UW := mUW (tp4 (List.mem_of_getElem? (i := 188) (by decide +kernel))) rfl
theorem ms_X9_draw : Cond.selects mX9_draw.1.cls mX9_draw.1 mX9_draw.1 ∈ UW := mUW (tq3 (List.mem_of_getElem? (i := 8) (by decide +kernel))) rfl
theorem mo_X9_draw : MOK mX9_draw 1 := ⟨by decide, by decide, by decide +kernel, by decide⟩
theorem mp_X9_draw : plainName mX9_draw.1.cls = true := by decide +kernel
abbrev mX9_drawDeed : MD := (yX9_drawDeed, prog_1_method_60_code, 1, (some .int))
theorem mw_X9_drawDeed : MW mX9_drawDeed := ⟨mUW (tp4 (List.mem_of_getElem? (i := 185) (by decide +kernel))) rfl, mUW (tp1 (List.mem_of_getElem? (i := 1) (by decide +kernel))) rfl⟩
theorem mi_X9_drawDeed : Cond.instanceMethod mX9_drawDeed.1 ∈ UW := mUW (tp4 (List.mem_of_getElem? (i := 184) (by decide +kernel))) rfl
theorem ms_X9_drawDeed : Cond.selects mX9_drawDeed.1.cls mX9_drawDeed.1 mX9_drawDeed.1 ∈ UW := mUW (tq3 (List.mem_of_getElem? (i := 7) (by decide +kernel))) rfl
theorem mo_X9_drawDeed : MOK mX9_drawDeed 0 := ⟨by decide, by decide, by decide +kernel, by decide⟩
theorem mp_X9_drawDeed : plainName mX9_drawDeed.1.cls = true := by decide +kernel
abbrev mX9_drop : MD := (yX9_drop, prog_1_method_9_code, 3, (some .int))
theorem mw_X9_drop : MW mX9_drop := ⟨mUW (tp4 (List.mem_of_getElem? (i := 122) (by decide +kernel))) rfl, mUW (tp1 (List.mem_of_getElem? (i := 1) (by decide +kernel))) rfl⟩
theorem mi_X9_drop : Cond.instanceMethod mX9_drop.1 ∈ UW := mUW (tp4 (List.mem_of_getElem? (i := 120) (by decide +kernel))) rfl
theorem ms_X9_drop : Cond.selects mX9_drop.1.cls mX9_drop.1 mX9_drop.1 ∈ UW := mUW (tp4 (List.mem_of_getElem? (i := 121) (by decide +kernel))) rfl
theorem mo_X9_drop : MOK mX9_drop 1 := ⟨by decide, by decide, by decide +kernel, by decide⟩
theorem mp_X9_drop : plainName mX9_drop.1.cls = true := by decide +kernel
abbrev mX9_dropIn : MD := (yX9_dropIn, prog_1_method_53_code, 2, (some .int))
theorem mw_X9_dropIn : MW mX9_dropIn := ⟨mUW (tp4 (List.mem_of_getElem? (i := 125) (by decide +kernel))) rfl, mUW (tp1 (List.mem_of_getElem? (i := 1) (by decide +kernel))) rfl⟩
theorem mt_X9_dropIn : Cond.static mX9_dropIn.1 ∈ UW := mUW (tp4 (List.mem_of_getElem? (i := 124) (by decide +kernel))) rfl
theorem mo_X9_dropIn : MOK mX9_dropIn 2 := ⟨by decide, by decide, by decide +kernel, by decide⟩
theorem mp_X9_dropIn : plainName mX9_dropIn.1.cls = true := by decide +kernel
abbrev mX9_famous : MD := (yX9_famous, prog_1_method_35_code, 3, (some .int))
theorem mw_X9_famous : MW mX9_famous := ⟨mUW (tp5 (List.mem_of_getElem? (i := 122) (by decide +kernel))) rfl, mUW (tp1 (List.mem_of_getElem? (i := 1) (by decide +kernel))) rfl⟩
theorem mi_X9_famous : Cond.instanceMethod mX9_famous.1 ∈ UW := mUW (tp5 (List.mem_of_getElem? (i := 120) (by decide +kernel))) rfl
theorem ms_X9_famous : Cond.selects mX9_famous.1.cls mX9_famous.1 mX9_famous.1 ∈ UW := mUW (tp5 (List.mem_of_getElem? (i := 121) (by decide +kernel))) rfl
theorem mo_X9_famous : MOK mX9_famous 0 := ⟨by decide, by decide, by decide +kernel, by decide⟩
theorem mp_X9_famous : plainName mX9_famous.1.cls = true := by decide +kernel
abbrev mX9_fault : MD := (yX9_fault, prog_1_method_4_code, 2, (some .int))
theorem mw_X9_fault : MW mX9_fault := ⟨mUW (tp4 (List.mem_of_getElem? (i := 1) (by decide +kernel))) rfl, mUW (tp1 (List.mem_of_getElem? (i := 1) (by decide +kernel))) rfl⟩
theorem mi_X9_fault : Cond.instanceMethod mX9_fault.1 ∈ UW := mUW (tp3 (List.mem_of_getElem? (i := 239) (by decide +kernel))) rfl
theorem ms_X9_fault : Cond.selects mX9_fault.1.cls mX9_fault.1 mX9_fault.1 ∈ UW := mUW (tp4 (List.mem_of_getElem? (i := 0) (by decide +kernel))) rfl
theorem mo_X9_fault : MOK mX9_fault 1 := ⟨by decide, by decide, by decide +kernel, by decide⟩
theorem mp_X9_fault : plainName mX9_fault.1.cls = true := by decide +kernel
abbrev mX9_feed : MD := (yX9_feed, prog_1_method_2_code, 6, (some .int))
theorem mw_X9_feed : MW mX9_feed := ⟨mUW (tp2 (List.mem_of_getElem? (i := 236) (by decide +kernel))) rfl, mUW (tp1 (List.mem_of_getElem? (i := 1) (by decide +kernel))) rfl⟩
theorem mi_X9_feed : Cond.instanceMethod mX9_feed.1 ∈ UW := mUW (tp2 (List.mem_of_getElem? (i := 234) (by decide +kernel))) rfl
theorem ms_X9_feed : Cond.selects mX9_feed.1.cls mX9_feed.1 mX9_feed.1 ∈ UW := mUW (tp2 (List.mem_of_getElem? (i := 235) (by decide +kernel))) rfl
theorem mo_X9_feed : MOK mX9_feed 5 := ⟨by decide, by decide, by decide +kernel, by decide⟩
theorem mp_X9_feed : plainName mX9_feed.1.cls = true := by decide +kernel
abbrev mX9_findHeard : MD := (yX9_findHeard, prog_1_method_65_code, 8, (some .int))
theorem mw_X9_findHeard : MW mX9_findHeard := ⟨mUW (tp5 (List.mem_of_getElem? (i := 69) (by decide +kernel))) rfl, mUW (tp1 (List.mem_of_getElem? (i := 1) (by decide +kernel))) rfl⟩
theorem mi_X9_findHeard : Cond.instanceMethod mX9_findHeard.1 ∈ UW := mUW (tp5 (List.mem_of_getElem? (i := 68) (by decide +kernel))) rfl
theorem ms_X9_findHeard : Cond.selects mX9_findHeard.1.cls mX9_findHeard.1 mX9_findHeard.1 ∈ UW := mUW (tq4 (List.mem_of_getElem? (i := 0) (by decide +kernel))) rfl
theorem mo_X9_findHeard : MOK mX9_findHeard 2 := ⟨by decide, by decide, by decide +kernel, by decide⟩
theorem mp_X9_findHeard : plainName mX9_findHeard.1.cls = true := by decide +kernel
abbrev mX9_findStops : MD := (yX9_findStops, prog_1_method_61_code, 10, (some .int))
theorem mw_X9_findStops : MW mX9_findStops := ⟨mUW (tp4 (List.mem_of_getElem? (i := 234) (by decide +kernel))) rfl, mUW (tp1 (List.mem_of_getElem? (i := 1) (by decide +kernel))) rfl⟩
theorem mi_X9_findStops : Cond.instanceMethod mX9_findStops.1 ∈ UW := mUW (tp4 (List.mem_of_getElem? (i := 233) (by decide +kernel))) rfl
theorem ms_X9_findStops : Cond.selects mX9_findStops.1.cls mX9_findStops.1 mX9_findStops.1 ∈ UW := mUW (tq3 (List.mem_of_getElem? (i := 9) (by decide +kernel))) rfl
theorem mo_X9_findStops : MOK mX9_findStops 3 := ⟨by decide, by decide, by decide +kernel, by decide⟩
theorem mp_X9_findStops : plainName mX9_findStops.1.cls = true := by decide +kernel
abbrev mX9_forgetAnswers : MD := (yX9_forgetAnswers, prog_1_method_48_code, 1, none)
theorem mw_X9_forgetAnswers : MW mX9_forgetAnswers := ⟨mUW (tp3 (List.mem_of_getElem? (i := 237) (by decide +kernel))) rfl, mUW (tp1 (List.mem_of_getElem? (i := 1) (by decide +kernel))) rfl⟩
theorem mi_X9_forgetAnswers : Cond.instanceMethod mX9_forgetAnswers.1 ∈ UW := mUW (tp3 (List.mem_of_getElem? (i := 236) (by decide +kernel))) rfl
theorem ms_X9_forgetAnswers : Cond.selects mX9_forgetAnswers.1.cls mX9_forgetAnswers.1 mX9_forgetAnswers.1 ∈ UW := mUW (tq2 (List.mem_of_getElem? (i := 8) (by decide +kernel))) rfl
theorem mo_X9_forgetAnswers : MOK mX9_forgetAnswers 0 := ⟨by decide, by decide, by decide +kernel, by decide⟩
theorem mp_X9_forgetAnswers : plainName mX9_forgetAnswers.1.cls = true := by decide +kernel
abbrev mX9_heard : MD := (yX9_heard, prog_1_method_29_code, 4, (some .int))
theorem mw_X9_heard : MW mX9_heard := ⟨mUW (tp5 (List.mem_of_getElem? (i := 60) (by decide +kernel))) rfl, mUW (tp1 (List.mem_of_getElem? (i := 1) (by decide +kernel))) rfl⟩
theorem mi_X9_heard : Cond.instanceMethod mX9_heard.1 ∈ UW := mUW (tp5 (List.mem_of_getElem? (i := 58) (by decide +kernel))) rfl
theorem ms_X9_heard : Cond.selects mX9_heard.1.cls mX9_heard.1 mX9_heard.1 ∈ UW := mUW (tp5 (List.mem_of_getElem? (i := 59) (by decide +kernel))) rfl
theorem mo_X9_heard : MOK mX9_heard 2 := ⟨by decide, by decide, by decide +kernel, by decide⟩
theorem mp_X9_heard : plainName mX9_heard.1.cls = true := by decide +kernel
abbrev mX9_heardAt : MD := (yX9_heardAt, prog_1_method_30_code, 6, (some .int))
theorem mw_X9_heardAt : MW mX9_heardAt := ⟨mUW (tp5 (List.mem_of_getElem? (i := 73) (by decide +kernel))) rfl, mUW (tp1 (List.mem_of_getElem? (i := 1) (by decide +kernel))) rfl⟩
theorem mi_X9_heardAt : Cond.instanceMethod mX9_heardAt.1 ∈ UW := mUW (tp5 (List.mem_of_getElem? (i := 71) (by decide +kernel))) rfl
theorem ms_X9_heardAt : Cond.selects mX9_heardAt.1.cls mX9_heardAt.1 mX9_heardAt.1 ∈ UW := mUW (tp5 (List.mem_of_getElem? (i := 72) (by decide +kernel))) rfl
theorem mo_X9_heardAt : MOK mX9_heardAt 3 := ⟨by decide, by decide, by decide +kernel, by decide⟩
theorem mp_X9_heardAt : plainName mX9_heardAt.1.cls = true := by decide +kernel
abbrev mX9_hiccup : MD := (yX9_hiccup, prog_1_method_17_code, 4, (some .int))
theorem mw_X9_hiccup : MW mX9_hiccup := ⟨mUW (tp4 (List.mem_of_getElem? (i := 198) (by decide +kernel))) rfl, mUW (tp1 (List.mem_of_getElem? (i := 1) (by decide +kernel))) rfl⟩
theorem mi_X9_hiccup : Cond.instanceMethod mX9_hiccup.1 ∈ UW := mUW (tp4 (List.mem_of_getElem? (i := 196) (by decide +kernel))) rfl
theorem ms_X9_hiccup : Cond.selects mX9_hiccup.1.cls mX9_hiccup.1 mX9_hiccup.1 ∈ UW := mUW (tp4 (List.mem_of_getElem? (i := 197) (by decide +kernel))) rfl
theorem mo_X9_hiccup : MOK mX9_hiccup 2 := ⟨by decide, by decide, by decide +kernel, by decide⟩
theorem mp_X9_hiccup : plainName mX9_hiccup.1.cls = true := by decide +kernel
abbrev mX9_hiccups : MD := (yX9_hiccups, prog_1_method_16_code, 2, (some .int))
theorem mw_X9_hiccups : MW mX9_hiccups := ⟨mUW (tp4 (List.mem_of_getElem? (i := 194) (by decide +kernel))) rfl, mUW (tp1 (List.mem_of_getElem? (i := 1) (by decide +kernel))) rfl⟩
theorem mi_X9_hiccups : Cond.instanceMethod mX9_hiccups.1 ∈ UW := mUW (tp4 (List.mem_of_getElem? (i := 192) (by decide +kernel))) rfl
theorem ms_X9_hiccups : Cond.selects mX9_hiccups.1.cls mX9_hiccups.1 mX9_hiccups.1 ∈ UW := mUW (tp4 (List.mem_of_getElem? (i := 193) (by decide +kernel))) rfl
theorem mo_X9_hiccups : MOK mX9_hiccups 1 := ⟨by decide, by decide, by decide +kernel, by decide⟩
theorem mp_X9_hiccups : plainName mX9_hiccups.1.cls = true := by decide +kernel
abbrev mX9_hill : MD := (yX9_hill, prog_1_method_3_code, 3, (some .int))
theorem mw_X9_hill : MW mX9_hill := ⟨mUW (tp3 (List.mem_of_getElem? (i := 4) (by decide +kernel))) rfl, mUW (tp1 (List.mem_of_getElem? (i := 1) (by decide +kernel))) rfl⟩
theorem mi_X9_hill : Cond.instanceMethod mX9_hill.1 ∈ UW := mUW (tp3 (List.mem_of_getElem? (i := 2) (by decide +kernel))) rfl
theorem ms_X9_hill : Cond.selects mX9_hill.1.cls mX9_hill.1 mX9_hill.1 ∈ UW := mUW (tp3 (List.mem_of_getElem? (i := 3) (by decide +kernel))) rfl
theorem mo_X9_hill : MOK mX9_hill 1 := ⟨by decide, by decide, by decide +kernel, by decide⟩
theorem mp_X9_hill : plainName mX9_hill.1.cls = true := by decide +kernel
abbrev mX9_image : MD := (yX9_image, prog_1_method_39_code, 2, (some .int))
theorem mw_X9_image : MW mX9_image := ⟨mUW (tp5 (List.mem_of_getElem? (i := 155) (by decide +kernel))) rfl, mUW (tp1 (List.mem_of_getElem? (i := 1) (by decide +kernel))) rfl⟩
theorem mi_X9_image : Cond.instanceMethod mX9_image.1 ∈ UW := mUW (tp5 (List.mem_of_getElem? (i := 153) (by decide +kernel))) rfl
theorem ms_X9_image : Cond.selects mX9_image.1.cls mX9_image.1 mX9_image.1 ∈ UW := mUW (tp5 (List.mem_of_getElem? (i := 154) (by decide +kernel))) rfl
theorem mo_X9_image : MOK mX9_image 1 := ⟨by decide, by decide, by decide +kernel, by decide⟩
theorem mp_X9_image : plainName mX9_image.1.cls = true := by decide +kernel
abbrev mX9_init : MD := (yX9_init, prog_1_method_1_code, 2, none)
theorem mw_X9_init : MW mX9_init := ⟨mUW (tp1 (List.mem_of_getElem? (i := 24) (by decide +kernel))) rfl, mUW (tp1 (List.mem_of_getElem? (i := 1) (by decide +kernel))) rfl⟩
theorem mi_X9_init : Cond.instanceMethod mX9_init.1 ∈ UW := mUW (tp1 (List.mem_of_getElem? (i := 23) (by decide +kernel))) rfl
theorem mo_X9_init : MOK mX9_init 0 := ⟨by decide, by decide, by decide +kernel, by decide⟩
theorem mp_X9_init : plainName mX9_init.1.cls = true := by decide +kernel
abbrev mX9_isGap : MD := (yX9_isGap, prog_1_method_44_code, 2, (some .boolean))
theorem mw_X9_isGap : MW mX9_isGap := ⟨mUW (tp4 (List.mem_of_getElem? (i := 225) (by decide +kernel))) rfl, mUW (tp1 (List.mem_of_getElem? (i := 1) (by decide +kernel))) rfl⟩
theorem mt_X9_isGap : Cond.static mX9_isGap.1 ∈ UW := mUW (tp4 (List.mem_of_getElem? (i := 224) (by decide +kernel))) rfl
theorem mo_X9_isGap : MOK mX9_isGap 1 := ⟨by decide, by decide, by decide +kernel, by decide⟩
theorem mp_X9_isGap : plainName mX9_isGap.1.cls = true := by decide +kernel
abbrev mX9_isImage : MD := (yX9_isImage, prog_1_method_46_code, 1, (some .boolean))
theorem mw_X9_isImage : MW mX9_isImage := ⟨mUW (tp5 (List.mem_of_getElem? (i := 158) (by decide +kernel))) rfl, mUW (tp1 (List.mem_of_getElem? (i := 1) (by decide +kernel))) rfl⟩
theorem mt_X9_isImage : Cond.static mX9_isImage.1 ∈ UW := mUW (tp5 (List.mem_of_getElem? (i := 157) (by decide +kernel))) rfl
theorem mo_X9_isImage : MOK mX9_isImage 1 := ⟨by decide, by decide, by decide +kernel, by decide⟩
theorem mp_X9_isImage : plainName mX9_isImage.1.cls = true := by decide +kernel
abbrev mX9_isMinute : MD := (yX9_isMinute, prog_1_method_43_code, 1, (some .boolean))
theorem mw_X9_isMinute : MW mX9_isMinute := ⟨mUW (tp4 (List.mem_of_getElem? (i := 108) (by decide +kernel))) rfl, mUW (tp1 (List.mem_of_getElem? (i := 1) (by decide +kernel))) rfl⟩
theorem mt_X9_isMinute : Cond.static mX9_isMinute.1 ∈ UW := mUW (tp4 (List.mem_of_getElem? (i := 107) (by decide +kernel))) rfl
theorem mo_X9_isMinute : MOK mX9_isMinute 1 := ⟨by decide, by decide, by decide +kernel, by decide⟩
theorem mp_X9_isMinute : plainName mX9_isMinute.1.cls = true := by decide +kernel
abbrev mX9_isPerson : MD := (yX9_isPerson, prog_1_method_42_code, 2, (some .boolean))
theorem mw_X9_isPerson : MW mX9_isPerson := ⟨mUW (tp4 (List.mem_of_getElem? (i := 9) (by decide +kernel))) rfl, mUW (tp1 (List.mem_of_getElem? (i := 1) (by decide +kernel))) rfl⟩
theorem mi_X9_isPerson : Cond.instanceMethod mX9_isPerson.1 ∈ UW := mUW (tp4 (List.mem_of_getElem? (i := 8) (by decide +kernel))) rfl
theorem ms_X9_isPerson : Cond.selects mX9_isPerson.1.cls mX9_isPerson.1 mX9_isPerson.1 ∈ UW := mUW (tq2 (List.mem_of_getElem? (i := 9) (by decide +kernel))) rfl
theorem mo_X9_isPerson : MOK mX9_isPerson 1 := ⟨by decide, by decide, by decide +kernel, by decide⟩
theorem mp_X9_isPerson : plainName mX9_isPerson.1.cls = true := by decide +kernel
abbrev mX9_isTray : MD := (yX9_isTray, prog_1_method_45_code, 1, (some .boolean))
theorem mw_X9_isTray : MW mX9_isTray := ⟨mUW (tp4 (List.mem_of_getElem? (i := 160) (by decide +kernel))) rfl, mUW (tp1 (List.mem_of_getElem? (i := 1) (by decide +kernel))) rfl⟩
theorem mt_X9_isTray : Cond.static mX9_isTray.1 ∈ UW := mUW (tp4 (List.mem_of_getElem? (i := 159) (by decide +kernel))) rfl
theorem mo_X9_isTray : MOK mX9_isTray 1 := ⟨by decide, by decide, by decide +kernel, by decide⟩
theorem mp_X9_isTray : plainName mX9_isTray.1.cls = true := by decide +kernel
abbrev mX9_judge : MD := (yX9_judge, prog_1_method_13_code, 6, (some .int))
theorem mw_X9_judge : MW mX9_judge := ⟨mUW (tp4 (List.mem_of_getElem? (i := 157) (by decide +kernel))) rfl, mUW (tp1 (List.mem_of_getElem? (i := 1) (by decide +kernel))) rfl⟩
theorem mi_X9_judge : Cond.instanceMethod mX9_judge.1 ∈ UW := mUW (tp4 (List.mem_of_getElem? (i := 155) (by decide +kernel))) rfl
theorem ms_X9_judge : Cond.selects mX9_judge.1.cls mX9_judge.1 mX9_judge.1 ∈ UW := mUW (tp4 (List.mem_of_getElem? (i := 156) (by decide +kernel))) rfl
theorem mo_X9_judge : MOK mX9_judge 2 := ⟨by decide, by decide, by decide +kernel, by decide⟩
theorem mp_X9_judge : plainName mX9_judge.1.cls = true := by decide +kernel
abbrev mX9_know : MD := (yX9_know, prog_1_method_49_code, 1, none)
theorem mw_X9_know : MW mX9_know := ⟨mUW (tp4 (List.mem_of_getElem? (i := 17) (by decide +kernel))) rfl, mUW (tp1 (List.mem_of_getElem? (i := 1) (by decide +kernel))) rfl⟩
theorem mi_X9_know : Cond.instanceMethod mX9_know.1 ∈ UW := mUW (tp4 (List.mem_of_getElem? (i := 16) (by decide +kernel))) rfl
theorem ms_X9_know : Cond.selects mX9_know.1.cls mX9_know.1 mX9_know.1 ∈ UW := mUW (tq2 (List.mem_of_getElem? (i := 10) (by decide +kernel))) rfl
theorem mo_X9_know : MOK mX9_know 0 := ⟨by decide, by decide, by decide +kernel, by decide⟩
theorem mp_X9_know : plainName mX9_know.1.cls = true := by decide +kernel
abbrev mX9_knowOdds : MD := (yX9_knowOdds, prog_1_method_50_code, 1, none)
theorem mw_X9_knowOdds : MW mX9_knowOdds := ⟨mUW (tp5 (List.mem_of_getElem? (i := 99) (by decide +kernel))) rfl, mUW (tp1 (List.mem_of_getElem? (i := 1) (by decide +kernel))) rfl⟩
theorem mi_X9_knowOdds : Cond.instanceMethod mX9_knowOdds.1 ∈ UW := mUW (tp5 (List.mem_of_getElem? (i := 98) (by decide +kernel))) rfl
theorem ms_X9_knowOdds : Cond.selects mX9_knowOdds.1.cls mX9_knowOdds.1 mX9_knowOdds.1 ∈ UW := mUW (tq4 (List.mem_of_getElem? (i := 2) (by decide +kernel))) rfl
theorem mo_X9_knowOdds : MOK mX9_knowOdds 0 := ⟨by decide, by decide, by decide +kernel, by decide⟩
theorem mp_X9_knowOdds : plainName mX9_knowOdds.1.cls = true := by decide +kernel
abbrev mX9_lists : MD := (yX9_lists, prog_1_method_38_code, 3, (some .int))
theorem mw_X9_lists : MW mX9_lists := ⟨mUW (tp5 (List.mem_of_getElem? (i := 146) (by decide +kernel))) rfl, mUW (tp1 (List.mem_of_getElem? (i := 1) (by decide +kernel))) rfl⟩
theorem mi_X9_lists : Cond.instanceMethod mX9_lists.1 ∈ UW := mUW (tp5 (List.mem_of_getElem? (i := 144) (by decide +kernel))) rfl
theorem ms_X9_lists : Cond.selects mX9_lists.1.cls mX9_lists.1 mX9_lists.1 ∈ UW := mUW (tp5 (List.mem_of_getElem? (i := 145) (by decide +kernel))) rfl
theorem mo_X9_lists : MOK mX9_lists 2 := ⟨by decide, by decide, by decide +kernel, by decide⟩
theorem mp_X9_lists : plainName mX9_lists.1.cls = true := by decide +kernel
abbrev mX9_lowestTerms : MD := (yX9_lowestTerms, prog_1_method_51_code, 12, (some .long))
theorem mw_X9_lowestTerms : MW mX9_lowestTerms := ⟨mUW (tp5 (List.mem_of_getElem? (i := 113) (by decide +kernel))) rfl, mUW (tp1 (List.mem_of_getElem? (i := 1) (by decide +kernel))) rfl⟩
theorem mt_X9_lowestTerms : Cond.static mX9_lowestTerms.1 ∈ UW := mUW (tp5 (List.mem_of_getElem? (i := 112) (by decide +kernel))) rfl
theorem mo_X9_lowestTerms : MOK mX9_lowestTerms 3 := ⟨by decide, by decide, by decide +kernel, by decide⟩
theorem mp_X9_lowestTerms : plainName mX9_lowestTerms.1.cls = true := by decide +kernel
abbrev mX9_mean : MD := (yX9_mean, prog_1_method_34_code, 3, (some .long))
theorem mw_X9_mean : MW mX9_mean := ⟨mUW (tp5 (List.mem_of_getElem? (i := 117) (by decide +kernel))) rfl, mUW (tp1 (List.mem_of_getElem? (i := 1) (by decide +kernel))) rfl⟩
theorem mi_X9_mean : Cond.instanceMethod mX9_mean.1 ∈ UW := mUW (tp5 (List.mem_of_getElem? (i := 115) (by decide +kernel))) rfl
theorem ms_X9_mean : Cond.selects mX9_mean.1.cls mX9_mean.1 mX9_mean.1 ∈ UW := mUW (tp5 (List.mem_of_getElem? (i := 116) (by decide +kernel))) rfl
theorem mo_X9_mean : MOK mX9_mean 2 := ⟨by decide, by decide, by decide +kernel, by decide⟩
theorem mp_X9_mean : plainName mX9_mean.1.cls = true := by decide +kernel
abbrev mX9_minute : MD := (yX9_minute, prog_1_method_18_code, 5, (some .int))
theorem mw_X9_minute : MW mX9_minute := ⟨mUW (tp4 (List.mem_of_getElem? (i := 202) (by decide +kernel))) rfl, mUW (tp1 (List.mem_of_getElem? (i := 1) (by decide +kernel))) rfl⟩
theorem mi_X9_minute : Cond.instanceMethod mX9_minute.1 ∈ UW := mUW (tp4 (List.mem_of_getElem? (i := 200) (by decide +kernel))) rfl
theorem ms_X9_minute : Cond.selects mX9_minute.1.cls mX9_minute.1 mX9_minute.1 ∈ UW := mUW (tp4 (List.mem_of_getElem? (i := 201) (by decide +kernel))) rfl
theorem mo_X9_minute : MOK mX9_minute 2 := ⟨by decide, by decide, by decide +kernel, by decide⟩
theorem mp_X9_minute : plainName mX9_minute.1.cls = true := by decide +kernel
abbrev mX9_mostAlike : MD := (yX9_mostAlike, prog_1_method_66_code, 7, (some .int))
theorem mw_X9_mostAlike : MW mX9_mostAlike := ⟨mUW (tp5 (List.mem_of_getElem? (i := 81) (by decide +kernel))) rfl, mUW (tp1 (List.mem_of_getElem? (i := 1) (by decide +kernel))) rfl⟩
theorem mi_X9_mostAlike : Cond.instanceMethod mX9_mostAlike.1 ∈ UW := mUW (tp5 (List.mem_of_getElem? (i := 80) (by decide +kernel))) rfl
theorem ms_X9_mostAlike : Cond.selects mX9_mostAlike.1.cls mX9_mostAlike.1 mX9_mostAlike.1 ∈ UW := mUW (tq4 (List.mem_of_getElem? (i := 1) (by decide +kernel))) rfl
theorem mo_X9_mostAlike : MOK mX9_mostAlike 3 := ⟨by decide, by decide, by decide +kernel, by decide⟩
theorem mp_X9_mostAlike : plainName mX9_mostAlike.1.cls = true := by decide +kernel
abbrev mX9_move : MD := (yX9_move, prog_1_method_10_code, 5, (some .int))
theorem mw_X9_move : MW mX9_move := ⟨mUW (tp4 (List.mem_of_getElem? (i := 133) (by decide +kernel))) rfl, mUW (tp1 (List.mem_of_getElem? (i := 1) (by decide +kernel))) rfl⟩
theorem mi_X9_move : Cond.instanceMethod mX9_move.1 ∈ UW := mUW (tp4 (List.mem_of_getElem? (i := 131) (by decide +kernel))) rfl
theorem ms_X9_move : Cond.selects mX9_move.1.cls mX9_move.1 mX9_move.1 ∈ UW := mUW (tp4 (List.mem_of_getElem? (i := 132) (by decide +kernel))) rfl
theorem mo_X9_move : MOK mX9_move 2 := ⟨by decide, by decide, by decide +kernel, by decide⟩
theorem mp_X9_move : plainName mX9_move.1.cls = true := by decide +kernel
abbrev mX9_moveIn : MD := (yX9_moveIn, prog_1_method_54_code, 4, (some .int))
theorem mw_X9_moveIn : MW mX9_moveIn := ⟨mUW (tp4 (List.mem_of_getElem? (i := 137) (by decide +kernel))) rfl, mUW (tp1 (List.mem_of_getElem? (i := 1) (by decide +kernel))) rfl⟩
theorem mi_X9_moveIn : Cond.instanceMethod mX9_moveIn.1 ∈ UW := mUW (tp4 (List.mem_of_getElem? (i := 136) (by decide +kernel))) rfl
theorem ms_X9_moveIn : Cond.selects mX9_moveIn.1.cls mX9_moveIn.1 mX9_moveIn.1 ∈ UW := mUW (tq3 (List.mem_of_getElem? (i := 4) (by decide +kernel))) rfl
theorem mo_X9_moveIn : MOK mX9_moveIn 3 := ⟨by decide, by decide, by decide +kernel, by decide⟩
theorem mp_X9_moveIn : plainName mX9_moveIn.1.cls = true := by decide +kernel
abbrev mX9_namesAtOnce : MD := (yX9_namesAtOnce, prog_1_method_63_code, 6, (some .boolean))
theorem mw_X9_namesAtOnce : MW mX9_namesAtOnce := ⟨mUW (tp5 (List.mem_of_getElem? (i := 19) (by decide +kernel))) rfl, mUW (tp1 (List.mem_of_getElem? (i := 1) (by decide +kernel))) rfl⟩
theorem mi_X9_namesAtOnce : Cond.instanceMethod mX9_namesAtOnce.1 ∈ UW := mUW (tp5 (List.mem_of_getElem? (i := 18) (by decide +kernel))) rfl
theorem ms_X9_namesAtOnce : Cond.selects mX9_namesAtOnce.1.cls mX9_namesAtOnce.1 mX9_namesAtOnce.1 ∈ UW := mUW (tq3 (List.mem_of_getElem? (i := 11) (by decide +kernel))) rfl
theorem mo_X9_namesAtOnce : MOK mX9_namesAtOnce 2 := ⟨by decide, by decide, by decide +kernel, by decide⟩
theorem mp_X9_namesAtOnce : plainName mX9_namesAtOnce.1.cls = true := by decide +kernel
abbrev mX9_naming : MD := (yX9_naming, prog_1_method_6_code, 4, (some .int))
theorem mw_X9_naming : MW mX9_naming := ⟨mUW (tp4 (List.mem_of_getElem? (i := 13) (by decide +kernel))) rfl, mUW (tp1 (List.mem_of_getElem? (i := 1) (by decide +kernel))) rfl⟩
theorem mi_X9_naming : Cond.instanceMethod mX9_naming.1 ∈ UW := mUW (tp4 (List.mem_of_getElem? (i := 11) (by decide +kernel))) rfl
theorem ms_X9_naming : Cond.selects mX9_naming.1.cls mX9_naming.1 mX9_naming.1 ∈ UW := mUW (tp4 (List.mem_of_getElem? (i := 12) (by decide +kernel))) rfl
theorem mo_X9_naming : MOK mX9_naming 2 := ⟨by decide, by decide, by decide +kernel, by decide⟩
theorem mp_X9_naming : plainName mX9_naming.1.cls = true := by decide +kernel
abbrev mX9_nobody : MD := (yX9_nobody, prog_1_method_22_code, 1, (some .int))
theorem mw_X9_nobody : MW mX9_nobody := ⟨mUW (tp4 (List.mem_of_getElem? (i := 218) (by decide +kernel))) rfl, mUW (tp1 (List.mem_of_getElem? (i := 1) (by decide +kernel))) rfl⟩
theorem mi_X9_nobody : Cond.instanceMethod mX9_nobody.1 ∈ UW := mUW (tp4 (List.mem_of_getElem? (i := 216) (by decide +kernel))) rfl
theorem ms_X9_nobody : Cond.selects mX9_nobody.1.cls mX9_nobody.1 mX9_nobody.1 ∈ UW := mUW (tp4 (List.mem_of_getElem? (i := 217) (by decide +kernel))) rfl
theorem mo_X9_nobody : MOK mX9_nobody 0 := ⟨by decide, by decide, by decide +kernel, by decide⟩
theorem mp_X9_nobody : plainName mX9_nobody.1.cls = true := by decide +kernel
abbrev mX9_numbers : MD := (yX9_numbers, prog_1_method_36_code, 4, (some .int))
theorem mw_X9_numbers : MW mX9_numbers := ⟨mUW (tp5 (List.mem_of_getElem? (i := 126) (by decide +kernel))) rfl, mUW (tp1 (List.mem_of_getElem? (i := 1) (by decide +kernel))) rfl⟩
theorem mi_X9_numbers : Cond.instanceMethod mX9_numbers.1 ∈ UW := mUW (tp5 (List.mem_of_getElem? (i := 124) (by decide +kernel))) rfl
theorem ms_X9_numbers : Cond.selects mX9_numbers.1.cls mX9_numbers.1 mX9_numbers.1 ∈ UW := mUW (tp5 (List.mem_of_getElem? (i := 125) (by decide +kernel))) rfl
theorem mo_X9_numbers : MOK mX9_numbers 3 := ⟨by decide, by decide, by decide +kernel, by decide⟩
theorem mp_X9_numbers : plainName mX9_numbers.1.cls = true := by decide +kernel
abbrev mX9_perform : MD := (yX9_perform, prog_1_method_14_code, 3, (some .int))
theorem mw_X9_perform : MW mX9_perform := ⟨mUW (tp4 (List.mem_of_getElem? (i := 177) (by decide +kernel))) rfl, mUW (tp1 (List.mem_of_getElem? (i := 1) (by decide +kernel))) rfl⟩
theorem mi_X9_perform : Cond.instanceMethod mX9_perform.1 ∈ UW := mUW (tp4 (List.mem_of_getElem? (i := 175) (by decide +kernel))) rfl
theorem ms_X9_perform : Cond.selects mX9_perform.1.cls mX9_perform.1 mX9_perform.1 ∈ UW := mUW (tp4 (List.mem_of_getElem? (i := 176) (by decide +kernel))) rfl
theorem mo_X9_perform : MOK mX9_perform 1 := ⟨by decide, by decide, by decide +kernel, by decide⟩
theorem mp_X9_perform : plainName mX9_perform.1.cls = true := by decide +kernel
abbrev mX9_person : MD := (yX9_person, prog_1_method_5_code, 3, (some .int))
theorem mw_X9_person : MW mX9_person := ⟨mUW (tp4 (List.mem_of_getElem? (i := 5) (by decide +kernel))) rfl, mUW (tp1 (List.mem_of_getElem? (i := 1) (by decide +kernel))) rfl⟩
theorem mi_X9_person : Cond.instanceMethod mX9_person.1 ∈ UW := mUW (tp4 (List.mem_of_getElem? (i := 3) (by decide +kernel))) rfl
theorem ms_X9_person : Cond.selects mX9_person.1.cls mX9_person.1 mX9_person.1 ∈ UW := mUW (tp4 (List.mem_of_getElem? (i := 4) (by decide +kernel))) rfl
theorem mo_X9_person : MOK mX9_person 2 := ⟨by decide, by decide, by decide +kernel, by decide⟩
theorem mp_X9_person : plainName mX9_person.1.cls = true := by decide +kernel
abbrev mX9_quiet : MD := (yX9_quiet, prog_1_method_26_code, 6, (some .int))
theorem mw_X9_quiet : MW mX9_quiet := ⟨mUW (tp5 (List.mem_of_getElem? (i := 6) (by decide +kernel))) rfl, mUW (tp1 (List.mem_of_getElem? (i := 1) (by decide +kernel))) rfl⟩
theorem mi_X9_quiet : Cond.instanceMethod mX9_quiet.1 ∈ UW := mUW (tp5 (List.mem_of_getElem? (i := 4) (by decide +kernel))) rfl
theorem ms_X9_quiet : Cond.selects mX9_quiet.1.cls mX9_quiet.1 mX9_quiet.1 ∈ UW := mUW (tp5 (List.mem_of_getElem? (i := 5) (by decide +kernel))) rfl
theorem mo_X9_quiet : MOK mX9_quiet 2 := ⟨by decide, by decide, by decide +kernel, by decide⟩
theorem mp_X9_quiet : plainName mX9_quiet.1.cls = true := by decide +kernel
abbrev mX9_refuseHeard : MD := (yX9_refuseHeard, prog_1_method_64_code, 7, (some .int))
theorem mw_X9_refuseHeard : MW mX9_refuseHeard := ⟨mUW (tp5 (List.mem_of_getElem? (i := 64) (by decide +kernel))) rfl, mUW (tp1 (List.mem_of_getElem? (i := 1) (by decide +kernel))) rfl⟩
theorem mi_X9_refuseHeard : Cond.instanceMethod mX9_refuseHeard.1 ∈ UW := mUW (tp5 (List.mem_of_getElem? (i := 63) (by decide +kernel))) rfl
theorem ms_X9_refuseHeard : Cond.selects mX9_refuseHeard.1.cls mX9_refuseHeard.1 mX9_refuseHeard.1 ∈ UW := mUW (tq3 (List.mem_of_getElem? (i := 15) (by decide +kernel))) rfl
theorem mo_X9_refuseHeard : MOK mX9_refuseHeard 2 := ⟨by decide, by decide, by decide +kernel, by decide⟩
theorem mp_X9_refuseHeard : plainName mX9_refuseHeard.1.cls = true := by decide +kernel
abbrev mX9_restore : MD := (yX9_restore, prog_1_method_40_code, 2, (some .int))
theorem mw_X9_restore : MW mX9_restore := ⟨mUW (tp5 (List.mem_of_getElem? (i := 168) (by decide +kernel))) rfl, mUW (tp1 (List.mem_of_getElem? (i := 1) (by decide +kernel))) rfl⟩
theorem mi_X9_restore : Cond.instanceMethod mX9_restore.1 ∈ UW := mUW (tp5 (List.mem_of_getElem? (i := 166) (by decide +kernel))) rfl
theorem ms_X9_restore : Cond.selects mX9_restore.1.cls mX9_restore.1 mX9_restore.1 ∈ UW := mUW (tp5 (List.mem_of_getElem? (i := 167) (by decide +kernel))) rfl
theorem mo_X9_restore : MOK mX9_restore 1 := ⟨by decide, by decide, by decide +kernel, by decide⟩
theorem mp_X9_restore : plainName mX9_restore.1.cls = true := by decide +kernel
abbrev mX9_silence : MD := (yX9_silence, prog_1_method_28_code, 3, (some .int))
theorem mw_X9_silence : MW mX9_silence := ⟨mUW (tp5 (List.mem_of_getElem? (i := 24) (by decide +kernel))) rfl, mUW (tp1 (List.mem_of_getElem? (i := 1) (by decide +kernel))) rfl⟩
theorem mi_X9_silence : Cond.instanceMethod mX9_silence.1 ∈ UW := mUW (tp5 (List.mem_of_getElem? (i := 22) (by decide +kernel))) rfl
theorem ms_X9_silence : Cond.selects mX9_silence.1.cls mX9_silence.1 mX9_silence.1 ∈ UW := mUW (tp5 (List.mem_of_getElem? (i := 23) (by decide +kernel))) rfl
theorem mo_X9_silence : MOK mX9_silence 2 := ⟨by decide, by decide, by decide +kernel, by decide⟩
theorem mp_X9_silence : plainName mX9_silence.1.cls = true := by decide +kernel
abbrev mX9_startTrialLaws : MD := (yX9_startTrialLaws, prog_1_method_62_code, 1, none)
theorem mw_X9_startTrialLaws : MW mX9_startTrialLaws := ⟨mUW (tp5 (List.mem_of_getElem? (i := 14) (by decide +kernel))) rfl, mUW (tp1 (List.mem_of_getElem? (i := 1) (by decide +kernel))) rfl⟩
theorem mi_X9_startTrialLaws : Cond.instanceMethod mX9_startTrialLaws.1 ∈ UW := mUW (tp5 (List.mem_of_getElem? (i := 13) (by decide +kernel))) rfl
theorem ms_X9_startTrialLaws : Cond.selects mX9_startTrialLaws.1.cls mX9_startTrialLaws.1 mX9_startTrialLaws.1 ∈ UW := mUW (tq3 (List.mem_of_getElem? (i := 10) (by decide +kernel))) rfl
theorem mo_X9_startTrialLaws : MOK mX9_startTrialLaws 0 := ⟨by decide, by decide, by decide +kernel, by decide⟩
theorem mp_X9_startTrialLaws : plainName mX9_startTrialLaws.1.cls = true := by decide +kernel
abbrev mX9_stopBy : MD := (yX9_stopBy, prog_1_method_25_code, 4, (some .int))
theorem mw_X9_stopBy : MW mX9_stopBy := ⟨mUW (tp5 (List.mem_of_getElem? (i := 2) (by decide +kernel))) rfl, mUW (tp1 (List.mem_of_getElem? (i := 1) (by decide +kernel))) rfl⟩
theorem mi_X9_stopBy : Cond.instanceMethod mX9_stopBy.1 ∈ UW := mUW (tp5 (List.mem_of_getElem? (i := 0) (by decide +kernel))) rfl
theorem ms_X9_stopBy : Cond.selects mX9_stopBy.1.cls mX9_stopBy.1 mX9_stopBy.1 ∈ UW := mUW (tp5 (List.mem_of_getElem? (i := 1) (by decide +kernel))) rfl
theorem mo_X9_stopBy : MOK mX9_stopBy 3 := ⟨by decide, by decide, by decide +kernel, by decide⟩
theorem mp_X9_stopBy : plainName mX9_stopBy.1.cls = true := by decide +kernel
abbrev mX9_stops : MD := (yX9_stops, prog_1_method_24_code, 3, (some .int))
theorem mw_X9_stops : MW mX9_stops := ⟨mUW (tp4 (List.mem_of_getElem? (i := 230) (by decide +kernel))) rfl, mUW (tp1 (List.mem_of_getElem? (i := 1) (by decide +kernel))) rfl⟩
theorem mi_X9_stops : Cond.instanceMethod mX9_stops.1 ∈ UW := mUW (tp4 (List.mem_of_getElem? (i := 228) (by decide +kernel))) rfl
theorem ms_X9_stops : Cond.selects mX9_stops.1.cls mX9_stops.1 mX9_stops.1 ∈ UW := mUW (tp4 (List.mem_of_getElem? (i := 229) (by decide +kernel))) rfl
theorem mo_X9_stops : MOK mX9_stops 2 := ⟨by decide, by decide, by decide +kernel, by decide⟩
theorem mp_X9_stops : plainName mX9_stops.1.cls = true := by decide +kernel
abbrev mX9_tapeInt : MD := (yX9_tapeInt, prog_1_method_47_code, 3, none)
theorem mw_X9_tapeInt : MW mX9_tapeInt := ⟨mUW (tp3 (List.mem_of_getElem? (i := 0) (by decide +kernel))) rfl, mUW (tp1 (List.mem_of_getElem? (i := 1) (by decide +kernel))) rfl⟩
theorem mi_X9_tapeInt : Cond.instanceMethod mX9_tapeInt.1 ∈ UW := mUW (tp2 (List.mem_of_getElem? (i := 239) (by decide +kernel))) rfl
theorem ms_X9_tapeInt : Cond.selects mX9_tapeInt.1.cls mX9_tapeInt.1 mX9_tapeInt.1 ∈ UW := mUW (tq1 (List.mem_of_getElem? (i := 0) (by decide +kernel))) rfl
theorem mo_X9_tapeInt : MOK mX9_tapeInt 1 := ⟨by decide, by decide, by decide +kernel, by decide⟩
theorem mp_X9_tapeInt : plainName mX9_tapeInt.1.cls = true := by decide +kernel
abbrev mX9_tell : MD := (yX9_tell, prog_1_method_8_code, 5, (some .int))
theorem mw_X9_tell : MW mX9_tell := ⟨mUW (tp4 (List.mem_of_getElem? (i := 94) (by decide +kernel))) rfl, mUW (tp1 (List.mem_of_getElem? (i := 1) (by decide +kernel))) rfl⟩
theorem mi_X9_tell : Cond.instanceMethod mX9_tell.1 ∈ UW := mUW (tp4 (List.mem_of_getElem? (i := 92) (by decide +kernel))) rfl
theorem ms_X9_tell : Cond.selects mX9_tell.1.cls mX9_tell.1 mX9_tell.1 ∈ UW := mUW (tp4 (List.mem_of_getElem? (i := 93) (by decide +kernel))) rfl
theorem mo_X9_tell : MOK mX9_tell 3 := ⟨by decide, by decide, by decide +kernel, by decide⟩
theorem mp_X9_tell : plainName mX9_tell.1.cls = true := by decide +kernel
abbrev mX9_tellIn : MD := (yX9_tellIn, prog_1_method_52_code, 5, (some .int))
theorem mw_X9_tellIn : MW mX9_tellIn := ⟨mUW (tp4 (List.mem_of_getElem? (i := 105) (by decide +kernel))) rfl, mUW (tp1 (List.mem_of_getElem? (i := 1) (by decide +kernel))) rfl⟩
theorem mi_X9_tellIn : Cond.instanceMethod mX9_tellIn.1 ∈ UW := mUW (tp4 (List.mem_of_getElem? (i := 104) (by decide +kernel))) rfl
theorem ms_X9_tellIn : Cond.selects mX9_tellIn.1.cls mX9_tellIn.1 mX9_tellIn.1 ∈ UW := mUW (tq3 (List.mem_of_getElem? (i := 2) (by decide +kernel))) rfl
theorem mo_X9_tellIn : MOK mX9_tellIn 4 := ⟨by decide, by decide, by decide +kernel, by decide⟩
theorem mp_X9_tellIn : plainName mX9_tellIn.1.cls = true := by decide +kernel
abbrev mX9_tryDeeds : MD := (yX9_tryDeeds, prog_1_method_57_code, 3, (some .int))
theorem mw_X9_tryDeeds : MW mX9_tryDeeds := ⟨mUW (tp4 (List.mem_of_getElem? (i := 164) (by decide +kernel))) rfl, mUW (tp1 (List.mem_of_getElem? (i := 1) (by decide +kernel))) rfl⟩
theorem mi_X9_tryDeeds : Cond.instanceMethod mX9_tryDeeds.1 ∈ UW := mUW (tp4 (List.mem_of_getElem? (i := 163) (by decide +kernel))) rfl
theorem ms_X9_tryDeeds : Cond.selects mX9_tryDeeds.1.cls mX9_tryDeeds.1 mX9_tryDeeds.1 ∈ UW := mUW (tq3 (List.mem_of_getElem? (i := 5) (by decide +kernel))) rfl
theorem mo_X9_tryDeeds : MOK mX9_tryDeeds 1 := ⟨by decide, by decide, by decide +kernel, by decide⟩
theorem mp_X9_tryDeeds : plainName mX9_tryDeeds.1.cls = true := by decide +kernel
abbrev mX9_undo : MD := (yX9_undo, prog_1_method_12_code, 2, (some .int))
theorem mw_X9_undo : MW mX9_undo := ⟨mUW (tp4 (List.mem_of_getElem? (i := 149) (by decide +kernel))) rfl, mUW (tp1 (List.mem_of_getElem? (i := 1) (by decide +kernel))) rfl⟩
theorem mi_X9_undo : Cond.instanceMethod mX9_undo.1 ∈ UW := mUW (tp4 (List.mem_of_getElem? (i := 147) (by decide +kernel))) rfl
theorem ms_X9_undo : Cond.selects mX9_undo.1.cls mX9_undo.1 mX9_undo.1 ∈ UW := mUW (tp4 (List.mem_of_getElem? (i := 148) (by decide +kernel))) rfl
theorem mo_X9_undo : MOK mX9_undo 1 := ⟨by decide, by decide, by decide +kernel, by decide⟩
theorem mp_X9_undo : plainName mX9_undo.1.cls = true := by decide +kernel
abbrev mX9_week : MD := (yX9_week, prog_1_method_15_code, 5, (some .int))
theorem mw_X9_week : MW mX9_week := ⟨mUW (tp4 (List.mem_of_getElem? (i := 181) (by decide +kernel))) rfl, mUW (tp1 (List.mem_of_getElem? (i := 1) (by decide +kernel))) rfl⟩
theorem mi_X9_week : Cond.instanceMethod mX9_week.1 ∈ UW := mUW (tp4 (List.mem_of_getElem? (i := 179) (by decide +kernel))) rfl
theorem ms_X9_week : Cond.selects mX9_week.1.cls mX9_week.1 mX9_week.1 ∈ UW := mUW (tp4 (List.mem_of_getElem? (i := 180) (by decide +kernel))) rfl
theorem mo_X9_week : MOK mX9_week 2 := ⟨by decide, by decide, by decide +kernel, by decide⟩
theorem mp_X9_week : plainName mX9_week.1.cls = true := by decide +kernel
abbrev mX9_who : MD := (yX9_who, prog_1_method_23_code, 7, (some .int))
theorem mw_X9_who : MW mX9_who := ⟨mUW (tp4 (List.mem_of_getElem? (i := 222) (by decide +kernel))) rfl, mUW (tp1 (List.mem_of_getElem? (i := 1) (by decide +kernel))) rfl⟩
theorem mi_X9_who : Cond.instanceMethod mX9_who.1 ∈ UW := mUW (tp4 (List.mem_of_getElem? (i := 220) (by decide +kernel))) rfl
theorem ms_X9_who : Cond.selects mX9_who.1.cls mX9_who.1 mX9_who.1 ∈ UW := mUW (tp4 (List.mem_of_getElem? (i := 221) (by decide +kernel))) rfl
theorem mo_X9_who : MOK mX9_who 3 := ⟨by decide, by decide, by decide +kernel, by decide⟩
theorem mp_X9_who : plainName mX9_who.1.cls = true := by decide +kernel
abbrev mX9_wind : MD := (yX9_wind, prog_1_method_11_code, 4, (some .int))
theorem mw_X9_wind : MW mX9_wind := ⟨mUW (tp4 (List.mem_of_getElem? (i := 142) (by decide +kernel))) rfl, mUW (tp1 (List.mem_of_getElem? (i := 1) (by decide +kernel))) rfl⟩
theorem mi_X9_wind : Cond.instanceMethod mX9_wind.1 ∈ UW := mUW (tp4 (List.mem_of_getElem? (i := 140) (by decide +kernel))) rfl
theorem ms_X9_wind : Cond.selects mX9_wind.1.cls mX9_wind.1 mX9_wind.1 ∈ UW := mUW (tp4 (List.mem_of_getElem? (i := 141) (by decide +kernel))) rfl
theorem mo_X9_wind : MOK mX9_wind 1 := ⟨by decide, by decide, by decide +kernel, by decide⟩
theorem mp_X9_wind : plainName mX9_wind.1.cls = true := by decide +kernel
abbrev mX9_windIn : MD := (yX9_windIn, prog_1_method_55_code, 2, (some .int))
theorem mw_X9_windIn : MW mX9_windIn := ⟨mUW (tp4 (List.mem_of_getElem? (i := 145) (by decide +kernel))) rfl, mUW (tp1 (List.mem_of_getElem? (i := 1) (by decide +kernel))) rfl⟩
theorem mt_X9_windIn : Cond.static mX9_windIn.1 ∈ UW := mUW (tp4 (List.mem_of_getElem? (i := 144) (by decide +kernel))) rfl
theorem mo_X9_windIn : MOK mX9_windIn 2 := ⟨by decide, by decide, by decide +kernel, by decide⟩
theorem mp_X9_windIn : plainName mX9_windIn.1.cls = true := by decide +kernel
abbrev mX9_winds : MD := (yX9_winds, prog_1_method_32_code, 6, (some .int))
theorem mw_X9_winds : MW mX9_winds := ⟨mUW (tp5 (List.mem_of_getElem? (i := 87) (by decide +kernel))) rfl, mUW (tp1 (List.mem_of_getElem? (i := 1) (by decide +kernel))) rfl⟩
theorem mi_X9_winds : Cond.instanceMethod mX9_winds.1 ∈ UW := mUW (tp5 (List.mem_of_getElem? (i := 85) (by decide +kernel))) rfl
theorem ms_X9_winds : Cond.selects mX9_winds.1.cls mX9_winds.1 mX9_winds.1 ∈ UW := mUW (tp5 (List.mem_of_getElem? (i := 86) (by decide +kernel))) rfl
theorem mo_X9_winds : MOK mX9_winds 2 := ⟨by decide, by decide, by decide +kernel, by decide⟩
theorem mp_X9_winds : plainName mX9_winds.1.cls = true := by decide +kernel
abbrev mX9_worst : MD := (yX9_worst, prog_1_method_20_code, 5, (some .int))
theorem mw_X9_worst : MW mX9_worst := ⟨mUW (tp4 (List.mem_of_getElem? (i := 210) (by decide +kernel))) rfl, mUW (tp1 (List.mem_of_getElem? (i := 1) (by decide +kernel))) rfl⟩
theorem mi_X9_worst : Cond.instanceMethod mX9_worst.1 ∈ UW := mUW (tp4 (List.mem_of_getElem? (i := 208) (by decide +kernel))) rfl
theorem ms_X9_worst : Cond.selects mX9_worst.1.cls mX9_worst.1 mX9_worst.1 ∈ UW := mUW (tp4 (List.mem_of_getElem? (i := 209) (by decide +kernel))) rfl
theorem mo_X9_worst : MOK mX9_worst 0 := ⟨by decide, by decide, by decide +kernel, by decide⟩
theorem mp_X9_worst : plainName mX9_worst.1.cls = true := by decide +kernel
abbrev mX9_write : MD := (yX9_write, prog_1_method_37_code, 5, (some .long))
theorem mw_X9_write : MW mX9_write := ⟨mUW (tp5 (List.mem_of_getElem? (i := 135) (by decide +kernel))) rfl, mUW (tp1 (List.mem_of_getElem? (i := 1) (by decide +kernel))) rfl⟩
theorem mi_X9_write : Cond.instanceMethod mX9_write.1 ∈ UW := mUW (tp5 (List.mem_of_getElem? (i := 133) (by decide +kernel))) rfl
theorem ms_X9_write : Cond.selects mX9_write.1.cls mX9_write.1 mX9_write.1 ∈ UW := mUW (tp5 (List.mem_of_getElem? (i := 134) (by decide +kernel))) rfl
theorem mo_X9_write : MOK mX9_write 3 := ⟨by decide, by decide, by decide +kernel, by decide⟩
theorem mp_X9_write : plainName mX9_write.1.cls = true := by decide +kernel
theorem lm_max : Cond.code Lib.Math.max.name Lib.Math.max.code 2 (some .int) ∈ UW := mUW (tp3 (List.mem_of_getElem? (i := 97) (by decide +kernel))) rfl
theorem lms_max : Cond.static Lib.Math.max.name ∈ UW := mUW (tp3 (List.mem_of_getElem? (i := 96) (by decide +kernel))) rfl
theorem lm_min : Cond.code Lib.Math.min.name Lib.Math.min.code 2 (some .int) ∈ UW := mUW (tp3 (List.mem_of_getElem? (i := 100) (by decide +kernel))) rfl
theorem lms_min : Cond.static Lib.Math.min.name ∈ UW := mUW (tp3 (List.mem_of_getElem? (i := 99) (by decide +kernel))) rfl
theorem lm_abs : Cond.code Lib.Math.abs.name Lib.Math.abs.code 1 (some .int) ∈ UW := mUW (tp4 (List.mem_of_getElem? (i := 39) (by decide +kernel))) rfl
theorem lms_abs : Cond.static Lib.Math.abs.name ∈ UW := mUW (tp4 (List.mem_of_getElem? (i := 38) (by decide +kernel))) rfl
theorem lm_maxL : Cond.code Lib.MathLoose.max_long.x Lib.MathLoose.max_long.code 4 (some .long) ∈ UW := mUW (tp4 (List.mem_of_getElem? (i := 55) (by decide +kernel))) rfl
theorem lms_maxL : Cond.static Lib.MathLoose.max_long.x ∈ UW := mUW (tp4 (List.mem_of_getElem? (i := 54) (by decide +kernel))) rfl
theorem lm_minL : Cond.code Lib.MathLoose.min_long.x Lib.MathLoose.min_long.code 4 (some .long) ∈ UW := mUW (tp4 (List.mem_of_getElem? (i := 52) (by decide +kernel))) rfl
theorem lms_minL : Cond.static Lib.MathLoose.min_long.x ∈ UW := mUW (tp4 (List.mem_of_getElem? (i := 51) (by decide +kernel))) rfl
theorem lm_init : Cond.initialized "java/lang/Math" ∈ UW := mUW (tp1 (List.mem_of_getElem? (i := 16) (by decide +kernel))) rfl
theorem dJ_Object_init___V_0 : decode object_method_1_code 0 = .ok (.return_, 1) := by decide +kernel

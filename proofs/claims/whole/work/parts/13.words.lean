/-! the words of fields, calls, constants -/
theorem l_J0_492 : Cond.methodLink RJ0 492 mJ0_isLatin1_aae02.1 ∈ UW := mUW (tp3 (List.mem_of_getElem? (i := 25) (by decide +kernel))) rfl
theorem f_J0_9 : Cond.fieldLink RJ0 9 "java/lang/String" "value" "[B" ∈ UW := mUW (tp8 (List.mem_of_getElem? (i := 103) (by decide +kernel))) rfl
theorem l_J0_495 : Cond.methodLink RJ0 495 mJ1_charAt_3b067.1 ∈ UW := mUW (tp3 (List.mem_of_getElem? (i := 31) (by decide +kernel))) rfl
theorem f_J0_1053 : Cond.fieldLink RJ0 1053 "jdk/internal/util/Preconditions" "SIOOBE_FORMATTER" "Ljava/util/function/BiFunction;" ∈ UW := mUW (tp3 (List.mem_of_getElem? (i := 37) (by decide +kernel))) rfl
theorem l_J0_1059 : Cond.methodLink RJ0 1059 mJ3_checkIndex_8e157.1 ∈ UW := mUW (tp3 (List.mem_of_getElem? (i := 39) (by decide +kernel))) rfl
theorem f_J0_38 : Cond.fieldLink RJ0 38 "java/lang/String" "COMPACT_STRINGS" "Z" ∈ UW := mUW (tp3 (List.mem_of_getElem? (i := 29) (by decide +kernel))) rfl
theorem f_J0_15 : Cond.fieldLink RJ0 15 "java/lang/String" "coder" "B" ∈ UW := mUW (tp8 (List.mem_of_getElem? (i := 102) (by decide +kernel))) rfl
theorem l_J0_633 : Cond.methodLink RJ0 633 mJ0_indexOf_7cf53.1 ∈ UW := mUW (tp3 (List.mem_of_getElem? (i := 77) (by decide +kernel))) rfl
theorem l_J0_505 : Cond.methodLink RJ0 505 mJ0_length_8abf5.1 ∈ UW := mUW (tp3 (List.mem_of_getElem? (i := 81) (by decide +kernel))) rfl
theorem l_J0_637 : Cond.methodLink RJ0 637 mJ1_indexOf_4cfef.1 ∈ UW := mUW (tp3 (List.mem_of_getElem? (i := 89) (by decide +kernel))) rfl
theorem l_J0_335 : Cond.methodLink RJ0 335 mJ0_coder_7d493.1 ∈ UW := mUW (tp3 (List.mem_of_getElem? (i := 85) (by decide +kernel))) rfl
theorem l_J1_9 : Cond.methodLink RJ1 9 mJ0_checkIndex_df160.1 ∈ UW := mUW (tp3 (List.mem_of_getElem? (i := 34) (by decide +kernel))) rfl
theorem l_J1_88 : Cond.methodLink RJ1 88 mJ1_canEncode_9a6ad.1 ∈ UW := mUW (tp3 (List.mem_of_getElem? (i := 92) (by decide +kernel))) rfl
theorem l_J1_92 : Cond.methodLink RJ1 92 mJ9_max_7cf53.1 ∈ UW := mUW (tp3 (List.mem_of_getElem? (i := 95) (by decide +kernel))) rfl
theorem l_J1_38 : Cond.methodLink RJ1 38 mJ9_min_7cf53.1 ∈ UW := mUW (tp3 (List.mem_of_getElem? (i := 98) (by decide +kernel))) rfl
theorem l_J1_95 : Cond.methodLink RJ1 95 mJ1_indexOfChar_4cfef.1 ∈ UW := mUW (tp3 (List.mem_of_getElem? (i := 101) (by decide +kernel))) rfl
theorem cl_L_7 : Cond.classLink RL 7 RX9 ∈ UW := mUW (tp1 (List.mem_of_getElem? (i := 20) (by decide +kernel))) rfl
theorem in_RX9 : Cond.instantiable RX9 20 ∈ UW := mUW (tp1 (List.mem_of_getElem? (i := 21) (by decide +kernel))) rfl
theorem ini_RX9 : Cond.initialized RX9 ∈ UW := mUW (tp1 (List.mem_of_getElem? (i := 1) (by decide +kernel))) rfl
theorem l_L_9 : Cond.methodLink RL 9 mX9_init.1 ∈ UW := mUW (tp1 (List.mem_of_getElem? (i := 22) (by decide +kernel))) rfl
theorem cl_L_10 : Cond.classLink RL 10 RX10 ∈ UW := mUW (tp5 (List.mem_of_getElem? (i := 173) (by decide +kernel))) rfl
theorem in_RX10 : Cond.instantiable RX10 49 ∈ UW := mUW (tp5 (List.mem_of_getElem? (i := 174) (by decide +kernel))) rfl
theorem ini_RX10 : Cond.initialized RX10 ∈ UW := mUW (tp1 (List.mem_of_getElem? (i := 11) (by decide +kernel))) rfl
theorem l_L_12 : Cond.methodLink RL 12 mX10_init.1 ∈ UW := mUW (tp5 (List.mem_of_getElem? (i := 175) (by decide +kernel))) rfl
theorem l_L_13 : Cond.methodLink RL 13 mX9_feed.1 ∈ UW := mUW (tp2 (List.mem_of_getElem? (i := 233) (by decide +kernel))) rfl
theorem l_L_17 : Cond.methodLink RL 17 mX10_feed.1 ∈ UW := mUW (tp6 (List.mem_of_getElem? (i := 91) (by decide +kernel))) rfl
theorem l_L_18 : Cond.methodLink RL 18 mX9_hill.1 ∈ UW := mUW (tp3 (List.mem_of_getElem? (i := 1) (by decide +kernel))) rfl
theorem l_L_22 : Cond.methodLink RL 22 mX10_hill.1 ∈ UW := mUW (tp6 (List.mem_of_getElem? (i := 95) (by decide +kernel))) rfl
theorem l_L_23 : Cond.methodLink RL 23 mX9_fault.1 ∈ UW := mUW (tp3 (List.mem_of_getElem? (i := 238) (by decide +kernel))) rfl
theorem l_L_26 : Cond.methodLink RL 26 mX10_fault.1 ∈ UW := mUW (tp6 (List.mem_of_getElem? (i := 204) (by decide +kernel))) rfl
theorem l_L_27 : Cond.methodLink RL 27 mX9_person.1 ∈ UW := mUW (tp4 (List.mem_of_getElem? (i := 2) (by decide +kernel))) rfl
theorem l_L_31 : Cond.methodLink RL 31 mX10_person.1 ∈ UW := mUW (tp6 (List.mem_of_getElem? (i := 208) (by decide +kernel))) rfl
theorem l_L_32 : Cond.methodLink RL 32 mX9_naming.1 ∈ UW := mUW (tp4 (List.mem_of_getElem? (i := 10) (by decide +kernel))) rfl
theorem l_L_35 : Cond.methodLink RL 35 mX10_naming.1 ∈ UW := mUW (tp7 (List.mem_of_getElem? (i := 11) (by decide +kernel))) rfl
theorem l_L_36 : Cond.methodLink RL 36 mX9_between.1 ∈ UW := mUW (tp4 (List.mem_of_getElem? (i := 87) (by decide +kernel))) rfl
theorem l_L_40 : Cond.methodLink RL 40 mX10_between.1 ∈ UW := mUW (tp6 (List.mem_of_getElem? (i := 216) (by decide +kernel))) rfl
theorem l_L_41 : Cond.methodLink RL 41 mX9_tell.1 ∈ UW := mUW (tp4 (List.mem_of_getElem? (i := 91) (by decide +kernel))) rfl
theorem l_L_44 : Cond.methodLink RL 44 mX10_tell.1 ∈ UW := mUW (tp7 (List.mem_of_getElem? (i := 47) (by decide +kernel))) rfl
theorem l_L_45 : Cond.methodLink RL 45 mX9_drop.1 ∈ UW := mUW (tp4 (List.mem_of_getElem? (i := 119) (by decide +kernel))) rfl
theorem l_L_48 : Cond.methodLink RL 48 mX10_drop.1 ∈ UW := mUW (tp7 (List.mem_of_getElem? (i := 68) (by decide +kernel))) rfl
theorem l_L_49 : Cond.methodLink RL 49 mX9_move.1 ∈ UW := mUW (tp4 (List.mem_of_getElem? (i := 130) (by decide +kernel))) rfl
theorem l_L_52 : Cond.methodLink RL 52 mX10_move.1 ∈ UW := mUW (tp7 (List.mem_of_getElem? (i := 80) (by decide +kernel))) rfl
theorem l_L_53 : Cond.methodLink RL 53 mX9_wind.1 ∈ UW := mUW (tp4 (List.mem_of_getElem? (i := 139) (by decide +kernel))) rfl
theorem l_L_56 : Cond.methodLink RL 56 mX10_wind.1 ∈ UW := mUW (tp7 (List.mem_of_getElem? (i := 92) (by decide +kernel))) rfl
theorem l_L_57 : Cond.methodLink RL 57 mX9_undo.1 ∈ UW := mUW (tp4 (List.mem_of_getElem? (i := 146) (by decide +kernel))) rfl
theorem l_L_60 : Cond.methodLink RL 60 mX10_undo.1 ∈ UW := mUW (tp7 (List.mem_of_getElem? (i := 97) (by decide +kernel))) rfl
theorem l_L_61 : Cond.methodLink RL 61 mX9_judge.1 ∈ UW := mUW (tp4 (List.mem_of_getElem? (i := 154) (by decide +kernel))) rfl
theorem l_L_64 : Cond.methodLink RL 64 mX10_judge.1 ∈ UW := mUW (tp7 (List.mem_of_getElem? (i := 102) (by decide +kernel))) rfl
theorem l_L_65 : Cond.methodLink RL 65 mX9_perform.1 ∈ UW := mUW (tp4 (List.mem_of_getElem? (i := 174) (by decide +kernel))) rfl
theorem l_L_68 : Cond.methodLink RL 68 mX10_perform.1 ∈ UW := mUW (tp7 (List.mem_of_getElem? (i := 140) (by decide +kernel))) rfl
theorem l_L_69 : Cond.methodLink RL 69 mX9_week.1 ∈ UW := mUW (tp4 (List.mem_of_getElem? (i := 178) (by decide +kernel))) rfl
theorem l_L_72 : Cond.methodLink RL 72 mX10_week.1 ∈ UW := mUW (tp7 (List.mem_of_getElem? (i := 144) (by decide +kernel))) rfl
theorem l_L_73 : Cond.methodLink RL 73 mX9_hiccups.1 ∈ UW := mUW (tp4 (List.mem_of_getElem? (i := 191) (by decide +kernel))) rfl
theorem l_L_76 : Cond.methodLink RL 76 mX10_hiccups.1 ∈ UW := mUW (tp7 (List.mem_of_getElem? (i := 158) (by decide +kernel))) rfl
theorem l_L_77 : Cond.methodLink RL 77 mX9_hiccup.1 ∈ UW := mUW (tp4 (List.mem_of_getElem? (i := 195) (by decide +kernel))) rfl
theorem l_L_80 : Cond.methodLink RL 80 mX10_hiccup.1 ∈ UW := mUW (tp7 (List.mem_of_getElem? (i := 166) (by decide +kernel))) rfl
theorem l_L_81 : Cond.methodLink RL 81 mX9_minute.1 ∈ UW := mUW (tp4 (List.mem_of_getElem? (i := 199) (by decide +kernel))) rfl
theorem l_L_84 : Cond.methodLink RL 84 mX10_minute.1 ∈ UW := mUW (tp7 (List.mem_of_getElem? (i := 170) (by decide +kernel))) rfl
theorem l_L_85 : Cond.methodLink RL 85 mX9_crowd.1 ∈ UW := mUW (tp4 (List.mem_of_getElem? (i := 203) (by decide +kernel))) rfl
theorem l_L_88 : Cond.methodLink RL 88 mX10_crowd.1 ∈ UW := mUW (tp7 (List.mem_of_getElem? (i := 178) (by decide +kernel))) rfl
theorem l_L_89 : Cond.methodLink RL 89 mX9_worst.1 ∈ UW := mUW (tp4 (List.mem_of_getElem? (i := 207) (by decide +kernel))) rfl
theorem l_L_93 : Cond.methodLink RL 93 mX10_worst.1 ∈ UW := mUW (tp7 (List.mem_of_getElem? (i := 186) (by decide +kernel))) rfl
theorem l_L_94 : Cond.methodLink RL 94 mX9_answers.1 ∈ UW := mUW (tp4 (List.mem_of_getElem? (i := 211) (by decide +kernel))) rfl
theorem l_L_97 : Cond.methodLink RL 97 mX10_answers.1 ∈ UW := mUW (tp7 (List.mem_of_getElem? (i := 190) (by decide +kernel))) rfl
theorem l_L_98 : Cond.methodLink RL 98 mX9_nobody.1 ∈ UW := mUW (tp4 (List.mem_of_getElem? (i := 215) (by decide +kernel))) rfl
theorem l_L_101 : Cond.methodLink RL 101 mX10_nobody.1 ∈ UW := mUW (tp7 (List.mem_of_getElem? (i := 194) (by decide +kernel))) rfl
theorem l_L_102 : Cond.methodLink RL 102 mX9_who.1 ∈ UW := mUW (tp4 (List.mem_of_getElem? (i := 219) (by decide +kernel))) rfl
theorem l_L_105 : Cond.methodLink RL 105 mX10_who.1 ∈ UW := mUW (tp7 (List.mem_of_getElem? (i := 198) (by decide +kernel))) rfl
theorem l_L_106 : Cond.methodLink RL 106 mX9_stops.1 ∈ UW := mUW (tp4 (List.mem_of_getElem? (i := 227) (by decide +kernel))) rfl
theorem l_L_109 : Cond.methodLink RL 109 mX10_stops.1 ∈ UW := mUW (tp7 (List.mem_of_getElem? (i := 203) (by decide +kernel))) rfl
theorem l_L_110 : Cond.methodLink RL 110 mX9_stopBy.1 ∈ UW := mUW (tp4 (List.mem_of_getElem? (i := 239) (by decide +kernel))) rfl
theorem l_L_113 : Cond.methodLink RL 113 mX10_stopBy.1 ∈ UW := mUW (tp7 (List.mem_of_getElem? (i := 219) (by decide +kernel))) rfl
theorem l_L_114 : Cond.methodLink RL 114 mX9_quiet.1 ∈ UW := mUW (tp5 (List.mem_of_getElem? (i := 3) (by decide +kernel))) rfl
theorem l_L_117 : Cond.methodLink RL 117 mX10_quiet.1 ∈ UW := mUW (tp7 (List.mem_of_getElem? (i := 223) (by decide +kernel))) rfl
theorem l_L_118 : Cond.methodLink RL 118 mX9_atOnce.1 ∈ UW := mUW (tp5 (List.mem_of_getElem? (i := 7) (by decide +kernel))) rfl
theorem l_L_121 : Cond.methodLink RL 121 mX10_atOnce.1 ∈ UW := mUW (tp7 (List.mem_of_getElem? (i := 228) (by decide +kernel))) rfl
theorem l_L_122 : Cond.methodLink RL 122 mX9_silence.1 ∈ UW := mUW (tp5 (List.mem_of_getElem? (i := 21) (by decide +kernel))) rfl
theorem l_L_125 : Cond.methodLink RL 125 mX10_silence.1 ∈ UW := mUW (tp7 (List.mem_of_getElem? (i := 236) (by decide +kernel))) rfl
theorem l_L_126 : Cond.methodLink RL 126 mX9_heard.1 ∈ UW := mUW (tp5 (List.mem_of_getElem? (i := 57) (by decide +kernel))) rfl
theorem l_L_129 : Cond.methodLink RL 129 mX10_heard.1 ∈ UW := mUW (tp8 (List.mem_of_getElem? (i := 9) (by decide +kernel))) rfl
theorem l_L_130 : Cond.methodLink RL 130 mX9_heardAt.1 ∈ UW := mUW (tp5 (List.mem_of_getElem? (i := 70) (by decide +kernel))) rfl
theorem l_L_133 : Cond.methodLink RL 133 mX10_heardAt.1 ∈ UW := mUW (tp8 (List.mem_of_getElem? (i := 26) (by decide +kernel))) rfl
theorem l_L_134 : Cond.methodLink RL 134 mX9_attempt.1 ∈ UW := mUW (tp5 (List.mem_of_getElem? (i := 74) (by decide +kernel))) rfl
theorem l_L_137 : Cond.methodLink RL 137 mX10_attempt.1 ∈ UW := mUW (tp8 (List.mem_of_getElem? (i := 30) (by decide +kernel))) rfl
theorem l_L_138 : Cond.methodLink RL 138 mX9_winds.1 ∈ UW := mUW (tp5 (List.mem_of_getElem? (i := 84) (by decide +kernel))) rfl
theorem l_L_141 : Cond.methodLink RL 141 mX10_winds.1 ∈ UW := mUW (tp8 (List.mem_of_getElem? (i := 38) (by decide +kernel))) rfl
theorem l_L_142 : Cond.methodLink RL 142 mX9_chance.1 ∈ UW := mUW (tp5 (List.mem_of_getElem? (i := 92) (by decide +kernel))) rfl
theorem l_L_145 : Cond.methodLink RL 145 mX10_chance.1 ∈ UW := mUW (tp8 (List.mem_of_getElem? (i := 47) (by decide +kernel))) rfl
theorem l_L_146 : Cond.methodLink RL 146 mX9_mean.1 ∈ UW := mUW (tp5 (List.mem_of_getElem? (i := 114) (by decide +kernel))) rfl
theorem l_L_150 : Cond.methodLink RL 150 mX10_mean.1 ∈ UW := mUW (tp8 (List.mem_of_getElem? (i := 64) (by decide +kernel))) rfl
theorem l_L_151 : Cond.methodLink RL 151 mX9_famous.1 ∈ UW := mUW (tp5 (List.mem_of_getElem? (i := 119) (by decide +kernel))) rfl
theorem l_L_154 : Cond.methodLink RL 154 mX10_famous.1 ∈ UW := mUW (tp8 (List.mem_of_getElem? (i := 69) (by decide +kernel))) rfl
theorem l_L_155 : Cond.methodLink RL 155 mX9_numbers.1 ∈ UW := mUW (tp5 (List.mem_of_getElem? (i := 123) (by decide +kernel))) rfl
theorem l_L_158 : Cond.methodLink RL 158 mX10_numbers.1 ∈ UW := mUW (tp8 (List.mem_of_getElem? (i := 73) (by decide +kernel))) rfl
theorem c_L_159 : Cond.constantLong RL 159 (Int64.ofInt (4294967295)) ∈ UW := mUW (tp8 (List.mem_of_getElem? (i := 101) (by decide +kernel))) rfl
theorem l_L_161 : Cond.methodLink RL 161 mX9_write.1 ∈ UW := mUW (tp5 (List.mem_of_getElem? (i := 132) (by decide +kernel))) rfl
theorem l_L_165 : Cond.methodLink RL 165 mX10_write.1 ∈ UW := mUW (tp8 (List.mem_of_getElem? (i := 77) (by decide +kernel))) rfl
theorem l_L_166 : Cond.methodLink RL 166 mX9_lists.1 ∈ UW := mUW (tp5 (List.mem_of_getElem? (i := 143) (by decide +kernel))) rfl
theorem l_L_169 : Cond.methodLink RL 169 mX10_lists.1 ∈ UW := mUW (tp8 (List.mem_of_getElem? (i := 85) (by decide +kernel))) rfl
theorem l_L_170 : Cond.methodLink RL 170 mX9_image.1 ∈ UW := mUW (tp5 (List.mem_of_getElem? (i := 152) (by decide +kernel))) rfl
theorem l_L_173 : Cond.methodLink RL 173 mX10_image.1 ∈ UW := mUW (tp8 (List.mem_of_getElem? (i := 89) (by decide +kernel))) rfl
theorem l_L_174 : Cond.methodLink RL 174 mX9_restore.1 ∈ UW := mUW (tp5 (List.mem_of_getElem? (i := 165) (by decide +kernel))) rfl
theorem l_L_177 : Cond.methodLink RL 177 mX10_restore.1 ∈ UW := mUW (tp8 (List.mem_of_getElem? (i := 93) (by decide +kernel))) rfl
theorem l_L_178 : Cond.methodLink RL 178 mX9_count.1 ∈ UW := mUW (tp5 (List.mem_of_getElem? (i := 169) (by decide +kernel))) rfl
theorem l_L_181 : Cond.methodLink RL 181 mX10_count.1 ∈ UW := mUW (tp8 (List.mem_of_getElem? (i := 97) (by decide +kernel))) rfl
theorem f_X0_56 : FL RX0 56 0 0 := ⟨_, rfl, by decide, mUW (tp2 (List.mem_of_getElem? (i := 23) (by decide +kernel))) rfl⟩
theorem f_X0_75 : FL RX0 75 0 13 := ⟨_, rfl, by decide, mUW (tp2 (List.mem_of_getElem? (i := 44) (by decide +kernel))) rfl⟩
theorem f_X0_68 : FL RX0 68 0 6 := ⟨_, rfl, by decide, mUW (tp2 (List.mem_of_getElem? (i := 36) (by decide +kernel))) rfl⟩
theorem f_X0_18 : FL RX0 18 0 3 := ⟨_, rfl, by decide, mUW (tp2 (List.mem_of_getElem? (i := 29) (by decide +kernel))) rfl⟩
theorem l_X0_78 : Cond.methodLink RX0 78 mJ7_fill_53178.1 ∈ UW := mUW (tp4 (List.mem_of_getElem? (i := 66) (by decide +kernel))) rfl
theorem f_X0_21 : FL RX0 21 0 4 := ⟨_, rfl, by decide, mUW (tp2 (List.mem_of_getElem? (i := 32) (by decide +kernel))) rfl⟩
theorem f_X0_24 : FL RX0 24 0 5 := ⟨_, rfl, by decide, mUW (tp2 (List.mem_of_getElem? (i := 34) (by decide +kernel))) rfl⟩
theorem f_X0_33 : FL RX0 33 0 11 := ⟨_, rfl, by decide, mUW (tp2 (List.mem_of_getElem? (i := 42) (by decide +kernel))) rfl⟩
theorem f_X0_27 : FL RX0 27 0 9 := ⟨_, rfl, by decide, mUW (tp2 (List.mem_of_getElem? (i := 40) (by decide +kernel))) rfl⟩
theorem f_X0_45 : FL RX0 45 0 7 := ⟨_, rfl, by decide, mUW (tp2 (List.mem_of_getElem? (i := 38) (by decide +kernel))) rfl⟩
theorem f_X0_84 : FL RX0 84 6 0 := ⟨_, rfl, by decide, mUW (tp1 (List.mem_of_getElem? (i := 43) (by decide +kernel))) rfl⟩
theorem f_X0_30 : FL RX0 30 0 10 := ⟨_, rfl, by decide, mUW (tp2 (List.mem_of_getElem? (i := 41) (by decide +kernel))) rfl⟩
theorem f_X0_89 : FL RX0 89 6 3 := ⟨_, rfl, by decide, mUW (tp1 (List.mem_of_getElem? (i := 59) (by decide +kernel))) rfl⟩
theorem f_X0_39 : FL RX0 39 0 14 := ⟨_, rfl, by decide, mUW (tp2 (List.mem_of_getElem? (i := 45) (by decide +kernel))) rfl⟩
theorem f_X0_9 : FL RX0 9 0 1 := ⟨_, rfl, by decide, mUW (tp2 (List.mem_of_getElem? (i := 25) (by decide +kernel))) rfl⟩
theorem f_X0_15 : FL RX0 15 0 2 := ⟨_, rfl, by decide, mUW (tp2 (List.mem_of_getElem? (i := 27) (by decide +kernel))) rfl⟩
theorem f_X0_42 : FL RX0 42 0 15 := ⟨_, rfl, by decide, mUW (tp2 (List.mem_of_getElem? (i := 46) (by decide +kernel))) rfl⟩
theorem l_X0_3 : Cond.methodLink RX0 3 Lib.objectInit ∈ UW := mUW (tp2 (List.mem_of_getElem? (i := 22) (by decide +kernel))) rfl
theorem f_X0_36 : FL RX0 36 0 12 := ⟨_, rfl, by decide, mUW (tp2 (List.mem_of_getElem? (i := 43) (by decide +kernel))) rfl⟩
theorem f_X0_111 : FL RX0 111 8 2 := ⟨_, rfl, by decide, mUW (tp2 (List.mem_of_getElem? (i := 158) (by decide +kernel))) rfl⟩
theorem f_X0_116 : FL RX0 116 8 3 := ⟨_, rfl, by decide, mUW (tp2 (List.mem_of_getElem? (i := 161) (by decide +kernel))) rfl⟩
theorem l_X0_120 : Cond.methodLink RX0 120 mX8_put.1 ∈ UW := mUW (tp5 (List.mem_of_getElem? (i := 151) (by decide +kernel))) rfl
theorem f_X0_49 : FL RX0 49 0 8 := ⟨_, rfl, by decide, mUW (tp2 (List.mem_of_getElem? (i := 39) (by decide +kernel))) rfl⟩
theorem l_X0_53 : Cond.methodLink RX0 53 mX0_clear.1 ∈ UW := mUW (tp4 (List.mem_of_getElem? (i := 62) (by decide +kernel))) rfl
theorem l_X0_60 : Cond.methodLink RX0 60 mX0_come.1 ∈ UW := mUW (tp4 (List.mem_of_getElem? (i := 67) (by decide +kernel))) rfl
theorem l_X0_64 : Cond.methodLink RX0 64 mX0_sayNamings.1 ∈ UW := mUW (tp4 (List.mem_of_getElem? (i := 71) (by decide +kernel))) rfl
theorem l_X0_71 : Cond.methodLink RX0 71 mX0_sayAnswers.1 ∈ UW := mUW (tp4 (List.mem_of_getElem? (i := 79) (by decide +kernel))) rfl
theorem f_X0_108 : FL RX0 108 3 1 := ⟨_, rfl, by decide, mUW (tp1 (List.mem_of_getElem? (i := 227) (by decide +kernel))) rfl⟩
theorem l_X0_102 : Cond.methodLink RX0 102 mX3_isAnswered.1 ∈ UW := mUW (tp4 (List.mem_of_getElem? (i := 83) (by decide +kernel))) rfl
theorem l_X0_98 : Cond.methodLink RX0 98 mX0_say.1 ∈ UW := mUW (tp4 (List.mem_of_getElem? (i := 75) (by decide +kernel))) rfl
theorem f_X0_92 : FL RX0 92 6 1 := ⟨_, rfl, by decide, mUW (tp1 (List.mem_of_getElem? (i := 50) (by decide +kernel))) rfl⟩
theorem f_X0_95 : FL RX0 95 6 2 := ⟨_, rfl, by decide, mUW (tp1 (List.mem_of_getElem? (i := 54) (by decide +kernel))) rfl⟩
theorem f_X10_1 : FL RX10 1 10 0 := ⟨_, rfl, by decide, mUW (tp5 (List.mem_of_getElem? (i := 183) (by decide +kernel))) rfl⟩
theorem l_X10_235 : Cond.methodLink RX10 235 mX10_isPerson.1 ∈ UW := mUW (tp6 (List.mem_of_getElem? (i := 212) (by decide +kernel))) rfl
theorem l_X10_308 : Cond.methodLink RX10 308 mX10_laysDay.1 ∈ UW := mUW (tp7 (List.mem_of_getElem? (i := 16) (by decide +kernel))) rfl
theorem f_X10_76 : FL RX10 76 10 32 := ⟨_, rfl, by decide, mUW (tp5 (List.mem_of_getElem? (i := 215) (by decide +kernel))) rfl⟩
theorem f_X10_13 : FL RX10 13 10 1 := ⟨_, rfl, by decide, mUW (tp5 (List.mem_of_getElem? (i := 184) (by decide +kernel))) rfl⟩
theorem l_X10_170 : Cond.methodLink RX10 170 mX10_within.1 ∈ UW := mUW (tp6 (List.mem_of_getElem? (i := 99) (by decide +kernel))) rfl
theorem l_X10_313 : Cond.methodLink RX10 313 mX10_cellMany.1 ∈ UW := mUW (tp7 (List.mem_of_getElem? (i := 88) (by decide +kernel))) rfl
theorem l_X10_418 : Cond.methodLink RX10 418 mX10_oneGap.1 ∈ UW := mUW (tp7 (List.mem_of_getElem? (i := 232) (by decide +kernel))) rfl
theorem l_X10_444 : Cond.methodLink RX10 444 mX10_noHeard.1 ∈ UW := mUW (tp8 (List.mem_of_getElem? (i := 13) (by decide +kernel))) rfl
theorem l_X10_447 : Cond.methodLink RX10 447 mX10_heardOf.1 ∈ UW := mUW (tp8 (List.mem_of_getElem? (i := 18) (by decide +kernel))) rfl
theorem c_X10_417 : Cond.constant RX10 417 (Int32.ofInt (268435456)) ∈ UW := mUW (tp7 (List.mem_of_getElem? (i := 227) (by decide +kernel))) rfl
theorem l_X10_450 : Cond.methodLink RX10 450 mX10_mostOften.1 ∈ UW := mUW (tp8 (List.mem_of_getElem? (i := 34) (by decide +kernel))) rfl
theorem l_X10_259 : Cond.methodLink RX10 259 mX10_areTwo.1 ∈ UW := mUW (tp6 (List.mem_of_getElem? (i := 220) (by decide +kernel))) rfl
theorem l_X10_263 : Cond.methodLink RX10 263 mX10_gapOf.1 ∈ UW := mUW (tp6 (List.mem_of_getElem? (i := 224) (by decide +kernel))) rfl
theorem l_X10_266 : Cond.methodLink RX10 266 mX10_pitchOf.1 ∈ UW := mUW (tp7 (List.mem_of_getElem? (i := 7) (by decide +kernel))) rfl
theorem l_X10_246 : Cond.methodLink RX10 246 mX10_farOf.1 ∈ UW := mUW (tp6 (List.mem_of_getElem? (i := 232) (by decide +kernel))) rfl
theorem c_X10_242 : Cond.constantLong RX10 242 (Int64.ofInt (1000000)) ∈ UW := mUW (tp7 (List.mem_of_getElem? (i := 2) (by decide +kernel))) rfl
theorem c_X10_244 : Cond.constantLong RX10 244 (Int64.ofInt (-1000000)) ∈ UW := mUW (tp7 (List.mem_of_getElem? (i := 3) (by decide +kernel))) rfl
theorem l_X10_462 : Cond.methodLink RX10 462 mX10_laysChances.1 ∈ UW := mUW (tp8 (List.mem_of_getElem? (i := 51) (by decide +kernel))) rfl
theorem f_X10_88 : FL RX10 88 10 44 := ⟨_, rfl, by decide, mUW (tp5 (List.mem_of_getElem? (i := 227) (by decide +kernel))) rfl⟩
theorem l_X10_465 : Cond.methodLink RX10 465 mX10_wholeOf.1 ∈ UW := mUW (tp8 (List.mem_of_getElem? (i := 55) (by decide +kernel))) rfl
theorem l_X10_469 : Cond.methodLink RX10 469 mX10_part.1 ∈ UW := mUW (tp8 (List.mem_of_getElem? (i := 58) (by decide +kernel))) rfl
theorem l_X10_189 : Cond.methodLink RX10 189 mX10_eats.1 ∈ UW := mUW (tp6 (List.mem_of_getElem? (i := 124) (by decide +kernel))) rfl
theorem l_X10_166 : Cond.methodLink RX10 166 mX10_fails.1 ∈ UW := mUW (tp6 (List.mem_of_getElem? (i := 132) (by decide +kernel))) rfl
theorem f_X10_24 : FL RX10 24 10 4 := ⟨_, rfl, by decide, mUW (tp5 (List.mem_of_getElem? (i := 187) (by decide +kernel))) rfl⟩
theorem f_X10_154 : FL RX10 154 10 11 := ⟨_, rfl, by decide, mUW (tp5 (List.mem_of_getElem? (i := 194) (by decide +kernel))) rfl⟩
theorem l_X10_458 : Cond.methodLink RX10 458 mX10_common.1 ∈ UW := mUW (tp8 (List.mem_of_getElem? (i := 61) (by decide +kernel))) rfl
theorem f_X10_108 : FL RX10 108 10 5 := ⟨_, rfl, by decide, mUW (tp5 (List.mem_of_getElem? (i := 188) (by decide +kernel))) rfl⟩
theorem c_X10_311 : Cond.constantLong RX10 311 (Int64.ofInt (99)) ∈ UW := mUW (tp7 (List.mem_of_getElem? (i := 55) (by decide +kernel))) rfl
theorem l_X10_402 : Cond.methodLink RX10 402 mX10_crowdAt.1 ∈ UW := mUW (tp7 (List.mem_of_getElem? (i := 182) (by decide +kernel))) rfl
theorem f_X10_287 : FL RX10 287 10 36 := ⟨_, rfl, by decide, mUW (tp5 (List.mem_of_getElem? (i := 219) (by decide +kernel))) rfl⟩
theorem f_X10_70 : FL RX10 70 10 30 := ⟨_, rfl, by decide, mUW (tp5 (List.mem_of_getElem? (i := 213) (by decide +kernel))) rfl⟩
theorem l_X10_323 : Cond.methodLink RX10 323 mX10_tellsOne.1 ∈ UW := mUW (tp7 (List.mem_of_getElem? (i := 60) (by decide +kernel))) rfl
theorem l_X10_332 : Cond.methodLink RX10 332 mX10_drops.1 ∈ UW := mUW (tp7 (List.mem_of_getElem? (i := 76) (by decide +kernel))) rfl
theorem c_X10_384 : Cond.constant RX10 384 (Int32.ofInt (1103515245)) ∈ UW := mUW (tp7 (List.mem_of_getElem? (i := 157) (by decide +kernel))) rfl
theorem f_X10_385 : FL RX10 385 10 39 := ⟨_, rfl, by decide, mUW (tp5 (List.mem_of_getElem? (i := 222) (by decide +kernel))) rfl⟩
theorem l_X10_388 : Cond.methodLink RX10 388 mX10_draw.1 ∈ UW := mUW (tp7 (List.mem_of_getElem? (i := 153) (by decide +kernel))) rfl
theorem l_X10_329 : Cond.methodLink RX10 329 mX10_isNaming.1 ∈ UW := mUW (tp7 (List.mem_of_getElem? (i := 72) (by decide +kernel))) rfl
theorem l_X10_320 : Cond.methodLink RX10 320 mX10_stores.1 ∈ UW := mUW (tp7 (List.mem_of_getElem? (i := 56) (by decide +kernel))) rfl
theorem l_X10_326 : Cond.methodLink RX10 326 mX10_notes.1 ∈ UW := mUW (tp7 (List.mem_of_getElem? (i := 64) (by decide +kernel))) rfl
theorem l_X10_160 : Cond.methodLink RX10 160 mX10_is.1 ∈ UW := mUW (tp6 (List.mem_of_getElem? (i := 128) (by decide +kernel))) rfl
theorem l_X10_163 : Cond.methodLink RX10 163 mX10_next.1 ∈ UW := mUW (tp6 (List.mem_of_getElem? (i := 102) (by decide +kernel))) rfl
theorem f_X10_136 : FL RX10 136 10 9 := ⟨_, rfl, by decide, mUW (tp5 (List.mem_of_getElem? (i := 192) (by decide +kernel))) rfl⟩
theorem f_X10_126 : FL RX10 126 10 6 := ⟨_, rfl, by decide, mUW (tp5 (List.mem_of_getElem? (i := 189) (by decide +kernel))) rfl⟩
theorem f_X10_157 : FL RX10 157 10 12 := ⟨_, rfl, by decide, mUW (tp5 (List.mem_of_getElem? (i := 195) (by decide +kernel))) rfl⟩
theorem f_X10_92 : FL RX10 92 10 45 := ⟨_, rfl, by decide, mUW (tp5 (List.mem_of_getElem? (i := 228) (by decide +kernel))) rfl⟩
theorem l_X10_239 : Cond.methodLink RX10 239 mX10_apart.1 ∈ UW := mUW (tp6 (List.mem_of_getElem? (i := 236) (by decide +kernel))) rfl
theorem f_X10_232 : FL RX10 232 10 13 := ⟨_, rfl, by decide, mUW (tp5 (List.mem_of_getElem? (i := 196) (by decide +kernel))) rfl⟩
theorem f_X10_27 : FL RX10 27 10 14 := ⟨_, rfl, by decide, mUW (tp5 (List.mem_of_getElem? (i := 197) (by decide +kernel))) rfl⟩
theorem f_X10_21 : FL RX10 21 10 3 := ⟨_, rfl, by decide, mUW (tp5 (List.mem_of_getElem? (i := 186) (by decide +kernel))) rfl⟩
theorem l_X10_253 : Cond.methodLink RX10 253 mX10_reckons.1 ∈ UW := mUW (tp6 (List.mem_of_getElem? (i := 228) (by decide +kernel))) rfl
theorem l_X10_256 : Cond.methodLink RX10 256 mX10_kept.1 ∈ UW := mUW (tp7 (List.mem_of_getElem? (i := 4) (by decide +kernel))) rfl
theorem f_X10_284 : FL RX10 284 10 35 := ⟨_, rfl, by decide, mUW (tp5 (List.mem_of_getElem? (i := 218) (by decide +kernel))) rfl⟩
theorem f_X10_52 : FL RX10 52 10 24 := ⟨_, rfl, by decide, mUW (tp5 (List.mem_of_getElem? (i := 207) (by decide +kernel))) rfl⟩
theorem f_X10_273 : FL RX10 273 10 34 := ⟨_, rfl, by decide, mUW (tp5 (List.mem_of_getElem? (i := 217) (by decide +kernel))) rfl⟩
theorem f_X10_79 : FL RX10 79 10 33 := ⟨_, rfl, by decide, mUW (tp5 (List.mem_of_getElem? (i := 216) (by decide +kernel))) rfl⟩
theorem f_X10_67 : FL RX10 67 10 29 := ⟨_, rfl, by decide, mUW (tp5 (List.mem_of_getElem? (i := 212) (by decide +kernel))) rfl⟩
theorem f_X10_61 : FL RX10 61 10 27 := ⟨_, rfl, by decide, mUW (tp5 (List.mem_of_getElem? (i := 210) (by decide +kernel))) rfl⟩
theorem f_X10_73 : FL RX10 73 10 31 := ⟨_, rfl, by decide, mUW (tp5 (List.mem_of_getElem? (i := 214) (by decide +kernel))) rfl⟩
theorem f_X10_58 : FL RX10 58 10 26 := ⟨_, rfl, by decide, mUW (tp5 (List.mem_of_getElem? (i := 209) (by decide +kernel))) rfl⟩
theorem f_X10_64 : FL RX10 64 10 28 := ⟨_, rfl, by decide, mUW (tp5 (List.mem_of_getElem? (i := 211) (by decide +kernel))) rfl⟩
theorem f_X10_46 : FL RX10 46 10 22 := ⟨_, rfl, by decide, mUW (tp5 (List.mem_of_getElem? (i := 205) (by decide +kernel))) rfl⟩
theorem f_X10_40 : FL RX10 40 10 20 := ⟨_, rfl, by decide, mUW (tp5 (List.mem_of_getElem? (i := 203) (by decide +kernel))) rfl⟩
theorem l_X10_276 : Cond.methodLink RX10 276 mX10_isIn.1 ∈ UW := mUW (tp7 (List.mem_of_getElem? (i := 28) (by decide +kernel))) rfl
theorem f_X10_43 : FL RX10 43 10 21 := ⟨_, rfl, by decide, mUW (tp5 (List.mem_of_getElem? (i := 204) (by decide +kernel))) rfl⟩
theorem l_X10_290 : Cond.methodLink RX10 290 mX10_says.1 ∈ UW := mUW (tp7 (List.mem_of_getElem? (i := 39) (by decide +kernel))) rfl
theorem f_X10_49 : FL RX10 49 10 23 := ⟨_, rfl, by decide, mUW (tp5 (List.mem_of_getElem? (i := 206) (by decide +kernel))) rfl⟩
theorem l_X10_293 : Cond.methodLink RX10 293 mX10_isAnswered.1 ∈ UW := mUW (tp7 (List.mem_of_getElem? (i := 43) (by decide +kernel))) rfl
theorem l_X10_441 : Cond.methodLink RX10 441 mX10_isHeard.1 ∈ UW := mUW (tp8 (List.mem_of_getElem? (i := 22) (by decide +kernel))) rfl
theorem c_X10_306 : Cond.constantLong RX10 306 (Int64.ofInt (4)) ∈ UW := mUW (tp7 (List.mem_of_getElem? (i := 15) (by decide +kernel))) rfl
theorem l_X10_396 : Cond.methodLink RX10 396 mX10_hiccupsOf.1 ∈ UW := mUW (tp7 (List.mem_of_getElem? (i := 162) (by decide +kernel))) rfl
theorem f_X10_111 : FL RX10 111 10 8 := ⟨_, rfl, by decide, mUW (tp5 (List.mem_of_getElem? (i := 191) (by decide +kernel))) rfl⟩
theorem f_X10_129 : FL RX10 129 10 7 := ⟨_, rfl, by decide, mUW (tp5 (List.mem_of_getElem? (i := 190) (by decide +kernel))) rfl⟩
theorem l_X10_104 : Cond.methodLink RX10 104 mX10_plain.1 ∈ UW := mUW (tp5 (List.mem_of_getElem? (i := 180) (by decide +kernel))) rfl
theorem l_X10_210 : Cond.methodLink RX10 210 mX10_takes.1 ∈ UW := mUW (tp6 (List.mem_of_getElem? (i := 136) (by decide +kernel))) rfl
theorem l_X10_226 : Cond.methodLink RX10 226 mX10_closes.1 ∈ UW := mUW (tp6 (List.mem_of_getElem? (i := 140) (by decide +kernel))) rfl
theorem l_X10_229 : Cond.methodLink RX10 229 mX10_readLine.1 ∈ UW := mUW (tp6 (List.mem_of_getElem? (i := 144) (by decide +kernel))) rfl
theorem f_X10_17 : FL RX10 17 10 2 := ⟨_, rfl, by decide, mUW (tp5 (List.mem_of_getElem? (i := 185) (by decide +kernel))) rfl⟩
theorem l_X10_7 : Cond.methodLink RX10 7 Lib.objectInit ∈ UW := mUW (tp5 (List.mem_of_getElem? (i := 178) (by decide +kernel))) rfl
theorem f_X10_30 : FL RX10 30 10 16 := ⟨_, rfl, by decide, mUW (tp5 (List.mem_of_getElem? (i := 199) (by decide +kernel))) rfl⟩
theorem f_X10_33 : FL RX10 33 10 17 := ⟨_, rfl, by decide, mUW (tp5 (List.mem_of_getElem? (i := 200) (by decide +kernel))) rfl⟩
theorem c_X10_36 : Cond.constant RX10 36 (Int32.ofInt (54000)) ∈ UW := mUW (tp5 (List.mem_of_getElem? (i := 179) (by decide +kernel))) rfl
theorem f_X10_37 : FL RX10 37 10 18 := ⟨_, rfl, by decide, mUW (tp5 (List.mem_of_getElem? (i := 201) (by decide +kernel))) rfl⟩
theorem f_X10_55 : FL RX10 55 10 25 := ⟨_, rfl, by decide, mUW (tp5 (List.mem_of_getElem? (i := 208) (by decide +kernel))) rfl⟩
theorem f_X10_82 : FL RX10 82 10 37 := ⟨_, rfl, by decide, mUW (tp5 (List.mem_of_getElem? (i := 220) (by decide +kernel))) rfl⟩
theorem f_X10_85 : FL RX10 85 10 43 := ⟨_, rfl, by decide, mUW (tp5 (List.mem_of_getElem? (i := 226) (by decide +kernel))) rfl⟩
theorem f_X10_95 : FL RX10 95 10 46 := ⟨_, rfl, by decide, mUW (tp5 (List.mem_of_getElem? (i := 229) (by decide +kernel))) rfl⟩
theorem f_X10_98 : FL RX10 98 10 47 := ⟨_, rfl, by decide, mUW (tp5 (List.mem_of_getElem? (i := 230) (by decide +kernel))) rfl⟩
theorem f_X10_101 : FL RX10 101 10 48 := ⟨_, rfl, by decide, mUW (tp5 (List.mem_of_getElem? (i := 231) (by decide +kernel))) rfl⟩
theorem l_X10_300 : Cond.methodLink RX10 300 mX10_laysTold.1 ∈ UW := mUW (tp7 (List.mem_of_getElem? (i := 24) (by decide +kernel))) rfl
theorem l_X10_280 : Cond.methodLink RX10 280 mX10_tellsToo.1 ∈ UW := mUW (tp7 (List.mem_of_getElem? (i := 31) (by decide +kernel))) rfl
theorem l_X10_303 : Cond.methodLink RX10 303 mX10_goesDay.1 ∈ UW := mUW (tp7 (List.mem_of_getElem? (i := 35) (by decide +kernel))) rfl
theorem l_X10_399 : Cond.methodLink RX10 399 mX10_minuteAt.1 ∈ UW := mUW (tp7 (List.mem_of_getElem? (i := 174) (by decide +kernel))) rfl
theorem c_X10_370 : Cond.constantLong RX10 370 (Int64.ofInt (3)) ∈ UW := mUW (tp7 (List.mem_of_getElem? (i := 106) (by decide +kernel))) rfl
theorem l_X10_372 : Cond.methodLink RX10 372 mX10_noTray.1 ∈ UW := mUW (tp7 (List.mem_of_getElem? (i := 107) (by decide +kernel))) rfl
theorem l_X10_375 : Cond.methodLink RX10 375 mX10_tells.1 ∈ UW := mUW (tp7 (List.mem_of_getElem? (i := 111) (by decide +kernel))) rfl
theorem l_X10_378 : Cond.methodLink RX10 378 mX10_isAgain.1 ∈ UW := mUW (tp7 (List.mem_of_getElem? (i := 132) (by decide +kernel))) rfl
theorem f_X10_360 : FL RX10 360 10 38 := ⟨_, rfl, by decide, mUW (tp5 (List.mem_of_getElem? (i := 221) (by decide +kernel))) rfl⟩
theorem l_X10_381 : Cond.methodLink RX10 381 mX10_nobodies.1 ∈ UW := mUW (tp7 (List.mem_of_getElem? (i := 136) (by decide +kernel))) rfl
theorem l_X10_116 : Cond.methodLink RX10 116 mJ0_length_8abf5.1 ∈ UW := mUW (tp6 (List.mem_of_getElem? (i := 118) (by decide +kernel))) rfl
theorem l_X10_122 : Cond.methodLink RX10 122 mJ0_charAt_5068e.1 ∈ UW := mUW (tp6 (List.mem_of_getElem? (i := 119) (by decide +kernel))) rfl
theorem l_X10_297 : Cond.methodLink RX10 297 mX10_laysGaps.1 ∈ UW := mUW (tp7 (List.mem_of_getElem? (i := 20) (by decide +kernel))) rfl
theorem f_X10_269 : FL RX10 269 10 19 := ⟨_, rfl, by decide, mUW (tp5 (List.mem_of_getElem? (i := 202) (by decide +kernel))) rfl⟩
theorem f_X10_421 : FL RX10 421 10 40 := ⟨_, rfl, by decide, mUW (tp5 (List.mem_of_getElem? (i := 223) (by decide +kernel))) rfl⟩
theorem f_X10_424 : FL RX10 424 10 41 := ⟨_, rfl, by decide, mUW (tp5 (List.mem_of_getElem? (i := 224) (by decide +kernel))) rfl⟩
theorem f_X10_427 : FL RX10 427 10 42 := ⟨_, rfl, by decide, mUW (tp5 (List.mem_of_getElem? (i := 225) (by decide +kernel))) rfl⟩
theorem l_X10_430 : Cond.methodLink RX10 430 mX10_isSilent.1 ∈ UW := mUW (tp8 (List.mem_of_getElem? (i := 5) (by decide +kernel))) rfl
theorem c_X10_473 : Cond.constantLong RX10 473 (Int64.ofInt (-2)) ∈ UW := mUW (tp8 (List.mem_of_getElem? (i := 68) (by decide +kernel))) rfl
theorem l_X10_335 : Cond.methodLink RX10 335 mX10_isCell.1 ∈ UW := mUW (tp7 (List.mem_of_getElem? (i := 84) (by decide +kernel))) rfl
theorem l_X10_132 : Cond.methodLink RX10 132 mX10_see.1 ∈ UW := mUW (tp6 (List.mem_of_getElem? (i := 106) (by decide +kernel))) rfl
theorem l_X10_139 : Cond.methodLink RX10 139 mX10_isSmall.1 ∈ UW := mUW (tp6 (List.mem_of_getElem? (i := 110) (by decide +kernel))) rfl
theorem l_X10_143 : Cond.methodLink RX10 143 mX10_keyAt.1 ∈ UW := mUW (tp6 (List.mem_of_getElem? (i := 113) (by decide +kernel))) rfl
theorem l_X10_146 : Cond.methodLink RX10 146 mX10_isDigit.1 ∈ UW := mUW (tp6 (List.mem_of_getElem? (i := 120) (by decide +kernel))) rfl
theorem f_X10_149 : FL RX10 149 10 10 := ⟨_, rfl, by decide, mUW (tp5 (List.mem_of_getElem? (i := 193) (by decide +kernel))) rfl⟩
theorem c_X10_439 : Cond.constantLong RX10 439 (Int64.ofInt (6)) ∈ UW := mUW (tp8 (List.mem_of_getElem? (i := 17) (by decide +kernel))) rfl
theorem c_X10_346 : Cond.constantLong RX10 346 (Int64.ofInt (100)) ∈ UW := mUW (tp7 (List.mem_of_getElem? (i := 121) (by decide +kernel))) rfl
theorem c_X10_405 : Cond.constantLong RX10 405 (Int64.ofInt (20)) ∈ UW := mUW (tp7 (List.mem_of_getElem? (i := 202) (by decide +kernel))) rfl
theorem c_X10_391 : Cond.constantLong RX10 391 (Int64.ofInt (40)) ∈ UW := mUW (tp7 (List.mem_of_getElem? (i := 148) (by decide +kernel))) rfl
theorem l_X10_177 : Cond.methodLink RX10 177 mX10_codes.1 ∈ UW := mUW (tp6 (List.mem_of_getElem? (i := 180) (by decide +kernel))) rfl
theorem l_X10_180 : Cond.methodLink RX10 180 mX10_wordOf.1 ∈ UW := mUW (tp6 (List.mem_of_getElem? (i := 196) (by decide +kernel))) rfl
theorem l_X10_183 : Cond.methodLink RX10 183 mX10_goesIn.1 ∈ UW := mUW (tp6 (List.mem_of_getElem? (i := 176) (by decide +kernel))) rfl
theorem l_X10_186 : Cond.methodLink RX10 186 mX10_readSum.1 ∈ UW := mUW (tp6 (List.mem_of_getElem? (i := 184) (by decide +kernel))) rfl
theorem l_X10_192 : Cond.methodLink RX10 192 mX10_readIf.1 ∈ UW := mUW (tp6 (List.mem_of_getElem? (i := 200) (by decide +kernel))) rfl
theorem l_X10_204 : Cond.methodLink RX10 204 mX10_readUnit.1 ∈ UW := mUW (tp6 (List.mem_of_getElem? (i := 172) (by decide +kernel))) rfl
theorem l_X10_195 : Cond.methodLink RX10 195 mX10_readTruth.1 ∈ UW := mUW (tp6 (List.mem_of_getElem? (i := 164) (by decide +kernel))) rfl
theorem f_X10_174 : FL RX10 174 10 15 := ⟨_, rfl, by decide, mUW (tp5 (List.mem_of_getElem? (i := 198) (by decide +kernel))) rfl⟩
theorem l_X10_217 : Cond.methodLink RX10 217 mX10_readPerson.1 ∈ UW := mUW (tp6 (List.mem_of_getElem? (i := 148) (by decide +kernel))) rfl
theorem l_X10_220 : Cond.methodLink RX10 220 mX10_readNames.1 ∈ UW := mUW (tp6 (List.mem_of_getElem? (i := 156) (by decide +kernel))) rfl
theorem l_X10_223 : Cond.methodLink RX10 223 mX10_readLaw.1 ∈ UW := mUW (tp6 (List.mem_of_getElem? (i := 160) (by decide +kernel))) rfl
theorem l_X10_214 : Cond.methodLink RX10 214 mX10_readFlag.1 ∈ UW := mUW (tp6 (List.mem_of_getElem? (i := 152) (by decide +kernel))) rfl
theorem l_X10_201 : Cond.methodLink RX10 201 mX10_readTerm.1 ∈ UW := mUW (tp6 (List.mem_of_getElem? (i := 188) (by decide +kernel))) rfl
theorem l_X10_198 : Cond.methodLink RX10 198 mX10_readAtom.1 ∈ UW := mUW (tp6 (List.mem_of_getElem? (i := 192) (by decide +kernel))) rfl
theorem l_X10_207 : Cond.methodLink RX10 207 mX10_readBoth.1 ∈ UW := mUW (tp6 (List.mem_of_getElem? (i := 168) (by decide +kernel))) rfl
theorem l_X10_249 : Cond.methodLink RX10 249 mX10_between1.1 ∈ UW := mUW (tp6 (List.mem_of_getElem? (i := 239) (by decide +kernel))) rfl
theorem c_X10_434 : Cond.constantLong RX10 434 (Int64.ofInt (2)) ∈ UW := mUW (tp8 (List.mem_of_getElem? (i := 0) (by decide +kernel))) rfl
theorem l_X10_436 : Cond.methodLink RX10 436 mX10_laysSilence.1 ∈ UW := mUW (tp8 (List.mem_of_getElem? (i := 1) (by decide +kernel))) rfl
theorem l_X10_407 : Cond.methodLink RX10 407 mX10_hasOneAt.1 ∈ UW := mUW (tp7 (List.mem_of_getElem? (i := 215) (by decide +kernel))) rfl
theorem l_X10_411 : Cond.methodLink RX10 411 mX10_noStop.1 ∈ UW := mUW (tp7 (List.mem_of_getElem? (i := 207) (by decide +kernel))) rfl
theorem l_X10_414 : Cond.methodLink RX10 414 mX10_stopAt.1 ∈ UW := mUW (tp7 (List.mem_of_getElem? (i := 211) (by decide +kernel))) rfl
theorem l_X10_316 : Cond.methodLink RX10 316 mX10_whyTell.1 ∈ UW := mUW (tp7 (List.mem_of_getElem? (i := 51) (by decide +kernel))) rfl
theorem l_X10_363 : Cond.methodLink RX10 363 mX10_whyNot.1 ∈ UW := mUW (tp7 (List.mem_of_getElem? (i := 115) (by decide +kernel))) rfl
theorem l_X10_367 : Cond.methodLink RX10 367 mX10_does.1 ∈ UW := mUW (tp7 (List.mem_of_getElem? (i := 128) (by decide +kernel))) rfl
theorem c_X10_340 : Cond.constantLong RX10 340 (Int64.ofInt (10)) ∈ UW := mUW (tp7 (List.mem_of_getElem? (i := 101) (by decide +kernel))) rfl
theorem l_X10_393 : Cond.methodLink RX10 393 mX10_drawn.1 ∈ UW := mUW (tp7 (List.mem_of_getElem? (i := 149) (by decide +kernel))) rfl
theorem c_X10_338 : Cond.constantLong RX10 338 (Int64.ofInt (9)) ∈ UW := mUW (tp7 (List.mem_of_getElem? (i := 96) (by decide +kernel))) rfl
theorem c_X10_342 : Cond.constantLong RX10 342 (Int64.ofInt (7999)) ∈ UW := mUW (tp7 (List.mem_of_getElem? (i := 119) (by decide +kernel))) rfl
theorem c_X10_344 : Cond.constantLong RX10 344 (Int64.ofInt (1000)) ∈ UW := mUW (tp7 (List.mem_of_getElem? (i := 120) (by decide +kernel))) rfl
theorem c_X10_348 : Cond.constantLong RX10 348 (Int64.ofInt (8000)) ∈ UW := mUW (tp7 (List.mem_of_getElem? (i := 122) (by decide +kernel))) rfl
theorem c_X10_350 : Cond.constantLong RX10 350 (Int64.ofInt (8009)) ∈ UW := mUW (tp7 (List.mem_of_getElem? (i := 123) (by decide +kernel))) rfl
theorem c_X10_352 : Cond.constantLong RX10 352 (Int64.ofInt (8100)) ∈ UW := mUW (tp7 (List.mem_of_getElem? (i := 124) (by decide +kernel))) rfl
theorem c_X10_354 : Cond.constantLong RX10 354 (Int64.ofInt (8999)) ∈ UW := mUW (tp7 (List.mem_of_getElem? (i := 125) (by decide +kernel))) rfl
theorem c_X10_356 : Cond.constantLong RX10 356 (Int64.ofInt (9000)) ∈ UW := mUW (tp7 (List.mem_of_getElem? (i := 126) (by decide +kernel))) rfl
theorem c_X10_358 : Cond.constantLong RX10 358 (Int64.ofInt (9009)) ∈ UW := mUW (tp7 (List.mem_of_getElem? (i := 127) (by decide +kernel))) rfl
theorem c_X10_453 : Cond.constantLong RX10 453 (Int64.ofInt (8)) ∈ UW := mUW (tp8 (List.mem_of_getElem? (i := 42) (by decide +kernel))) rfl
theorem l_X10_455 : Cond.methodLink RX10 455 mX10_isTimed.1 ∈ UW := mUW (tp8 (List.mem_of_getElem? (i := 43) (by decide +kernel))) rfl
theorem c_X10_475 : Cond.constantLong RX10 475 (Int64.ofInt (-7)) ∈ UW := mUW (tp8 (List.mem_of_getElem? (i := 81) (by decide +kernel))) rfl
theorem l_X10_477 : Cond.methodLink RX10 477 mX10_cut.1 ∈ UW := mUW (tp8 (List.mem_of_getElem? (i := 82) (by decide +kernel))) rfl
theorem f_X1_9 : FL RX1 9 1 0 := ⟨_, rfl, by decide, mUW (tp1 (List.mem_of_getElem? (i := 90) (by decide +kernel))) rfl⟩
theorem f_X1_15 : FL RX1 15 1 1 := ⟨_, rfl, by decide, mUW (tp1 (List.mem_of_getElem? (i := 93) (by decide +kernel))) rfl⟩
theorem f_X1_44 : FL RX1 44 1 2 := ⟨_, rfl, by decide, mUW (tp1 (List.mem_of_getElem? (i := 98) (by decide +kernel))) rfl⟩
theorem f_X1_47 : FL RX1 47 1 3 := ⟨_, rfl, by decide, mUW (tp1 (List.mem_of_getElem? (i := 103) (by decide +kernel))) rfl⟩
theorem f_X1_31 : FL RX1 31 1 8 := ⟨_, rfl, by decide, mUW (tp1 (List.mem_of_getElem? (i := 121) (by decide +kernel))) rfl⟩
theorem l_X1_50 : Cond.methodLink RX1 50 mJ7_fill_53178.1 ∈ UW := mUW (tp3 (List.mem_of_getElem? (i := 143) (by decide +kernel))) rfl
theorem f_X1_34 : FL RX1 34 1 9 := ⟨_, rfl, by decide, mUW (tp1 (List.mem_of_getElem? (i := 124) (by decide +kernel))) rfl⟩
theorem f_X1_40 : FL RX1 40 1 10 := ⟨_, rfl, by decide, mUW (tp1 (List.mem_of_getElem? (i := 127) (by decide +kernel))) rfl⟩
theorem f_X1_56 : FL RX1 56 6 0 := ⟨_, rfl, by decide, mUW (tp1 (List.mem_of_getElem? (i := 44) (by decide +kernel))) rfl⟩
theorem f_X1_59 : FL RX1 59 6 6 := ⟨_, rfl, by decide, mUW (tp1 (List.mem_of_getElem? (i := 69) (by decide +kernel))) rfl⟩
theorem f_X1_18 : FL RX1 18 1 4 := ⟨_, rfl, by decide, mUW (tp1 (List.mem_of_getElem? (i := 106) (by decide +kernel))) rfl⟩
theorem l_X1_62 : Cond.methodLink RX1 62 arraycopyName ∈ UW := mUW (tp5 (List.mem_of_getElem? (i := 163) (by decide +kernel))) rfl
theorem f_X1_22 : FL RX1 22 1 5 := ⟨_, rfl, by decide, mUW (tp1 (List.mem_of_getElem? (i := 110) (by decide +kernel))) rfl⟩
theorem f_X1_25 : FL RX1 25 1 6 := ⟨_, rfl, by decide, mUW (tp1 (List.mem_of_getElem? (i := 114) (by decide +kernel))) rfl⟩
theorem f_X1_28 : FL RX1 28 1 7 := ⟨_, rfl, by decide, mUW (tp1 (List.mem_of_getElem? (i := 118) (by decide +kernel))) rfl⟩
theorem l_X1_68 : Cond.methodLink RX1 68 mX6_copyFrom.1 ∈ UW := mUW (tp5 (List.mem_of_getElem? (i := 164) (by decide +kernel))) rfl
theorem l_X1_3 : Cond.methodLink RX1 3 Lib.objectInit ∈ UW := mUW (tp1 (List.mem_of_getElem? (i := 33) (by decide +kernel))) rfl
theorem cl_X1_37 : Cond.classLink RX1 37 RX6 ∈ UW := mUW (tp1 (List.mem_of_getElem? (i := 34) (by decide +kernel))) rfl
theorem in_RX6 : Cond.instantiable RX6 7 ∈ UW := mUW (tp1 (List.mem_of_getElem? (i := 35) (by decide +kernel))) rfl
theorem ini_RX6 : Cond.initialized RX6 ∈ UW := mUW (tp1 (List.mem_of_getElem? (i := 3) (by decide +kernel))) rfl
theorem l_X1_39 : Cond.methodLinkNest RX1 39 mX6_init.1 "HiccupHill" ∈ nestW := mNW (tp1 (List.mem_of_getElem? (i := 36) (by decide +kernel))) rfl
theorem f_X2_29 : FL RX2 29 2 6 := ⟨_, rfl, by decide, mUW (tp2 (List.mem_of_getElem? (i := 119) (by decide +kernel))) rfl⟩
theorem f_X2_86 : FL RX2 86 0 6 := ⟨_, rfl, by decide, mUW (tp2 (List.mem_of_getElem? (i := 37) (by decide +kernel))) rfl⟩
theorem l_X2_89 : Cond.methodLink RX2 89 mJ9_min_7cf53.1 ∈ UW := mUW (tp5 (List.mem_of_getElem? (i := 36) (by decide +kernel))) rfl
theorem l_X2_3 : Cond.methodLink RX2 3 Lib.objectInit ∈ UW := mUW (tp2 (List.mem_of_getElem? (i := 108) (by decide +kernel))) rfl
theorem f_X2_9 : FL RX2 9 2 0 := ⟨_, rfl, by decide, mUW (tp2 (List.mem_of_getElem? (i := 109) (by decide +kernel))) rfl⟩
theorem f_X2_20 : FL RX2 20 2 7 := ⟨_, rfl, by decide, mUW (tp2 (List.mem_of_getElem? (i := 120) (by decide +kernel))) rfl⟩
theorem f_X2_83 : FL RX2 83 2 10 := ⟨_, rfl, by decide, mUW (tp2 (List.mem_of_getElem? (i := 123) (by decide +kernel))) rfl⟩
theorem f_X2_76 : FL RX2 76 2 1 := ⟨_, rfl, by decide, mUW (tp2 (List.mem_of_getElem? (i := 111) (by decide +kernel))) rfl⟩
theorem l_X2_92 : Cond.methodLink RX2 92 mX2_isNaming.1 ∈ UW := mUW (tp5 (List.mem_of_getElem? (i := 41) (by decide +kernel))) rfl
theorem f_X2_25 : FL RX2 25 2 5 := ⟨_, rfl, by decide, mUW (tp2 (List.mem_of_getElem? (i := 118) (by decide +kernel))) rfl⟩
theorem f_X2_45 : FL RX2 45 2 8 := ⟨_, rfl, by decide, mUW (tp2 (List.mem_of_getElem? (i := 121) (by decide +kernel))) rfl⟩
theorem f_X2_42 : FL RX2 42 6 0 := ⟨_, rfl, by decide, mUW (tp1 (List.mem_of_getElem? (i := 42) (by decide +kernel))) rfl⟩
theorem l_X2_96 : Cond.methodLink RX2 96 mX2_tellToo.1 ∈ UW := mUW (tp5 (List.mem_of_getElem? (i := 45) (by decide +kernel))) rfl
theorem f_X2_21 : FL RX2 21 2 4 := ⟨_, rfl, by decide, mUW (tp2 (List.mem_of_getElem? (i := 117) (by decide +kernel))) rfl⟩
theorem f_X2_48 : FL RX2 48 2 9 := ⟨_, rfl, by decide, mUW (tp2 (List.mem_of_getElem? (i := 122) (by decide +kernel))) rfl⟩
theorem l_X2_70 : Cond.methodLink RX2 70 mX0_run.1 ∈ UW := mUW (tp5 (List.mem_of_getElem? (i := 31) (by decide +kernel))) rfl
theorem l_X2_100 : Cond.methodLink RX2 100 mX2_code.1 ∈ UW := mUW (tp5 (List.mem_of_getElem? (i := 50) (by decide +kernel))) rfl
theorem f_X2_64 : FL RX2 64 2 2 := ⟨_, rfl, by decide, mUW (tp2 (List.mem_of_getElem? (i := 113) (by decide +kernel))) rfl⟩
theorem l_X2_79 : Cond.methodLink RX2 79 mX2_inTime.1 ∈ UW := mUW (tp5 (List.mem_of_getElem? (i := 32) (by decide +kernel))) rfl
theorem f_X2_67 : FL RX2 67 2 3 := ⟨_, rfl, by decide, mUW (tp2 (List.mem_of_getElem? (i := 115) (by decide +kernel))) rfl⟩
theorem f_X2_15 : FL RX2 15 1 3 := ⟨_, rfl, by decide, mUW (tp1 (List.mem_of_getElem? (i := 100) (by decide +kernel))) rfl⟩
theorem f_X2_33 : FL RX2 33 1 10 := ⟨_, rfl, by decide, mUW (tp1 (List.mem_of_getElem? (i := 129) (by decide +kernel))) rfl⟩
theorem l_X2_36 : Cond.methodLink RX2 36 mX6_copyFrom.1 ∈ UW := mUW (tp5 (List.mem_of_getElem? (i := 29) (by decide +kernel))) rfl
theorem f_X2_51 : FL RX2 51 6 1 := ⟨_, rfl, by decide, mUW (tp1 (List.mem_of_getElem? (i := 48) (by decide +kernel))) rfl⟩
theorem f_X2_55 : FL RX2 55 6 3 := ⟨_, rfl, by decide, mUW (tp1 (List.mem_of_getElem? (i := 57) (by decide +kernel))) rfl⟩
theorem l_X2_58 : Cond.methodLink RX2 58 mJ9_max_7cf53.1 ∈ UW := mUW (tp5 (List.mem_of_getElem? (i := 30) (by decide +kernel))) rfl
theorem l_X2_104 : Cond.methodLink RX2 104 mX6_add.1 ∈ UW := mUW (tp5 (List.mem_of_getElem? (i := 49) (by decide +kernel))) rfl
theorem l_X3_81 : Cond.methodLink RX3 81 mX3_nameTwo.1 ∈ UW := mUW (tp4 (List.mem_of_getElem? (i := 33) (by decide +kernel))) rfl
theorem f_X3_34 : FL RX3 34 3 3 := ⟨_, rfl, by decide, mUW (tp1 (List.mem_of_getElem? (i := 231) (by decide +kernel))) rfl⟩
theorem l_X3_62 : Cond.methodLink RX3 62 mX1_hasLaw.1 ∈ UW := mUW (tp4 (List.mem_of_getElem? (i := 40) (by decide +kernel))) rfl
theorem l_X3_66 : Cond.methodLink RX3 66 mX3_work.1 ∈ UW := mUW (tp4 (List.mem_of_getElem? (i := 44) (by decide +kernel))) rfl
theorem f_X3_21 : FL RX3 21 3 5 := ⟨_, rfl, by decide, mUW (tp1 (List.mem_of_getElem? (i := 233) (by decide +kernel))) rfl⟩
theorem l_X3_73 : Cond.methodLink RX3 73 mJ9_min_7cf53.1 ∈ UW := mUW (tp4 (List.mem_of_getElem? (i := 56) (by decide +kernel))) rfl
theorem l_X3_78 : Cond.methodLink RX3 78 mJ9_max_7cf53.1 ∈ UW := mUW (tp4 (List.mem_of_getElem? (i := 57) (by decide +kernel))) rfl
theorem l_X3_3 : Cond.methodLink RX3 3 Lib.objectInit ∈ UW := mUW (tp1 (List.mem_of_getElem? (i := 223) (by decide +kernel))) rfl
theorem f_X3_9 : FL RX3 9 3 0 := ⟨_, rfl, by decide, mUW (tp1 (List.mem_of_getElem? (i := 224) (by decide +kernel))) rfl⟩
theorem f_X3_15 : FL RX3 15 3 1 := ⟨_, rfl, by decide, mUW (tp1 (List.mem_of_getElem? (i := 226) (by decide +kernel))) rfl⟩
theorem f_X3_18 : FL RX3 18 3 2 := ⟨_, rfl, by decide, mUW (tp1 (List.mem_of_getElem? (i := 229) (by decide +kernel))) rfl⟩
theorem f_X3_24 : FL RX3 24 3 6 := ⟨_, rfl, by decide, mUW (tp1 (List.mem_of_getElem? (i := 234) (by decide +kernel))) rfl⟩
theorem f_X3_27 : FL RX3 27 3 7 := ⟨_, rfl, by decide, mUW (tp1 (List.mem_of_getElem? (i := 235) (by decide +kernel))) rfl⟩
theorem f_X3_31 : FL RX3 31 3 8 := ⟨_, rfl, by decide, mUW (tp1 (List.mem_of_getElem? (i := 236) (by decide +kernel))) rfl⟩
theorem l_X3_48 : Cond.methodLink RX3 48 mX3_take.1 ∈ UW := mUW (tp4 (List.mem_of_getElem? (i := 22) (by decide +kernel))) rfl
theorem f_X3_52 : FL RX3 52 1 3 := ⟨_, rfl, by decide, mUW (tp1 (List.mem_of_getElem? (i := 102) (by decide +kernel))) rfl⟩
theorem l_X3_58 : Cond.methodLink RX3 58 mX3_gapOf.1 ∈ UW := mUW (tp4 (List.mem_of_getElem? (i := 29) (by decide +kernel))) rfl
theorem f_X3_70 : FL RX3 70 1 6 := ⟨_, rfl, by decide, mUW (tp1 (List.mem_of_getElem? (i := 115) (by decide +kernel))) rfl⟩
theorem f_X3_85 : FL RX3 85 1 1 := ⟨_, rfl, by decide, mUW (tp1 (List.mem_of_getElem? (i := 94) (by decide +kernel))) rfl⟩
theorem f_X3_38 : FL RX3 38 3 4 := ⟨_, rfl, by decide, mUW (tp1 (List.mem_of_getElem? (i := 232) (by decide +kernel))) rfl⟩
theorem f_X3_88 : FL RX3 88 6 5 := ⟨_, rfl, by decide, mUW (tp1 (List.mem_of_getElem? (i := 65) (by decide +kernel))) rfl⟩
theorem f_X3_93 : FL RX3 93 6 6 := ⟨_, rfl, by decide, mUW (tp1 (List.mem_of_getElem? (i := 70) (by decide +kernel))) rfl⟩
theorem f_X3_96 : FL RX3 96 1 4 := ⟨_, rfl, by decide, mUW (tp1 (List.mem_of_getElem? (i := 108) (by decide +kernel))) rfl⟩
theorem f_X3_99 : FL RX3 99 1 5 := ⟨_, rfl, by decide, mUW (tp1 (List.mem_of_getElem? (i := 112) (by decide +kernel))) rfl⟩
theorem l_X3_102 : Cond.methodLink RX3 102 mJ9_abs_0f7a4.1 ∈ UW := mUW (tp4 (List.mem_of_getElem? (i := 37) (by decide +kernel))) rfl
theorem l_X3_42 : Cond.methodLink RX3 42 mJ7_fill_d0a16.1 ∈ UW := mUW (tp4 (List.mem_of_getElem? (i := 26) (by decide +kernel))) rfl
theorem f_X3_105 : FL RX3 105 1 8 := ⟨_, rfl, by decide, mUW (tp1 (List.mem_of_getElem? (i := 122) (by decide +kernel))) rfl⟩
theorem f_X3_108 : FL RX3 108 1 9 := ⟨_, rfl, by decide, mUW (tp1 (List.mem_of_getElem? (i := 125) (by decide +kernel))) rfl⟩
theorem f_X3_111 : FL RX3 111 1 7 := ⟨_, rfl, by decide, mUW (tp1 (List.mem_of_getElem? (i := 119) (by decide +kernel))) rfl⟩
theorem c_X3_114 : Cond.constantLong RX3 114 (Int64.ofInt (-1000000)) ∈ UW := mUW (tp4 (List.mem_of_getElem? (i := 48) (by decide +kernel))) rfl
theorem c_X3_116 : Cond.constantLong RX3 116 (Int64.ofInt (1000000)) ∈ UW := mUW (tp4 (List.mem_of_getElem? (i := 49) (by decide +kernel))) rfl
theorem l_X3_118 : Cond.methodLink RX3 118 mJ9_min_f86c9.1 ∈ UW := mUW (tp4 (List.mem_of_getElem? (i := 50) (by decide +kernel))) rfl
theorem l_X3_121 : Cond.methodLink RX3 121 mJ9_max_f86c9.1 ∈ UW := mUW (tp4 (List.mem_of_getElem? (i := 53) (by decide +kernel))) rfl
theorem l_X4_3 : Cond.methodLink RX4 3 Lib.objectInit ∈ UW := mUW (tp2 (List.mem_of_getElem? (i := 85) (by decide +kernel))) rfl
theorem f_X4_9 : FL RX4 9 4 2 := ⟨_, rfl, by decide, mUW (tp2 (List.mem_of_getElem? (i := 90) (by decide +kernel))) rfl⟩
theorem f_X4_15 : FL RX4 15 4 3 := ⟨_, rfl, by decide, mUW (tp2 (List.mem_of_getElem? (i := 92) (by decide +kernel))) rfl⟩
theorem f_X4_18 : FL RX4 18 1 10 := ⟨_, rfl, by decide, mUW (tp1 (List.mem_of_getElem? (i := 128) (by decide +kernel))) rfl⟩
theorem l_X4_24 : Cond.methodLink RX4 24 mJ7_fill_d0a16.1 ∈ UW := mUW (tp5 (List.mem_of_getElem? (i := 104) (by decide +kernel))) rfl
theorem f_X4_30 : FL RX4 30 4 1 := ⟨_, rfl, by decide, mUW (tp2 (List.mem_of_getElem? (i := 88) (by decide +kernel))) rfl⟩
theorem f_X4_34 : FL RX4 34 6 0 := ⟨_, rfl, by decide, mUW (tp1 (List.mem_of_getElem? (i := 41) (by decide +kernel))) rfl⟩
theorem c_X4_40 : Cond.constantLong RX4 40 (Int64.ofInt (10)) ∈ UW := mUW (tp5 (List.mem_of_getElem? (i := 105) (by decide +kernel))) rfl
theorem l_X4_42 : Cond.methodLink RX4 42 mX4_tellSome.1 ∈ UW := mUW (tp5 (List.mem_of_getElem? (i := 106) (by decide +kernel))) rfl
theorem l_X4_46 : Cond.methodLink RX4 46 mX0_run.1 ∈ UW := mUW (tp5 (List.mem_of_getElem? (i := 110) (by decide +kernel))) rfl
theorem f_X4_52 : FL RX4 52 1 3 := ⟨_, rfl, by decide, mUW (tp1 (List.mem_of_getElem? (i := 101) (by decide +kernel))) rfl⟩
theorem f_X4_55 : FL RX4 55 0 3 := ⟨_, rfl, by decide, mUW (tp2 (List.mem_of_getElem? (i := 30) (by decide +kernel))) rfl⟩
theorem f_X4_59 : FL RX4 59 4 0 := ⟨_, rfl, by decide, mUW (tp2 (List.mem_of_getElem? (i := 86) (by decide +kernel))) rfl⟩
theorem f_X4_63 : FL RX4 63 6 4 := ⟨_, rfl, by decide, mUW (tp1 (List.mem_of_getElem? (i := 62) (by decide +kernel))) rfl⟩
theorem f_X4_66 : FL RX4 66 6 1 := ⟨_, rfl, by decide, mUW (tp1 (List.mem_of_getElem? (i := 49) (by decide +kernel))) rfl⟩
theorem f_X4_69 : FL RX4 69 6 2 := ⟨_, rfl, by decide, mUW (tp1 (List.mem_of_getElem? (i := 53) (by decide +kernel))) rfl⟩
theorem f_X4_72 : FL RX4 72 6 3 := ⟨_, rfl, by decide, mUW (tp1 (List.mem_of_getElem? (i := 58) (by decide +kernel))) rfl⟩
theorem l_X4_75 : Cond.methodLink RX4 75 mX6_add.1 ∈ UW := mUW (tp5 (List.mem_of_getElem? (i := 109) (by decide +kernel))) rfl
theorem f_X5_18 : FL RX5 18 5 0 := ⟨_, rfl, by decide, mUW (tp1 (List.mem_of_getElem? (i := 207) (by decide +kernel))) rfl⟩
theorem l_X5_3 : Cond.methodLink RX5 3 Lib.objectInit ∈ UW := mUW (tp1 (List.mem_of_getElem? (i := 203) (by decide +kernel))) rfl
theorem cl_X5_9 : Cond.classLink RX5 9 RX6 ∈ UW := mUW (tp1 (List.mem_of_getElem? (i := 204) (by decide +kernel))) rfl
theorem ov_RX6 : Cond.arrayOver (.object RX6) ∈ nestW := mNW (tp1 (List.mem_of_getElem? (i := 205) (by decide +kernel))) rfl
theorem f_X5_11 : FL RX5 11 5 1 := ⟨_, rfl, by decide, mUW (tp1 (List.mem_of_getElem? (i := 209) (by decide +kernel))) rfl⟩
theorem l_X5_17 : Cond.methodLinkNest RX5 17 mX6_init.1 "HiccupHill" ∈ nestW := mNW (tp1 (List.mem_of_getElem? (i := 206) (by decide +kernel))) rfl
theorem l_X5_22 : Cond.methodLink RX5 22 mX6_copyFrom.1 ∈ UW := mUW (tp4 (List.mem_of_getElem? (i := 118) (by decide +kernel))) rfl
theorem f_X6_27 : FL RX6 27 6 0 := ⟨_, rfl, by decide, mUW (tp1 (List.mem_of_getElem? (i := 40) (by decide +kernel))) rfl⟩
theorem f_X6_9 : FL RX6 9 6 1 := ⟨_, rfl, by decide, mUW (tp1 (List.mem_of_getElem? (i := 47) (by decide +kernel))) rfl⟩
theorem f_X6_15 : FL RX6 15 6 2 := ⟨_, rfl, by decide, mUW (tp1 (List.mem_of_getElem? (i := 52) (by decide +kernel))) rfl⟩
theorem f_X6_18 : FL RX6 18 6 3 := ⟨_, rfl, by decide, mUW (tp1 (List.mem_of_getElem? (i := 56) (by decide +kernel))) rfl⟩
theorem f_X6_21 : FL RX6 21 6 4 := ⟨_, rfl, by decide, mUW (tp1 (List.mem_of_getElem? (i := 61) (by decide +kernel))) rfl⟩
theorem l_X6_31 : Cond.methodLink RX6 31 arraycopyName ∈ UW := mUW (tp4 (List.mem_of_getElem? (i := 99) (by decide +kernel))) rfl
theorem f_X6_24 : FL RX6 24 6 5 := ⟨_, rfl, by decide, mUW (tp1 (List.mem_of_getElem? (i := 64) (by decide +kernel))) rfl⟩
theorem f_X6_37 : FL RX6 37 6 6 := ⟨_, rfl, by decide, mUW (tp1 (List.mem_of_getElem? (i := 68) (by decide +kernel))) rfl⟩
theorem l_X6_3 : Cond.methodLink RX6 3 Lib.objectInit ∈ UW := mUW (tp1 (List.mem_of_getElem? (i := 39) (by decide +kernel))) rfl
theorem f_X7_48 : FL RX7 48 7 0 := ⟨_, rfl, by decide, mUW (tp1 (List.mem_of_getElem? (i := 161) (by decide +kernel))) rfl⟩
theorem f_X7_45 : FL RX7 45 7 9 := ⟨_, rfl, by decide, mUW (tp1 (List.mem_of_getElem? (i := 172) (by decide +kernel))) rfl⟩
theorem f_X7_29 : FL RX7 29 7 3 := ⟨_, rfl, by decide, mUW (tp1 (List.mem_of_getElem? (i := 166) (by decide +kernel))) rfl⟩
theorem f_X7_177 : FL RX7 177 1 7 := ⟨_, rfl, by decide, mUW (tp1 (List.mem_of_getElem? (i := 120) (by decide +kernel))) rfl⟩
theorem l_X7_99 : Cond.methodLink RX7 99 mX7_fail.1 ∈ UW := mUW (tp3 (List.mem_of_getElem? (i := 162) (by decide +kernel))) rfl
theorem l_X7_96 : Cond.methodLink RX7 96 mX7_step.1 ∈ UW := mUW (tp3 (List.mem_of_getElem? (i := 158) (by decide +kernel))) rfl
theorem l_X7_93 : Cond.methodLink RX7 93 mX7_isAt.1 ∈ UW := mUW (tp3 (List.mem_of_getElem? (i := 154) (by decide +kernel))) rfl
theorem f_X7_15 : FL RX7 15 7 5 := ⟨_, rfl, by decide, mUW (tp1 (List.mem_of_getElem? (i := 168) (by decide +kernel))) rfl⟩
theorem f_X7_42 : FL RX7 42 7 8 := ⟨_, rfl, by decide, mUW (tp1 (List.mem_of_getElem? (i := 171) (by decide +kernel))) rfl⟩
theorem f_X7_19 : FL RX7 19 7 6 := ⟨_, rfl, by decide, mUW (tp1 (List.mem_of_getElem? (i := 169) (by decide +kernel))) rfl⟩
theorem f_X7_9 : FL RX7 9 7 1 := ⟨_, rfl, by decide, mUW (tp1 (List.mem_of_getElem? (i := 163) (by decide +kernel))) rfl⟩
theorem l_X7_3 : Cond.methodLink RX7 3 Lib.objectInit ∈ UW := mUW (tp1 (List.mem_of_getElem? (i := 160) (by decide +kernel))) rfl
theorem f_X7_22 : FL RX7 22 7 7 := ⟨_, rfl, by decide, mUW (tp1 (List.mem_of_getElem? (i := 170) (by decide +kernel))) rfl⟩
theorem l_X7_68 : Cond.methodLink RX7 68 mX7_putToken.1 ∈ UW := mUW (tp3 (List.mem_of_getElem? (i := 61) (by decide +kernel))) rfl
theorem f_X7_25 : FL RX7 25 7 2 := ⟨_, rfl, by decide, mUW (tp1 (List.mem_of_getElem? (i := 165) (by decide +kernel))) rfl⟩
theorem f_X7_54 : FL RX7 54 7 4 := ⟨_, rfl, by decide, mUW (tp1 (List.mem_of_getElem? (i := 167) (by decide +kernel))) rfl⟩
theorem l_X7_33 : Cond.methodLink RX7 33 mX7_split.1 ∈ UW := mUW (tp3 (List.mem_of_getElem? (i := 9) (by decide +kernel))) rfl
theorem l_X7_37 : Cond.methodLink RX7 37 mX1_clear.1 ∈ UW := mUW (tp3 (List.mem_of_getElem? (i := 139) (by decide +kernel))) rfl
theorem l_X7_51 : Cond.methodLink RX7 51 mX7_readFirstLine.1 ∈ UW := mUW (tp3 (List.mem_of_getElem? (i := 146) (by decide +kernel))) rfl
theorem l_X7_57 : Cond.methodLink RX7 57 mX7_readLine.1 ∈ UW := mUW (tp3 (List.mem_of_getElem? (i := 170) (by decide +kernel))) rfl
theorem l_X7_189 : Cond.methodLink RX7 189 mX7_enter.1 ∈ UW := mUW (tp3 (List.mem_of_getElem? (i := 206) (by decide +kernel))) rfl
theorem l_X7_168 : Cond.methodLink RX7 168 mX7_readSum.1 ∈ UW := mUW (tp3 (List.mem_of_getElem? (i := 214) (by decide +kernel))) rfl
theorem l_X7_102 : Cond.methodLink RX7 102 mX7_expect.1 ∈ UW := mUW (tp3 (List.mem_of_getElem? (i := 150) (by decide +kernel))) rfl
theorem l_X7_198 : Cond.methodLink RX7 198 mX7_readChoice.1 ∈ UW := mUW (tp3 (List.mem_of_getElem? (i := 226) (by decide +kernel))) rfl
theorem l_X7_183 : Cond.methodLink RX7 183 mX7_emit.1 ∈ UW := mUW (tp3 (List.mem_of_getElem? (i := 210) (by decide +kernel))) rfl
theorem f_X7_161 : FL RX7 161 7 10 := ⟨_, rfl, by decide, mUW (tp1 (List.mem_of_getElem? (i := 173) (by decide +kernel))) rfl⟩
theorem l_X7_186 : Cond.methodLink RX7 186 mX7_readUnit.1 ∈ UW := mUW (tp3 (List.mem_of_getElem? (i := 202) (by decide +kernel))) rfl
theorem l_X7_165 : Cond.methodLink RX7 165 mX7_readTruth.1 ∈ UW := mUW (tp3 (List.mem_of_getElem? (i := 194) (by decide +kernel))) rfl
theorem l_X7_105 : Cond.methodLink RX7 105 mX7_readNumber.1 ∈ UW := mUW (tp3 (List.mem_of_getElem? (i := 166) (by decide +kernel))) rfl
theorem f_X7_108 : FL RX7 108 1 0 := ⟨_, rfl, by decide, mUW (tp1 (List.mem_of_getElem? (i := 91) (by decide +kernel))) rfl⟩
theorem f_X7_111 : FL RX7 111 1 1 := ⟨_, rfl, by decide, mUW (tp1 (List.mem_of_getElem? (i := 95) (by decide +kernel))) rfl⟩
theorem f_X7_114 : FL RX7 114 1 2 := ⟨_, rfl, by decide, mUW (tp1 (List.mem_of_getElem? (i := 99) (by decide +kernel))) rfl⟩
theorem f_X7_171 : FL RX7 171 1 8 := ⟨_, rfl, by decide, mUW (tp1 (List.mem_of_getElem? (i := 123) (by decide +kernel))) rfl⟩
theorem f_X7_174 : FL RX7 174 1 9 := ⟨_, rfl, by decide, mUW (tp1 (List.mem_of_getElem? (i := 126) (by decide +kernel))) rfl⟩
theorem l_X7_117 : Cond.methodLink RX7 117 mX7_readPerson.1 ∈ UW := mUW (tp3 (List.mem_of_getElem? (i := 174) (by decide +kernel))) rfl
theorem l_X7_120 : Cond.methodLink RX7 120 mX7_readNaming.1 ∈ UW := mUW (tp3 (List.mem_of_getElem? (i := 182) (by decide +kernel))) rfl
theorem f_X7_123 : FL RX7 123 1 10 := ⟨_, rfl, by decide, mUW (tp1 (List.mem_of_getElem? (i := 131) (by decide +kernel))) rfl⟩
theorem f_X7_127 : FL RX7 127 6 6 := ⟨_, rfl, by decide, mUW (tp1 (List.mem_of_getElem? (i := 72) (by decide +kernel))) rfl⟩
theorem l_X7_132 : Cond.methodLink RX7 132 mX7_readLaw.1 ∈ UW := mUW (tp3 (List.mem_of_getElem? (i := 190) (by decide +kernel))) rfl
theorem f_X7_154 : FL RX7 154 6 0 := ⟨_, rfl, by decide, mUW (tp1 (List.mem_of_getElem? (i := 46) (by decide +kernel))) rfl⟩
theorem f_X7_135 : FL RX7 135 1 3 := ⟨_, rfl, by decide, mUW (tp1 (List.mem_of_getElem? (i := 105) (by decide +kernel))) rfl⟩
theorem l_X7_157 : Cond.methodLink RX7 157 mX6_add.1 ∈ UW := mUW (tp3 (List.mem_of_getElem? (i := 186) (by decide +kernel))) rfl
theorem f_X7_138 : FL RX7 138 6 5 := ⟨_, rfl, by decide, mUW (tp1 (List.mem_of_getElem? (i := 67) (by decide +kernel))) rfl⟩
theorem l_X7_141 : Cond.methodLink RX7 141 mX1_cells.1 ∈ UW := mUW (tp3 (List.mem_of_getElem? (i := 178) (by decide +kernel))) rfl
theorem f_X7_145 : FL RX7 145 1 4 := ⟨_, rfl, by decide, mUW (tp1 (List.mem_of_getElem? (i := 109) (by decide +kernel))) rfl⟩
theorem f_X7_148 : FL RX7 148 1 5 := ⟨_, rfl, by decide, mUW (tp1 (List.mem_of_getElem? (i := 113) (by decide +kernel))) rfl⟩
theorem f_X7_151 : FL RX7 151 1 6 := ⟨_, rfl, by decide, mUW (tp1 (List.mem_of_getElem? (i := 117) (by decide +kernel))) rfl⟩
theorem l_X7_192 : Cond.methodLink RX7 192 mX7_readTerm.1 ∈ UW := mUW (tp3 (List.mem_of_getElem? (i := 218) (by decide +kernel))) rfl
theorem l_X7_195 : Cond.methodLink RX7 195 mX7_readAtom.1 ∈ UW := mUW (tp3 (List.mem_of_getElem? (i := 222) (by decide +kernel))) rfl
theorem l_X7_180 : Cond.methodLink RX7 180 mX7_readBoth.1 ∈ UW := mUW (tp3 (List.mem_of_getElem? (i := 198) (by decide +kernel))) rfl
theorem l_X7_60 : Cond.methodLink RX7 60 mX7_isLetter.1 ∈ UW := mUW (tp3 (List.mem_of_getElem? (i := 13) (by decide +kernel))) rfl
theorem l_X7_64 : Cond.methodLink RX7 64 mX7_wordKind.1 ∈ UW := mUW (tp3 (List.mem_of_getElem? (i := 16) (by decide +kernel))) rfl
theorem l_X7_72 : Cond.methodLink RX7 72 mX7_isDigit.1 ∈ UW := mUW (tp3 (List.mem_of_getElem? (i := 65) (by decide +kernel))) rfl
theorem l_X7_75 : Cond.methodLink RX7 75 mX7_putNumber.1 ∈ UW := mUW (tp3 (List.mem_of_getElem? (i := 68) (by decide +kernel))) rfl
theorem l_X7_81 : Cond.methodLink RX7 81 mJ0_indexOf_0f7a4.1 ∈ UW := mUW (tp3 (List.mem_of_getElem? (i := 73) (by decide +kernel))) rfl
theorem l_X7_89 : Cond.methodLink RX7 89 mJ0_charAt_5068e.1 ∈ UW := mUW (tp3 (List.mem_of_getElem? (i := 21) (by decide +kernel))) rfl
theorem l_X8_3 : Cond.methodLink RX8 3 Lib.objectInit ∈ UW := mUW (tp2 (List.mem_of_getElem? (i := 153) (by decide +kernel))) rfl
theorem f_X8_9 : FL RX8 9 8 3 := ⟨_, rfl, by decide, mUW (tp2 (List.mem_of_getElem? (i := 160) (by decide +kernel))) rfl⟩
theorem f_X8_15 : FL RX8 15 8 0 := ⟨_, rfl, by decide, mUW (tp2 (List.mem_of_getElem? (i := 154) (by decide +kernel))) rfl⟩
theorem f_X8_19 : FL RX8 19 8 1 := ⟨_, rfl, by decide, mUW (tp2 (List.mem_of_getElem? (i := 156) (by decide +kernel))) rfl⟩
theorem f_X8_23 : FL RX8 23 8 2 := ⟨_, rfl, by decide, mUW (tp2 (List.mem_of_getElem? (i := 157) (by decide +kernel))) rfl⟩
theorem l_X8_26 : Cond.methodLink RX8 26 mJ7_fill_d0a16.1 ∈ UW := mUW (tp5 (List.mem_of_getElem? (i := 131) (by decide +kernel))) rfl
theorem c_X8_32 : Cond.constantLong RX8 32 (Int64.ofInt (-7)) ∈ UW := mUW (tp5 (List.mem_of_getElem? (i := 142) (by decide +kernel))) rfl
theorem f_X9_41 : FL RX9 41 9 7 := ⟨_, rfl, by decide, mUW (tp2 (List.mem_of_getElem? (i := 179) (by decide +kernel))) rfl⟩
theorem f_X9_16 : FL RX9 16 9 2 := ⟨_, rfl, by decide, mUW (tp2 (List.mem_of_getElem? (i := 174) (by decide +kernel))) rfl⟩
theorem f_X9_131 : FL RX9 131 1 10 := ⟨_, rfl, by decide, mUW (tp1 (List.mem_of_getElem? (i := 130) (by decide +kernel))) rfl⟩
theorem l_X9_391 : Cond.methodLink RX9 391 mX5_keep.1 ∈ UW := mUW (tp4 (List.mem_of_getElem? (i := 114) (by decide +kernel))) rfl
theorem f_X9_82 : FL RX9 82 9 14 := ⟨_, rfl, by decide, mUW (tp2 (List.mem_of_getElem? (i := 186) (by decide +kernel))) rfl⟩
theorem l_X9_176 : Cond.methodLink RX9 176 mX6_copyFrom.1 ∈ UW := mUW (tp4 (List.mem_of_getElem? (i := 95) (by decide +kernel))) rfl
theorem l_X9_118 : Cond.methodLink RX9 118 mX9_forgetAnswers.1 ∈ UW := mUW (tp3 (List.mem_of_getElem? (i := 234) (by decide +kernel))) rfl
theorem l_X9_127 : Cond.methodLink RX9 127 mX9_isPerson.1 ∈ UW := mUW (tp4 (List.mem_of_getElem? (i := 6) (by decide +kernel))) rfl
theorem l_X9_161 : Cond.methodLink RX9 161 mX9_know.1 ∈ UW := mUW (tp4 (List.mem_of_getElem? (i := 14) (by decide +kernel))) rfl
theorem f_X9_61 : FL RX9 61 9 11 := ⟨_, rfl, by decide, mUW (tp2 (List.mem_of_getElem? (i := 183) (by decide +kernel))) rfl⟩
theorem f_X9_267 : FL RX9 267 0 4 := ⟨_, rfl, by decide, mUW (tp2 (List.mem_of_getElem? (i := 33) (by decide +kernel))) rfl⟩
theorem f_X9_241 : FL RX9 241 1 3 := ⟨_, rfl, by decide, mUW (tp1 (List.mem_of_getElem? (i := 104) (by decide +kernel))) rfl⟩
theorem l_X9_281 : Cond.methodLink RX9 281 mX9_startTrialLaws.1 ∈ UW := mUW (tp5 (List.mem_of_getElem? (i := 11) (by decide +kernel))) rfl
theorem l_X9_278 : Cond.methodLink RX9 278 mX1_cells.1 ∈ UW := mUW (tp4 (List.mem_of_getElem? (i := 138) (by decide +kernel))) rfl
theorem f_X9_134 : FL RX9 134 6 5 := ⟨_, rfl, by decide, mUW (tp1 (List.mem_of_getElem? (i := 66) (by decide +kernel))) rfl⟩
theorem l_X9_284 : Cond.methodLink RX9 284 mX9_namesAtOnce.1 ∈ UW := mUW (tp5 (List.mem_of_getElem? (i := 16) (by decide +kernel))) rfl
theorem l_X9_310 : Cond.methodLink RX9 310 mX9_refuseHeard.1 ∈ UW := mUW (tp5 (List.mem_of_getElem? (i := 61) (by decide +kernel))) rfl
theorem f_X9_47 : FL RX9 47 9 8 := ⟨_, rfl, by decide, mUW (tp2 (List.mem_of_getElem? (i := 180) (by decide +kernel))) rfl⟩
theorem l_X9_314 : Cond.methodLink RX9 314 mX9_findHeard.1 ∈ UW := mUW (tp5 (List.mem_of_getElem? (i := 66) (by decide +kernel))) rfl
theorem l_X9_318 : Cond.methodLink RX9 318 mX9_mostAlike.1 ∈ UW := mUW (tp5 (List.mem_of_getElem? (i := 78) (by decide +kernel))) rfl
theorem f_X9_54 : FL RX9 54 9 10 := ⟨_, rfl, by decide, mUW (tp2 (List.mem_of_getElem? (i := 182) (by decide +kernel))) rfl⟩
theorem f_X9_167 : FL RX9 167 3 1 := ⟨_, rfl, by decide, mUW (tp1 (List.mem_of_getElem? (i := 228) (by decide +kernel))) rfl⟩
theorem f_X9_170 : FL RX9 170 3 2 := ⟨_, rfl, by decide, mUW (tp1 (List.mem_of_getElem? (i := 230) (by decide +kernel))) rfl⟩
theorem f_X9_173 : FL RX9 173 3 0 := ⟨_, rfl, by decide, mUW (tp1 (List.mem_of_getElem? (i := 225) (by decide +kernel))) rfl⟩
theorem l_X9_327 : Cond.methodLink RX9 327 mX9_knowOdds.1 ∈ UW := mUW (tp5 (List.mem_of_getElem? (i := 96) (by decide +kernel))) rfl
theorem f_X9_68 : FL RX9 68 9 12 := ⟨_, rfl, by decide, mUW (tp2 (List.mem_of_getElem? (i := 184) (by decide +kernel))) rfl⟩
theorem f_X9_330 : FL RX9 330 4 2 := ⟨_, rfl, by decide, mUW (tp2 (List.mem_of_getElem? (i := 91) (by decide +kernel))) rfl⟩
theorem f_X9_333 : FL RX9 333 4 1 := ⟨_, rfl, by decide, mUW (tp2 (List.mem_of_getElem? (i := 89) (by decide +kernel))) rfl⟩
theorem l_X9_337 : Cond.methodLink RX9 337 mX9_lowestTerms.1 ∈ UW := mUW (tp5 (List.mem_of_getElem? (i := 111) (by decide +kernel))) rfl
theorem f_X9_366 : FL RX9 366 1 0 := ⟨_, rfl, by decide, mUW (tp1 (List.mem_of_getElem? (i := 92) (by decide +kernel))) rfl⟩
theorem f_X9_369 : FL RX9 369 1 1 := ⟨_, rfl, by decide, mUW (tp1 (List.mem_of_getElem? (i := 96) (by decide +kernel))) rfl⟩
theorem f_X9_146 : FL RX9 146 6 0 := ⟨_, rfl, by decide, mUW (tp1 (List.mem_of_getElem? (i := 45) (by decide +kernel))) rfl⟩
theorem f_X9_198 : FL RX9 198 6 6 := ⟨_, rfl, by decide, mUW (tp1 (List.mem_of_getElem? (i := 71) (by decide +kernel))) rfl⟩
theorem f_X9_201 : FL RX9 201 5 0 := ⟨_, rfl, by decide, mUW (tp1 (List.mem_of_getElem? (i := 208) (by decide +kernel))) rfl⟩
theorem f_X9_100 : FL RX9 100 9 1 := ⟨_, rfl, by decide, mUW (tp2 (List.mem_of_getElem? (i := 173) (by decide +kernel))) rfl⟩
theorem f_X9_121 : FL RX9 121 1 2 := ⟨_, rfl, by decide, mUW (tp1 (List.mem_of_getElem? (i := 97) (by decide +kernel))) rfl⟩
theorem l_X9_264 : Cond.methodLink RX9 264 mX9_isMinute.1 ∈ UW := mUW (tp4 (List.mem_of_getElem? (i := 106) (by decide +kernel))) rfl
theorem f_X9_238 : FL RX9 238 0 0 := ⟨_, rfl, by decide, mUW (tp2 (List.mem_of_getElem? (i := 24) (by decide +kernel))) rfl⟩
theorem f_X9_261 : FL RX9 261 0 2 := ⟨_, rfl, by decide, mUW (tp2 (List.mem_of_getElem? (i := 28) (by decide +kernel))) rfl⟩
theorem c_X9_389 : Cond.constantLong RX9 389 (Int64.ofInt (9009)) ∈ UW := mUW (tp4 (List.mem_of_getElem? (i := 169) (by decide +kernel))) rfl
theorem l_X9_180 : Cond.methodLink RX9 180 mX9_tellIn.1 ∈ UW := mUW (tp4 (List.mem_of_getElem? (i := 102) (by decide +kernel))) rfl
theorem l_X9_187 : Cond.methodLink RX9 187 mX9_dropIn.1 ∈ UW := mUW (tp4 (List.mem_of_getElem? (i := 123) (by decide +kernel))) rfl
theorem l_X9_191 : Cond.methodLink RX9 191 mX9_moveIn.1 ∈ UW := mUW (tp4 (List.mem_of_getElem? (i := 134) (by decide +kernel))) rfl
theorem l_X9_195 : Cond.methodLink RX9 195 mX9_windIn.1 ∈ UW := mUW (tp4 (List.mem_of_getElem? (i := 143) (by decide +kernel))) rfl
theorem c_X9_394 : Cond.constant RX9 394 (Int32.ofInt (1103515245)) ∈ UW := mUW (tp4 (List.mem_of_getElem? (i := 190) (by decide +kernel))) rfl
theorem f_X9_248 : FL RX9 248 9 19 := ⟨_, rfl, by decide, mUW (tp2 (List.mem_of_getElem? (i := 191) (by decide +kernel))) rfl⟩
theorem l_X9_395 : Cond.methodLink RX9 395 mX9_draw.1 ∈ UW := mUW (tp4 (List.mem_of_getElem? (i := 186) (by decide +kernel))) rfl
theorem l_X9_184 : Cond.methodLink RX9 184 mX9_acceptTrial.1 ∈ UW := mUW (tp4 (List.mem_of_getElem? (i := 110) (by decide +kernel))) rfl
theorem l_X9_386 : Cond.methodLink RX9 386 mX6_remove.1 ∈ UW := mUW (tp4 (List.mem_of_getElem? (i := 126) (by decide +kernel))) rfl
theorem f_X9_343 : FL RX9 343 4 3 := ⟨_, rfl, by decide, mUW (tp2 (List.mem_of_getElem? (i := 93) (by decide +kernel))) rfl⟩
theorem f_X9_26 : FL RX9 26 9 4 := ⟨_, rfl, by decide, mUW (tp2 (List.mem_of_getElem? (i := 176) (by decide +kernel))) rfl⟩
theorem f_X9_112 : FL RX9 112 7 0 := ⟨_, rfl, by decide, mUW (tp1 (List.mem_of_getElem? (i := 162) (by decide +kernel))) rfl⟩
theorem f_X9_124 : FL RX9 124 7 1 := ⟨_, rfl, by decide, mUW (tp1 (List.mem_of_getElem? (i := 164) (by decide +kernel))) rfl⟩
theorem l_X9_104 : Cond.methodLink RX9 104 mX9_tapeInt.1 ∈ UW := mUW (tp2 (List.mem_of_getElem? (i := 237) (by decide +kernel))) rfl
theorem f_X9_219 : FL RX9 219 8 2 := ⟨_, rfl, by decide, mUW (tp2 (List.mem_of_getElem? (i := 159) (by decide +kernel))) rfl⟩
theorem f_X9_222 : FL RX9 222 8 3 := ⟨_, rfl, by decide, mUW (tp2 (List.mem_of_getElem? (i := 162) (by decide +kernel))) rfl⟩
theorem f_X9_86 : FL RX9 86 9 15 := ⟨_, rfl, by decide, mUW (tp2 (List.mem_of_getElem? (i := 187) (by decide +kernel))) rfl⟩
theorem l_X9_404 : Cond.methodLink RX9 404 mX3_gapOf.1 ∈ UW := mUW (tp5 (List.mem_of_getElem? (i := 20) (by decide +kernel))) rfl
theorem f_X9_92 : FL RX9 92 9 17 := ⟨_, rfl, by decide, mUW (tp2 (List.mem_of_getElem? (i := 189) (by decide +kernel))) rfl⟩
theorem l_X9_398 : Cond.methodLink RX9 398 mX0_hasHiccup.1 ∈ UW := mUW (tp4 (List.mem_of_getElem? (i := 235) (by decide +kernel))) rfl
theorem l_X9_382 : Cond.methodLink RX9 382 mX6_add.1 ∈ UW := mUW (tp4 (List.mem_of_getElem? (i := 109) (by decide +kernel))) rfl
theorem f_X9_89 : FL RX9 89 9 16 := ⟨_, rfl, by decide, mUW (tp2 (List.mem_of_getElem? (i := 188) (by decide +kernel))) rfl⟩
theorem l_X9_234 : Cond.methodLink RX9 234 mX0_run.1 ∈ UW := mUW (tp4 (List.mem_of_getElem? (i := 58) (by decide +kernel))) rfl
theorem f_X9_374 : FL RX9 374 9 9 := ⟨_, rfl, by decide, mUW (tp2 (List.mem_of_getElem? (i := 181) (by decide +kernel))) rfl⟩
theorem f_X9_377 : FL RX9 377 4 0 := ⟨_, rfl, by decide, mUW (tp2 (List.mem_of_getElem? (i := 87) (by decide +kernel))) rfl⟩
theorem f_X9_75 : FL RX9 75 9 13 := ⟨_, rfl, by decide, mUW (tp2 (List.mem_of_getElem? (i := 185) (by decide +kernel))) rfl⟩
theorem f_X9_288 : FL RX9 288 2 0 := ⟨_, rfl, by decide, mUW (tp2 (List.mem_of_getElem? (i := 110) (by decide +kernel))) rfl⟩
theorem f_X9_258 : FL RX9 258 0 1 := ⟨_, rfl, by decide, mUW (tp2 (List.mem_of_getElem? (i := 26) (by decide +kernel))) rfl⟩
theorem f_X9_255 : FL RX9 255 0 3 := ⟨_, rfl, by decide, mUW (tp2 (List.mem_of_getElem? (i := 31) (by decide +kernel))) rfl⟩
theorem f_X9_9 : FL RX9 9 9 0 := ⟨_, rfl, by decide, mUW (tp2 (List.mem_of_getElem? (i := 172) (by decide +kernel))) rfl⟩
theorem f_X9_20 : FL RX9 20 9 3 := ⟨_, rfl, by decide, mUW (tp2 (List.mem_of_getElem? (i := 175) (by decide +kernel))) rfl⟩
theorem l_X9_108 : Cond.methodLink RX9 108 mX7_read.1 ∈ UW := mUW (tp3 (List.mem_of_getElem? (i := 5) (by decide +kernel))) rfl
theorem l_X9_115 : Cond.methodLink RX9 115 mX5_forget.1 ∈ UW := mUW (tp3 (List.mem_of_getElem? (i := 230) (by decide +kernel))) rfl
theorem l_X9_360 : Cond.methodLink RX9 360 mX9_isImage.1 ∈ UW := mUW (tp5 (List.mem_of_getElem? (i := 156) (by decide +kernel))) rfl
theorem f_X9_30 : FL RX9 30 9 5 := ⟨_, rfl, by decide, mUW (tp2 (List.mem_of_getElem? (i := 177) (by decide +kernel))) rfl⟩
theorem l_X9_363 : Cond.methodLink RX9 363 mX1_copyFrom.1 ∈ UW := mUW (tp5 (List.mem_of_getElem? (i := 159) (by decide +kernel))) rfl
theorem f_X9_34 : FL RX9 34 9 6 := ⟨_, rfl, by decide, mUW (tp2 (List.mem_of_getElem? (i := 178) (by decide +kernel))) rfl⟩
theorem l_X9_1 : Cond.methodLink RX9 1 Lib.objectInit ∈ UW := mUW (tp1 (List.mem_of_getElem? (i := 25) (by decide +kernel))) rfl
theorem cl_X9_13 : Cond.classLink RX9 13 RX1 ∈ UW := mUW (tp1 (List.mem_of_getElem? (i := 28) (by decide +kernel))) rfl
theorem in_RX1 : Cond.instantiable RX1 11 ∈ UW := mUW (tp1 (List.mem_of_getElem? (i := 29) (by decide +kernel))) rfl
theorem ini_RX1 : Cond.initialized RX1 ∈ UW := mUW (tp1 (List.mem_of_getElem? (i := 2) (by decide +kernel))) rfl
theorem l_X9_15 : Cond.methodLinkNest RX9 15 mX1_init.1 "HiccupHill" ∈ nestW := mNW (tp1 (List.mem_of_getElem? (i := 30) (by decide +kernel))) rfl
theorem cl_X9_23 : Cond.classLink RX9 23 RX7 ∈ UW := mUW (tp1 (List.mem_of_getElem? (i := 155) (by decide +kernel))) rfl
theorem in_RX7 : Cond.instantiable RX7 11 ∈ UW := mUW (tp1 (List.mem_of_getElem? (i := 156) (by decide +kernel))) rfl
theorem ini_RX7 : Cond.initialized RX7 ∈ UW := mUW (tp1 (List.mem_of_getElem? (i := 4) (by decide +kernel))) rfl
theorem l_X9_25 : Cond.methodLinkNest RX9 25 mX7_init.1 "HiccupHill" ∈ nestW := mNW (tp1 (List.mem_of_getElem? (i := 157) (by decide +kernel))) rfl
theorem ov_RX1 : Cond.arrayOver (.object RX1) ∈ nestW := mNW (tp1 (List.mem_of_getElem? (i := 197) (by decide +kernel))) rfl
theorem cl_X9_38 : Cond.classLink RX9 38 RX5 ∈ UW := mUW (tp1 (List.mem_of_getElem? (i := 198) (by decide +kernel))) rfl
theorem in_RX5 : Cond.instantiable RX5 2 ∈ UW := mUW (tp1 (List.mem_of_getElem? (i := 199) (by decide +kernel))) rfl
theorem ini_RX5 : Cond.initialized RX5 ∈ UW := mUW (tp1 (List.mem_of_getElem? (i := 5) (by decide +kernel))) rfl
theorem l_X9_40 : Cond.methodLink RX9 40 mX5_init.1 ∈ UW := mUW (tp1 (List.mem_of_getElem? (i := 200) (by decide +kernel))) rfl
theorem cl_X9_45 : Cond.classLink RX9 45 RX8 ∈ UW := mUW (tp1 (List.mem_of_getElem? (i := 216) (by decide +kernel))) rfl
theorem ov_RX8 : Cond.arrayOver (.object RX8) ∈ nestW := mNW (tp1 (List.mem_of_getElem? (i := 217) (by decide +kernel))) rfl
theorem cl_X9_51 : Cond.classLink RX9 51 RX3 ∈ UW := mUW (tp1 (List.mem_of_getElem? (i := 218) (by decide +kernel))) rfl
theorem in_RX3 : Cond.instantiable RX3 9 ∈ UW := mUW (tp1 (List.mem_of_getElem? (i := 219) (by decide +kernel))) rfl
theorem ini_RX3 : Cond.initialized RX3 ∈ UW := mUW (tp1 (List.mem_of_getElem? (i := 6) (by decide +kernel))) rfl
theorem l_X9_53 : Cond.methodLinkNest RX9 53 mX3_init.1 "HiccupHill" ∈ nestW := mNW (tp1 (List.mem_of_getElem? (i := 220) (by decide +kernel))) rfl
theorem cl_X9_58 : Cond.classLink RX9 58 RX0 ∈ UW := mUW (tp2 (List.mem_of_getElem? (i := 17) (by decide +kernel))) rfl
theorem in_RX0 : Cond.instantiable RX0 16 ∈ UW := mUW (tp2 (List.mem_of_getElem? (i := 18) (by decide +kernel))) rfl
theorem ini_RX0 : Cond.initialized RX0 ∈ UW := mUW (tp1 (List.mem_of_getElem? (i := 7) (by decide +kernel))) rfl
theorem l_X9_60 : Cond.methodLinkNest RX9 60 mX0_init.1 "HiccupHill" ∈ nestW := mNW (tp2 (List.mem_of_getElem? (i := 19) (by decide +kernel))) rfl
theorem cl_X9_65 : Cond.classLink RX9 65 RX4 ∈ UW := mUW (tp2 (List.mem_of_getElem? (i := 80) (by decide +kernel))) rfl
theorem in_RX4 : Cond.instantiable RX4 4 ∈ UW := mUW (tp2 (List.mem_of_getElem? (i := 81) (by decide +kernel))) rfl
theorem ini_RX4 : Cond.initialized RX4 ∈ UW := mUW (tp1 (List.mem_of_getElem? (i := 8) (by decide +kernel))) rfl
theorem l_X9_67 : Cond.methodLinkNest RX9 67 mX4_init.1 "HiccupHill" ∈ nestW := mNW (tp2 (List.mem_of_getElem? (i := 82) (by decide +kernel))) rfl
theorem cl_X9_72 : Cond.classLink RX9 72 RX2 ∈ UW := mUW (tp2 (List.mem_of_getElem? (i := 103) (by decide +kernel))) rfl
theorem in_RX2 : Cond.instantiable RX2 11 ∈ UW := mUW (tp2 (List.mem_of_getElem? (i := 104) (by decide +kernel))) rfl
theorem ini_RX2 : Cond.initialized RX2 ∈ UW := mUW (tp1 (List.mem_of_getElem? (i := 9) (by decide +kernel))) rfl
theorem l_X9_74 : Cond.methodLinkNest RX9 74 mX2_init.1 "HiccupHill" ∈ nestW := mNW (tp2 (List.mem_of_getElem? (i := 105) (by decide +kernel))) rfl
theorem cl_X9_79 : Cond.classLink RX9 79 RX6 ∈ UW := mUW (tp2 (List.mem_of_getElem? (i := 147) (by decide +kernel))) rfl
theorem l_X9_81 : Cond.methodLinkNest RX9 81 mX6_init.1 "HiccupHill" ∈ nestW := mNW (tp2 (List.mem_of_getElem? (i := 148) (by decide +kernel))) rfl
theorem f_X9_96 : FL RX9 96 9 18 := ⟨_, rfl, by decide, mUW (tp2 (List.mem_of_getElem? (i := 190) (by decide +kernel))) rfl⟩
theorem in_RX8 : Cond.instantiable RX8 4 ∈ UW := mUW (tp2 (List.mem_of_getElem? (i := 149) (by decide +kernel))) rfl
theorem ini_RX8 : Cond.initialized RX8 ∈ UW := mUW (tp1 (List.mem_of_getElem? (i := 10) (by decide +kernel))) rfl
theorem l_X9_99 : Cond.methodLinkNest RX9 99 mX8_init.1 "HiccupHill" ∈ nestW := mNW (tp2 (List.mem_of_getElem? (i := 150) (by decide +kernel))) rfl
theorem c_X9_372 : Cond.constantLong RX9 372 (Int64.ofInt (20)) ∈ UW := mUW (tp4 (List.mem_of_getElem? (i := 226) (by decide +kernel))) rfl
theorem l_X9_208 : Cond.methodLink RX9 208 mX9_isTray.1 ∈ UW := mUW (tp4 (List.mem_of_getElem? (i := 158) (by decide +kernel))) rfl
theorem f_X9_211 : FL RX9 211 8 0 := ⟨_, rfl, by decide, mUW (tp2 (List.mem_of_getElem? (i := 155) (by decide +kernel))) rfl⟩
theorem l_X9_215 : Cond.methodLink RX9 215 mX9_tryDeeds.1 ∈ UW := mUW (tp4 (List.mem_of_getElem? (i := 161) (by decide +kernel))) rfl
theorem l_X9_226 : Cond.methodLink RX9 226 mX9_deed.1 ∈ UW := mUW (tp4 (List.mem_of_getElem? (i := 165) (by decide +kernel))) rfl
theorem l_X9_230 : Cond.methodLink RX9 230 mX3_learn.1 ∈ UW := mUW (tp4 (List.mem_of_getElem? (i := 18) (by decide +kernel))) rfl
theorem l_X9_244 : Cond.methodLink RX9 244 mX0_nobodies.1 ∈ UW := mUW (tp4 (List.mem_of_getElem? (i := 170) (by decide +kernel))) rfl
theorem l_X9_378 : Cond.methodLink RX9 378 mX4_reckon.1 ∈ UW := mUW (tp5 (List.mem_of_getElem? (i := 100) (by decide +kernel))) rfl
theorem l_X9_357 : Cond.methodLink RX9 357 mX0_listInto.1 ∈ UW := mUW (tp5 (List.mem_of_getElem? (i := 147) (by decide +kernel))) rfl
theorem c_X9_341 : Cond.constantLong RX9 341 (Int64.ofInt (-2)) ∈ UW := mUW (tp5 (List.mem_of_getElem? (i := 118) (by decide +kernel))) rfl
theorem l_X9_407 : Cond.methodLink RX9 407 mJ7_fill_53178.1 ∈ UW := mUW (tp5 (List.mem_of_getElem? (i := 82) (by decide +kernel))) rfl
theorem l_X9_413 : Cond.methodLink RX9 413 mJ9_max_7cf53.1 ∈ UW := mUW (tp5 (List.mem_of_getElem? (i := 83) (by decide +kernel))) rfl
theorem f_X9_149 : FL RX9 149 6 1 := ⟨_, rfl, by decide, mUW (tp1 (List.mem_of_getElem? (i := 51) (by decide +kernel))) rfl⟩
theorem f_X9_152 : FL RX9 152 6 2 := ⟨_, rfl, by decide, mUW (tp1 (List.mem_of_getElem? (i := 55) (by decide +kernel))) rfl⟩
theorem f_X9_155 : FL RX9 155 6 3 := ⟨_, rfl, by decide, mUW (tp1 (List.mem_of_getElem? (i := 60) (by decide +kernel))) rfl⟩
theorem f_X9_158 : FL RX9 158 6 4 := ⟨_, rfl, by decide, mUW (tp1 (List.mem_of_getElem? (i := 63) (by decide +kernel))) rfl⟩
theorem f_X9_164 : FL RX9 164 0 5 := ⟨_, rfl, by decide, mUW (tp2 (List.mem_of_getElem? (i := 35) (by decide +kernel))) rfl⟩
theorem l_X9_345 : Cond.methodLink RX9 345 mX8_lay.1 ∈ UW := mUW (tp5 (List.mem_of_getElem? (i := 127) (by decide +kernel))) rfl
theorem f_X9_137 : FL RX9 137 1 4 := ⟨_, rfl, by decide, mUW (tp1 (List.mem_of_getElem? (i := 107) (by decide +kernel))) rfl⟩
theorem f_X9_140 : FL RX9 140 1 5 := ⟨_, rfl, by decide, mUW (tp1 (List.mem_of_getElem? (i := 111) (by decide +kernel))) rfl⟩
theorem f_X9_143 : FL RX9 143 1 6 := ⟨_, rfl, by decide, mUW (tp1 (List.mem_of_getElem? (i := 116) (by decide +kernel))) rfl⟩
theorem c_X9_321 : Cond.constantLong RX9 321 (Int64.ofInt (100)) ∈ UW := mUW (tp5 (List.mem_of_getElem? (i := 65) (by decide +kernel))) rfl
theorem l_X9_270 : Cond.methodLink RX9 270 mX9_isGap.1 ∈ UW := mUW (tp4 (List.mem_of_getElem? (i := 223) (by decide +kernel))) rfl
theorem l_X9_291 : Cond.methodLink RX9 291 mX2_start.1 ∈ UW := mUW (tp5 (List.mem_of_getElem? (i := 25) (by decide +kernel))) rfl
theorem l_X9_295 : Cond.methodLink RX9 295 mX2_seekOne.1 ∈ UW := mUW (tp5 (List.mem_of_getElem? (i := 37) (by decide +kernel))) rfl
theorem l_X9_298 : Cond.methodLink RX9 298 mX2_seekTwo.1 ∈ UW := mUW (tp5 (List.mem_of_getElem? (i := 53) (by decide +kernel))) rfl
theorem f_X9_301 : FL RX9 301 2 1 := ⟨_, rfl, by decide, mUW (tp2 (List.mem_of_getElem? (i := 112) (by decide +kernel))) rfl⟩
theorem f_X9_304 : FL RX9 304 2 2 := ⟨_, rfl, by decide, mUW (tp2 (List.mem_of_getElem? (i := 114) (by decide +kernel))) rfl⟩
theorem f_X9_307 : FL RX9 307 2 3 := ⟨_, rfl, by decide, mUW (tp2 (List.mem_of_getElem? (i := 116) (by decide +kernel))) rfl⟩
theorem l_X9_401 : Cond.methodLink RX9 401 mX3_take.1 ∈ UW := mUW (tp5 (List.mem_of_getElem? (i := 15) (by decide +kernel))) rfl
theorem l_X9_274 : Cond.methodLink RX9 274 mX9_findStops.1 ∈ UW := mUW (tp4 (List.mem_of_getElem? (i := 231) (by decide +kernel))) rfl
theorem l_X9_204 : Cond.methodLink RX9 204 mX5_takeBack.1 ∈ UW := mUW (tp4 (List.mem_of_getElem? (i := 150) (by decide +kernel))) rfl
theorem l_X9_251 : Cond.methodLink RX9 251 mX9_drawDeed.1 ∈ UW := mUW (tp4 (List.mem_of_getElem? (i := 182) (by decide +kernel))) rfl
theorem l_X9_323 : Cond.methodLink RX9 323 mX0_isTimed.1 ∈ UW := mUW (tp5 (List.mem_of_getElem? (i := 88) (by decide +kernel))) rfl
theorem c_X9_349 : Cond.constantLong RX9 349 (Int64.ofInt (-6)) ∈ UW := mUW (tp5 (List.mem_of_getElem? (i := 136) (by decide +kernel))) rfl
theorem c_X9_351 : Cond.constantLong RX9 351 (Int64.ofInt (-7)) ∈ UW := mUW (tp5 (List.mem_of_getElem? (i := 137) (by decide +kernel))) rfl
theorem l_X9_353 : Cond.methodLink RX9 353 mX8_put.1 ∈ UW := mUW (tp5 (List.mem_of_getElem? (i := 138) (by decide +kernel))) rfl
theorem ac_0 : Cond.arrayClass (et 0) ∈ UW := mUW (tp1 (List.mem_of_getElem? (i := 89) (by decide +kernel))) rfl
theorem ac_1 : Cond.arrayClass (et 1) ∈ UW := mUW (tp2 (List.mem_of_getElem? (i := 16) (by decide +kernel))) rfl
theorem ac_4 : Cond.arrayClass (et 4) ∈ UW := mUW (tp1 (List.mem_of_getElem? (i := 88) (by decide +kernel))) rfl
theorem ac_5 : Cond.arrayClass (et 5) ∈ UW := mUW (tp1 (List.mem_of_getElem? (i := 215) (by decide +kernel))) rfl
theorem nc_native : Cond.native arraycopyName ∈ UW := mUW (tp4 (List.mem_of_getElem? (i := 101) (by decide +kernel))) rfl
theorem nc_static : Cond.static arraycopyName ∈ UW := mUW (tp4 (List.mem_of_getElem? (i := 100) (by decide +kernel))) rfl
theorem nc_init : Cond.initialized "java/lang/System" ∈ UW := mUW (tp1 (List.mem_of_getElem? (i := 19) (by decide +kernel))) rfl
theorem oi_inst : Cond.instanceMethod Lib.objectInit ∈ UW := mUW (tp1 (List.mem_of_getElem? (i := 26) (by decide +kernel))) rfl
theorem oi_code : Cond.code Lib.objectInit ⟨#[0xb1]⟩ 1 none ∈ UW := mUW (tp1 (List.mem_of_getElem? (i := 27) (by decide +kernel))) rfl

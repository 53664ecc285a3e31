theorem dX9_findStops_62 : decode cX9_findStops 62 = .ok (.if_icmp .ge 114, 3) := by decide +kernel
theorem dX9_findStops_65 : decode cX9_findStops 65 = .ok (.iload 7, 2) := by decide +kernel
theorem dX9_findStops_67 : decode cX9_findStops 67 = .ok (.iload_n 1, 1) := by decide +kernel
theorem dX9_findStops_68 : decode cX9_findStops 68 = .ok (.if_icmp .eq 108, 3) := by decide +kernel
theorem dX9_findStops_71 : decode cX9_findStops 71 = .ok (.iload 4, 2) := by decide +kernel
theorem dX9_findStops_73 : decode cX9_findStops 73 = .ok (.istore 9, 2) := by decide +kernel
theorem dX9_findStops_75 : decode cX9_findStops 75 = .ok (.iload 8, 2) := by decide +kernel
theorem dX9_findStops_77 : decode cX9_findStops 77 = .ok (.iload_n 2, 1) := by decide +kernel
theorem dX9_findStops_78 : decode cX9_findStops 78 = .ok (.if_icmp .ge 63, 3) := by decide +kernel
theorem dX9_findStops_81 : decode cX9_findStops 81 = .ok (.aload_n 0, 1) := by decide +kernel
theorem dX9_findStops_82 : decode cX9_findStops 82 = .ok (.getfield 82, 3) := by decide +kernel
theorem dX9_findStops_85 : decode cX9_findStops 85 = .ok (.aload_n 0, 1) := by decide +kernel
theorem dX9_findStops_86 : decode cX9_findStops 86 = .ok (.getfield 16, 3) := by decide +kernel
theorem dX9_findStops_89 : decode cX9_findStops 89 = .ok (.getfield 131, 3) := by decide +kernel
theorem dX9_findStops_92 : decode cX9_findStops 92 = .ok (.getfield 146, 3) := by decide +kernel
theorem dX9_findStops_95 : decode cX9_findStops 95 = .ok (.putfield 146, 3) := by decide +kernel
theorem dX9_findStops_98 : decode cX9_findStops 98 = .ok (.aload_n 0, 1) := by decide +kernel
theorem dX9_findStops_99 : decode cX9_findStops 99 = .ok (.getfield 82, 3) := by decide +kernel
theorem dX9_findStops_102 : decode cX9_findStops 102 = .ok (.iload 7, 2) := by decide +kernel
theorem dX9_findStops_104 : decode cX9_findStops 104 = .ok (.iload_n 1, 1) := by decide +kernel
theorem dX9_findStops_105 : decode cX9_findStops 105 = .ok (.iload 8, 2) := by decide +kernel
theorem dX9_findStops_107 : decode cX9_findStops 107 = .ok (.bipush 10, 2) := by decide +kernel
theorem dX9_findStops_109 : decode cX9_findStops 109 = .ok (.invokevirtual 382, 3) := by decide +kernel
theorem dX9_findStops_112 : decode cX9_findStops 112 = .ok (.aload_n 0, 1) := by decide +kernel
theorem dX9_findStops_113 : decode cX9_findStops 113 = .ok (.getfield 89, 3) := by decide +kernel
theorem dX9_findStops_116 : decode cX9_findStops 116 = .ok (.aload_n 0, 1) := by decide +kernel
theorem dX9_findStops_117 : decode cX9_findStops 117 = .ok (.getfield 82, 3) := by decide +kernel
theorem dX9_findStops_120 : decode cX9_findStops 120 = .ok (.aload_n 0, 1) := by decide +kernel
theorem dX9_findStops_121 : decode cX9_findStops 121 = .ok (.getfield 54, 3) := by decide +kernel
theorem dX9_findStops_124 : decode cX9_findStops 124 = .ok (.iload_n 2, 1) := by decide +kernel
theorem dX9_findStops_125 : decode cX9_findStops 125 = .ok (.iconst (-1), 1) := by decide +kernel
theorem dX9_findStops_126 : decode cX9_findStops 126 = .ok (.invokevirtual 234, 3) := by decide +kernel
theorem dX9_findStops_129 : decode cX9_findStops 129 = .ok (.pop, 1) := by decide +kernel
theorem dX9_findStops_130 : decode cX9_findStops 130 = .ok (.aload_n 0, 1) := by decide +kernel
theorem dX9_findStops_131 : decode cX9_findStops 131 = .ok (.getfield 89, 3) := by decide +kernel
theorem dX9_findStops_134 : decode cX9_findStops 134 = .ok (.iload_n 1, 1) := by decide +kernel
theorem dX9_findStops_135 : decode cX9_findStops 135 = .ok (.iload_n 2, 1) := by decide +kernel
theorem dX9_findStops_136 : decode cX9_findStops 136 = .ok (.invokevirtual 398, 3) := by decide +kernel
theorem dX9_findStops_139 : decode cX9_findStops 139 = .ok (.istore 9, 2) := by decide +kernel
theorem dX9_findStops_141 : decode cX9_findStops 141 = .ok (.iload 9, 2) := by decide +kernel
theorem dX9_findStops_143 : decode cX9_findStops 143 = .ok (.ifCond .eq 18, 3) := by decide +kernel
theorem dX9_findStops_146 : decode cX9_findStops 146 = .ok (.iload 5, 2) := by decide +kernel
theorem dX9_findStops_148 : decode cX9_findStops 148 = .ok (.iload_n 3, 1) := by decide +kernel
theorem dX9_findStops_149 : decode cX9_findStops 149 = .ok (.if_icmp .ne 12, 3) := by decide +kernel
theorem dX9_findStops_152 : decode cX9_findStops 152 = .ok (.iload 8, 2) := by decide +kernel
theorem dX9_findStops_154 : decode cX9_findStops 154 = .ok (.bipush 100, 2) := by decide +kernel
theorem dX9_findStops_156 : decode cX9_findStops 156 = .ok (.imul, 1) := by decide +kernel
theorem dX9_findStops_157 : decode cX9_findStops 157 = .ok (.iload 7, 2) := by decide +kernel
theorem dX9_findStops_159 : decode cX9_findStops 159 = .ok (.iadd, 1) := by decide +kernel
theorem dX9_findStops_160 : decode cX9_findStops 160 = .ok (.ireturn, 1) := by decide +kernel
theorem dX9_findStops_161 : decode cX9_findStops 161 = .ok (.iload 5, 2) := by decide +kernel
theorem dX9_findStops_163 : decode cX9_findStops 163 = .ok (.iload 9, 2) := by decide +kernel
theorem dX9_findStops_165 : decode cX9_findStops 165 = .ok (.ifCond .eq 7, 3) := by decide +kernel
theorem dX9_findStops_168 : decode cX9_findStops 168 = .ok (.iconst 1, 1) := by decide +kernel
theorem dX9_findStops_169 : decode cX9_findStops 169 = .ok (.goto 4, 3) := by decide +kernel
theorem dX9_findStops_172 : decode cX9_findStops 172 = .ok (.iconst 0, 1) := by decide +kernel
theorem dX9_findStops_173 : decode cX9_findStops 173 = .ok (.iadd, 1) := by decide +kernel
theorem dX9_findStops_174 : decode cX9_findStops 174 = .ok (.istore 5, 2) := by decide +kernel
theorem dX9_findStops_176 : decode cX9_findStops 176 = .ok (.iinc 6 1, 3) := by decide +kernel
theorem dX9_findStops_179 : decode cX9_findStops 179 = .ok (.goto (-148), 3) := by decide +kernel
theorem dX9_findStops_182 : decode cX9_findStops 182 = .ok (.iload_n 3, 1) := by decide +kernel
theorem dX9_findStops_183 : decode cX9_findStops 183 = .ok (.iconst (-1), 1) := by decide +kernel
theorem dX9_findStops_184 : decode cX9_findStops 184 = .ok (.if_icmp .ne 8, 3) := by decide +kernel
theorem dX9_findStops_187 : decode cX9_findStops 187 = .ok (.iload 5, 2) := by decide +kernel
theorem dX9_findStops_189 : decode cX9_findStops 189 = .ok (.goto 4, 3) := by decide +kernel
theorem dX9_findStops_192 : decode cX9_findStops 192 = .ok (.iconst (-1), 1) := by decide +kernel
theorem dX9_findStops_193 : decode cX9_findStops 193 = .ok (.ireturn, 1) := by decide +kernel
theorem dX9_startTrialLaws_0 : decode cX9_startTrialLaws 0 = .ok (.aload_n 0, 1) := by decide +kernel
theorem dX9_startTrialLaws_1 : decode cX9_startTrialLaws 1 = .ok (.getfield 82, 3) := by decide +kernel
theorem dX9_startTrialLaws_4 : decode cX9_startTrialLaws 4 = .ok (.aload_n 0, 1) := by decide +kernel
theorem dX9_startTrialLaws_5 : decode cX9_startTrialLaws 5 = .ok (.getfield 16, 3) := by decide +kernel
theorem dX9_startTrialLaws_8 : decode cX9_startTrialLaws 8 = .ok (.getfield 131, 3) := by decide +kernel
theorem dX9_startTrialLaws_11 : decode cX9_startTrialLaws 11 = .ok (.invokevirtual 176, 3) := by decide +kernel
theorem dX9_startTrialLaws_14 : decode cX9_startTrialLaws 14 = .ok (.aload_n 0, 1) := by decide +kernel
theorem dX9_startTrialLaws_15 : decode cX9_startTrialLaws 15 = .ok (.getfield 86, 3) := by decide +kernel
theorem dX9_startTrialLaws_18 : decode cX9_startTrialLaws 18 = .ok (.aload_n 0, 1) := by decide +kernel
theorem dX9_startTrialLaws_19 : decode cX9_startTrialLaws 19 = .ok (.getfield 16, 3) := by decide +kernel
theorem dX9_startTrialLaws_22 : decode cX9_startTrialLaws 22 = .ok (.aload_n 0, 1) := by decide +kernel
theorem dX9_startTrialLaws_23 : decode cX9_startTrialLaws 23 = .ok (.getfield 82, 3) := by decide +kernel
theorem dX9_startTrialLaws_26 : decode cX9_startTrialLaws 26 = .ok (.invokevirtual 401, 3) := by decide +kernel
theorem dX9_startTrialLaws_29 : decode cX9_startTrialLaws 29 = .ok (.return_, 1) := by decide +kernel
theorem dX9_namesAtOnce_0 : decode cX9_namesAtOnce 0 = .ok (.iconst 0, 1) := by decide +kernel
theorem dX9_namesAtOnce_1 : decode cX9_namesAtOnce 1 = .ok (.istore_n 3, 1) := by decide +kernel
theorem dX9_namesAtOnce_2 : decode cX9_namesAtOnce 2 = .ok (.iconst 0, 1) := by decide +kernel
theorem dX9_namesAtOnce_3 : decode cX9_namesAtOnce 3 = .ok (.istore 4, 2) := by decide +kernel
theorem dX9_namesAtOnce_5 : decode cX9_namesAtOnce 5 = .ok (.iload 4, 2) := by decide +kernel
theorem dX9_namesAtOnce_7 : decode cX9_namesAtOnce 7 = .ok (.aload_n 0, 1) := by decide +kernel
theorem dX9_namesAtOnce_8 : decode cX9_namesAtOnce 8 = .ok (.getfield 16, 3) := by decide +kernel
theorem dX9_namesAtOnce_11 : decode cX9_namesAtOnce 11 = .ok (.getfield 241, 3) := by decide +kernel
theorem dX9_namesAtOnce_14 : decode cX9_namesAtOnce 14 = .ok (.if_icmp .ge 45, 3) := by decide +kernel
theorem dX9_namesAtOnce_17 : decode cX9_namesAtOnce 17 = .ok (.iload_n 2, 1) := by decide +kernel
theorem dX9_namesAtOnce_18 : decode cX9_namesAtOnce 18 = .ok (.iload 4, 2) := by decide +kernel
theorem dX9_namesAtOnce_20 : decode cX9_namesAtOnce 20 = .ok (.ishr, 1) := by decide +kernel
theorem dX9_namesAtOnce_21 : decode cX9_namesAtOnce 21 = .ok (.iconst 1, 1) := by decide +kernel
theorem dX9_namesAtOnce_22 : decode cX9_namesAtOnce 22 = .ok (.iand, 1) := by decide +kernel
theorem dX9_namesAtOnce_23 : decode cX9_namesAtOnce 23 = .ok (.ifCond .eq 30, 3) := by decide +kernel
theorem dX9_namesAtOnce_26 : decode cX9_namesAtOnce 26 = .ok (.aload_n 0, 1) := by decide +kernel
theorem dX9_namesAtOnce_27 : decode cX9_namesAtOnce 27 = .ok (.getfield 86, 3) := by decide +kernel
theorem dX9_namesAtOnce_30 : decode cX9_namesAtOnce 30 = .ok (.iload_n 1, 1) := by decide +kernel
theorem dX9_namesAtOnce_31 : decode cX9_namesAtOnce 31 = .ok (.iload 4, 2) := by decide +kernel
theorem dX9_namesAtOnce_33 : decode cX9_namesAtOnce 33 = .ok (.invokevirtual 404, 3) := by decide +kernel
theorem dX9_namesAtOnce_36 : decode cX9_namesAtOnce 36 = .ok (.istore 5, 2) := by decide +kernel
theorem dX9_namesAtOnce_38 : decode cX9_namesAtOnce 38 = .ok (.iload_n 3, 1) := by decide +kernel
theorem dX9_namesAtOnce_39 : decode cX9_namesAtOnce 39 = .ok (.ifCond .eq 11, 3) := by decide +kernel
theorem dX9_namesAtOnce_42 : decode cX9_namesAtOnce 42 = .ok (.iload 5, 2) := by decide +kernel
theorem dX9_namesAtOnce_44 : decode cX9_namesAtOnce 44 = .ok (.iload_n 3, 1) := by decide +kernel
theorem dX9_namesAtOnce_45 : decode cX9_namesAtOnce 45 = .ok (.if_icmp .eq 5, 3) := by decide +kernel
theorem dX9_namesAtOnce_48 : decode cX9_namesAtOnce 48 = .ok (.iconst 0, 1) := by decide +kernel
theorem dX9_namesAtOnce_49 : decode cX9_namesAtOnce 49 = .ok (.ireturn, 1) := by decide +kernel
theorem dX9_namesAtOnce_50 : decode cX9_namesAtOnce 50 = .ok (.iload 5, 2) := by decide +kernel
theorem dX9_namesAtOnce_52 : decode cX9_namesAtOnce 52 = .ok (.istore_n 3, 1) := by decide +kernel
theorem dX9_namesAtOnce_53 : decode cX9_namesAtOnce 53 = .ok (.iinc 4 1, 3) := by decide +kernel
theorem dX9_namesAtOnce_56 : decode cX9_namesAtOnce 56 = .ok (.goto (-51), 3) := by decide +kernel
theorem dX9_namesAtOnce_59 : decode cX9_namesAtOnce 59 = .ok (.iconst 1, 1) := by decide +kernel
theorem dX9_namesAtOnce_60 : decode cX9_namesAtOnce 60 = .ok (.ireturn, 1) := by decide +kernel
theorem dX9_refuseHeard_0 : decode cX9_refuseHeard 0 = .ok (.iload_n 1, 1) := by decide +kernel
theorem dX9_refuseHeard_1 : decode cX9_refuseHeard 1 = .ok (.invokestatic 208, 3) := by decide +kernel
theorem dX9_refuseHeard_4 : decode cX9_refuseHeard 4 = .ok (.ifCond .eq 11, 3) := by decide +kernel
theorem dX9_refuseHeard_7 : decode cX9_refuseHeard 7 = .ok (.aload_n 0, 1) := by decide +kernel
theorem dX9_refuseHeard_8 : decode cX9_refuseHeard 8 = .ok (.iload_n 2, 1) := by decide +kernel
theorem dX9_refuseHeard_9 : decode cX9_refuseHeard 9 = .ok (.invokevirtual 127, 3) := by decide +kernel
theorem dX9_refuseHeard_12 : decode cX9_refuseHeard 12 = .ok (.ifCond .ne 6, 3) := by decide +kernel
theorem dX9_refuseHeard_15 : decode cX9_refuseHeard 15 = .ok (.bipush (-2), 2) := by decide +kernel
theorem dX9_refuseHeard_17 : decode cX9_refuseHeard 17 = .ok (.ireturn, 1) := by decide +kernel
theorem dX9_refuseHeard_18 : decode cX9_refuseHeard 18 = .ok (.aload_n 0, 1) := by decide +kernel
theorem dX9_refuseHeard_19 : decode cX9_refuseHeard 19 = .ok (.getfield 47, 3) := by decide +kernel
theorem dX9_refuseHeard_22 : decode cX9_refuseHeard 22 = .ok (.iload_n 1, 1) := by decide +kernel
theorem dX9_refuseHeard_23 : decode cX9_refuseHeard 23 = .ok (.aaload, 1) := by decide +kernel
theorem dX9_refuseHeard_24 : decode cX9_refuseHeard 24 = .ok (.astore_n 3, 1) := by decide +kernel
theorem dX9_refuseHeard_25 : decode cX9_refuseHeard 25 = .ok (.aload_n 3, 1) := by decide +kernel
theorem dX9_refuseHeard_26 : decode cX9_refuseHeard 26 = .ok (.getfield 211, 3) := by decide +kernel
theorem dX9_refuseHeard_29 : decode cX9_refuseHeard 29 = .ok (.ifCond .ne 6, 3) := by decide +kernel
theorem dX9_refuseHeard_32 : decode cX9_refuseHeard 32 = .ok (.bipush (-6), 2) := by decide +kernel
theorem dX9_refuseHeard_34 : decode cX9_refuseHeard 34 = .ok (.ireturn, 1) := by decide +kernel
theorem dX9_refuseHeard_35 : decode cX9_refuseHeard 35 = .ok (.aload_n 3, 1) := by decide +kernel
theorem dX9_refuseHeard_36 : decode cX9_refuseHeard 36 = .ok (.getfield 219, 3) := by decide +kernel
theorem dX9_refuseHeard_39 : decode cX9_refuseHeard 39 = .ok (.iconst 1, 1) := by decide +kernel
theorem dX9_refuseHeard_40 : decode cX9_refuseHeard 40 = .ok (.if_icmp .lt 12, 3) := by decide +kernel
theorem dX9_refuseHeard_43 : decode cX9_refuseHeard 43 = .ok (.aload_n 3, 1) := by decide +kernel
theorem dX9_refuseHeard_44 : decode cX9_refuseHeard 44 = .ok (.getfield 219, 3) := by decide +kernel
theorem dX9_refuseHeard_47 : decode cX9_refuseHeard 47 = .ok (.bipush 6, 2) := by decide +kernel
theorem dX9_refuseHeard_49 : decode cX9_refuseHeard 49 = .ok (.if_icmp .le 6, 3) := by decide +kernel
theorem dX9_refuseHeard_52 : decode cX9_refuseHeard 52 = .ok (.bipush (-4), 2) := by decide +kernel
theorem dX9_refuseHeard_54 : decode cX9_refuseHeard 54 = .ok (.ireturn, 1) := by decide +kernel
theorem dX9_refuseHeard_55 : decode cX9_refuseHeard 55 = .ok (.iconst 0, 1) := by decide +kernel
theorem dX9_refuseHeard_56 : decode cX9_refuseHeard 56 = .ok (.istore 4, 2) := by decide +kernel
theorem dX9_refuseHeard_58 : decode cX9_refuseHeard 58 = .ok (.iload 4, 2) := by decide +kernel
theorem dX9_refuseHeard_60 : decode cX9_refuseHeard 60 = .ok (.aload_n 3, 1) := by decide +kernel
theorem dX9_refuseHeard_61 : decode cX9_refuseHeard 61 = .ok (.getfield 219, 3) := by decide +kernel
theorem dX9_refuseHeard_64 : decode cX9_refuseHeard 64 = .ok (.if_icmp .ge 70, 3) := by decide +kernel
theorem dX9_refuseHeard_67 : decode cX9_refuseHeard 67 = .ok (.aload_n 3, 1) := by decide +kernel
theorem dX9_refuseHeard_68 : decode cX9_refuseHeard 68 = .ok (.getfield 222, 3) := by decide +kernel
theorem dX9_refuseHeard_71 : decode cX9_refuseHeard 71 = .ok (.iload 4, 2) := by decide +kernel
theorem dX9_refuseHeard_73 : decode cX9_refuseHeard 73 = .ok (.laload, 1) := by decide +kernel
theorem dX9_refuseHeard_74 : decode cX9_refuseHeard 74 = .ok (.lstore 5, 2) := by decide +kernel
theorem dX9_refuseHeard_76 : decode cX9_refuseHeard 76 = .ok (.lload 5, 2) := by decide +kernel
theorem dX9_refuseHeard_78 : decode cX9_refuseHeard 78 = .ok (.lconst 0, 1) := by decide +kernel
theorem dX9_refuseHeard_79 : decode cX9_refuseHeard 79 = .ok (.lcmp, 1) := by decide +kernel
theorem dX9_refuseHeard_80 : decode cX9_refuseHeard 80 = .ok (.ifCond .lt 45, 3) := by decide +kernel
theorem dX9_refuseHeard_83 : decode cX9_refuseHeard 83 = .ok (.lload 5, 2) := by decide +kernel
theorem dX9_refuseHeard_85 : decode cX9_refuseHeard 85 = .ok (.ldc2_w 321, 3) := by decide +kernel
theorem dX9_refuseHeard_88 : decode cX9_refuseHeard 88 = .ok (.ldiv, 1) := by decide +kernel
theorem dX9_refuseHeard_89 : decode cX9_refuseHeard 89 = .ok (.aload_n 0, 1) := by decide +kernel
theorem dX9_refuseHeard_90 : decode cX9_refuseHeard 90 = .ok (.getfield 16, 3) := by decide +kernel
theorem dX9_refuseHeard_93 : decode cX9_refuseHeard 93 = .ok (.getfield 241, 3) := by decide +kernel
theorem dX9_refuseHeard_96 : decode cX9_refuseHeard 96 = .ok (.i2l, 1) := by decide +kernel
theorem dX9_refuseHeard_97 : decode cX9_refuseHeard 97 = .ok (.lcmp, 1) := by decide +kernel
theorem dX9_refuseHeard_98 : decode cX9_refuseHeard 98 = .ok (.ifCond .ge 27, 3) := by decide +kernel
theorem dX9_refuseHeard_101 : decode cX9_refuseHeard 101 = .ok (.lload 5, 2) := by decide +kernel
theorem dX9_refuseHeard_103 : decode cX9_refuseHeard 103 = .ok (.ldc2_w 321, 3) := by decide +kernel
theorem dX9_refuseHeard_106 : decode cX9_refuseHeard 106 = .ok (.ldiv, 1) := by decide +kernel
theorem dX9_refuseHeard_107 : decode cX9_refuseHeard 107 = .ok (.iload_n 2, 1) := by decide +kernel
theorem dX9_refuseHeard_108 : decode cX9_refuseHeard 108 = .ok (.i2l, 1) := by decide +kernel
theorem dX9_refuseHeard_109 : decode cX9_refuseHeard 109 = .ok (.lcmp, 1) := by decide +kernel
theorem dX9_refuseHeard_110 : decode cX9_refuseHeard 110 = .ok (.ifCond .eq 15, 3) := by decide +kernel
theorem dX9_refuseHeard_113 : decode cX9_refuseHeard 113 = .ok (.lload 5, 2) := by decide +kernel
theorem dX9_refuseHeard_115 : decode cX9_refuseHeard 115 = .ok (.ldc2_w 321, 3) := by decide +kernel
theorem dX9_refuseHeard_118 : decode cX9_refuseHeard 118 = .ok (.lrem, 1) := by decide +kernel
theorem dX9_refuseHeard_119 : decode cX9_refuseHeard 119 = .ok (.invokestatic 270, 3) := by decide +kernel
theorem dX9_refuseHeard_122 : decode cX9_refuseHeard 122 = .ok (.ifCond .ne 6, 3) := by decide +kernel
theorem dX9_refuseHeard_125 : decode cX9_refuseHeard 125 = .ok (.bipush (-3), 2) := by decide +kernel
theorem dX9_refuseHeard_127 : decode cX9_refuseHeard 127 = .ok (.ireturn, 1) := by decide +kernel
theorem dX9_refuseHeard_128 : decode cX9_refuseHeard 128 = .ok (.iinc 4 1, 3) := by decide +kernel
theorem dX9_refuseHeard_131 : decode cX9_refuseHeard 131 = .ok (.goto (-73), 3) := by decide +kernel
theorem dX9_refuseHeard_134 : decode cX9_refuseHeard 134 = .ok (.iconst 0, 1) := by decide +kernel
theorem dX9_refuseHeard_135 : decode cX9_refuseHeard 135 = .ok (.ireturn, 1) := by decide +kernel
theorem dX9_findHeard_0 : decode cX9_findHeard 0 = .ok (.aload_n 0, 1) := by decide +kernel
theorem dX9_findHeard_1 : decode cX9_findHeard 1 = .ok (.invokevirtual 281, 3) := by decide +kernel
theorem dX9_findHeard_4 : decode cX9_findHeard 4 = .ok (.iconst 0, 1) := by decide +kernel
theorem dX9_findHeard_5 : decode cX9_findHeard 5 = .ok (.istore_n 3, 1) := by decide +kernel
theorem dX9_findHeard_6 : decode cX9_findHeard 6 = .ok (.iconst 0, 1) := by decide +kernel
theorem dX9_findHeard_7 : decode cX9_findHeard 7 = .ok (.istore 4, 2) := by decide +kernel
theorem dX9_findHeard_9 : decode cX9_findHeard 9 = .ok (.iload 4, 2) := by decide +kernel
theorem dX9_findHeard_11 : decode cX9_findHeard 11 = .ok (.aload_n 0, 1) := by decide +kernel
theorem dX9_findHeard_12 : decode cX9_findHeard 12 = .ok (.getfield 16, 3) := by decide +kernel
theorem dX9_findHeard_15 : decode cX9_findHeard 15 = .ok (.invokevirtual 278, 3) := by decide +kernel
theorem dX9_findHeard_18 : decode cX9_findHeard 18 = .ok (.if_icmp .ge 107, 3) := by decide +kernel
theorem dX9_findHeard_21 : decode cX9_findHeard 21 = .ok (.iload 4, 2) := by decide +kernel
theorem dX9_findHeard_23 : decode cX9_findHeard 23 = .ok (.bipush 64, 2) := by decide +kernel
theorem dX9_findHeard_25 : decode cX9_findHeard 25 = .ok (.if_icmp .ge 100, 3) := by decide +kernel
theorem dX9_findHeard_28 : decode cX9_findHeard 28 = .ok (.aload_n 0, 1) := by decide +kernel
theorem dX9_findHeard_29 : decode cX9_findHeard 29 = .ok (.getfield 82, 3) := by decide +kernel
theorem dX9_findHeard_32 : decode cX9_findHeard 32 = .ok (.getfield 134, 3) := by decide +kernel
theorem dX9_findHeard_35 : decode cX9_findHeard 35 = .ok (.iload_n 2, 1) := by decide +kernel
theorem dX9_findHeard_36 : decode cX9_findHeard 36 = .ok (.iload 4, 2) := by decide +kernel
theorem dX9_findHeard_38 : decode cX9_findHeard 38 = .ok (.iastore, 1) := by decide +kernel
theorem dX9_findHeard_39 : decode cX9_findHeard 39 = .ok (.iconst 1, 1) := by decide +kernel
theorem dX9_findHeard_40 : decode cX9_findHeard 40 = .ok (.istore 5, 2) := by decide +kernel
theorem dX9_findHeard_42 : decode cX9_findHeard 42 = .ok (.iconst 0, 1) := by decide +kernel
theorem dX9_findHeard_43 : decode cX9_findHeard 43 = .ok (.istore 6, 2) := by decide +kernel
theorem dX9_findHeard_45 : decode cX9_findHeard 45 = .ok (.iload 6, 2) := by decide +kernel
theorem dX9_findHeard_47 : decode cX9_findHeard 47 = .ok (.aload_n 1, 1) := by decide +kernel
theorem dX9_findHeard_48 : decode cX9_findHeard 48 = .ok (.getfield 219, 3) := by decide +kernel
theorem dX9_findHeard_51 : decode cX9_findHeard 51 = .ok (.if_icmp .ge 52, 3) := by decide +kernel
theorem dX9_findHeard_54 : decode cX9_findHeard 54 = .ok (.iload 5, 2) := by decide +kernel
theorem dX9_findHeard_56 : decode cX9_findHeard 56 = .ok (.ifCond .eq 47, 3) := by decide +kernel
theorem dX9_findHeard_59 : decode cX9_findHeard 59 = .ok (.aload_n 1, 1) := by decide +kernel
theorem dX9_findHeard_60 : decode cX9_findHeard 60 = .ok (.getfield 222, 3) := by decide +kernel
theorem dX9_findHeard_63 : decode cX9_findHeard 63 = .ok (.iload 6, 2) := by decide +kernel
theorem dX9_findHeard_65 : decode cX9_findHeard 65 = .ok (.laload, 1) := by decide +kernel
theorem dX9_findHeard_66 : decode cX9_findHeard 66 = .ok (.l2i, 1) := by decide +kernel
theorem dX9_findHeard_67 : decode cX9_findHeard 67 = .ok (.istore 7, 2) := by decide +kernel
theorem dX9_findHeard_69 : decode cX9_findHeard 69 = .ok (.aload_n 0, 1) := by decide +kernel
theorem dX9_findHeard_70 : decode cX9_findHeard 70 = .ok (.getfield 86, 3) := by decide +kernel
theorem dX9_findHeard_73 : decode cX9_findHeard 73 = .ok (.iload_n 2, 1) := by decide +kernel
theorem dX9_findHeard_74 : decode cX9_findHeard 74 = .ok (.iload 7, 2) := by decide +kernel
theorem dX9_findHeard_76 : decode cX9_findHeard 76 = .ok (.bipush 100, 2) := by decide +kernel
theorem dX9_findHeard_78 : decode cX9_findHeard 78 = .ok (.idiv, 1) := by decide +kernel
theorem dX9_findHeard_79 : decode cX9_findHeard 79 = .ok (.invokevirtual 404, 3) := by decide +kernel
theorem dX9_findHeard_82 : decode cX9_findHeard 82 = .ok (.iload 7, 2) := by decide +kernel
theorem dX9_findHeard_84 : decode cX9_findHeard 84 = .ok (.bipush 100, 2) := by decide +kernel
theorem dX9_findHeard_86 : decode cX9_findHeard 86 = .ok (.irem, 1) := by decide +kernel
theorem dX9_findHeard_87 : decode cX9_findHeard 87 = .ok (.if_icmp .ne 7, 3) := by decide +kernel
theorem dX9_findHeard_90 : decode cX9_findHeard 90 = .ok (.iconst 1, 1) := by decide +kernel
theorem dX9_findHeard_91 : decode cX9_findHeard 91 = .ok (.goto 4, 3) := by decide +kernel
theorem dX9_findHeard_94 : decode cX9_findHeard 94 = .ok (.iconst 0, 1) := by decide +kernel
theorem dX9_findHeard_95 : decode cX9_findHeard 95 = .ok (.istore 5, 2) := by decide +kernel
theorem dX9_findHeard_97 : decode cX9_findHeard 97 = .ok (.iinc 6 1, 3) := by decide +kernel
theorem dX9_findHeard_100 : decode cX9_findHeard 100 = .ok (.goto (-55), 3) := by decide +kernel
theorem dX9_findHeard_103 : decode cX9_findHeard 103 = .ok (.iload 5, 2) := by decide +kernel
theorem dX9_findHeard_105 : decode cX9_findHeard 105 = .ok (.ifCond .eq 14, 3) := by decide +kernel
theorem dX9_findHeard_108 : decode cX9_findHeard 108 = .ok (.aload_n 0, 1) := by decide +kernel
theorem dX9_findHeard_109 : decode cX9_findHeard 109 = .ok (.getfield 92, 3) := by decide +kernel
theorem dX9_findHeard_112 : decode cX9_findHeard 112 = .ok (.iload_n 3, 1) := by decide +kernel
theorem dX9_findHeard_113 : decode cX9_findHeard 113 = .ok (.iload 4, 2) := by decide +kernel
theorem dX9_findHeard_115 : decode cX9_findHeard 115 = .ok (.iastore, 1) := by decide +kernel
theorem dX9_findHeard_116 : decode cX9_findHeard 116 = .ok (.iinc 3 1, 3) := by decide +kernel
theorem dX9_findHeard_119 : decode cX9_findHeard 119 = .ok (.iinc 4 1, 3) := by decide +kernel
theorem dX9_findHeard_122 : decode cX9_findHeard 122 = .ok (.goto (-113), 3) := by decide +kernel
theorem dX9_findHeard_125 : decode cX9_findHeard 125 = .ok (.iload_n 3, 1) := by decide +kernel
theorem dX9_findHeard_126 : decode cX9_findHeard 126 = .ok (.ireturn, 1) := by decide +kernel
theorem dX9_mostAlike_0 : decode cX9_mostAlike 0 = .ok (.aload_n 0, 1) := by decide +kernel
theorem dX9_mostAlike_1 : decode cX9_mostAlike 1 = .ok (.getfield 96, 3) := by decide +kernel
theorem dX9_mostAlike_4 : decode cX9_mostAlike 4 = .ok (.iconst 0, 1) := by decide +kernel
theorem dX9_mostAlike_5 : decode cX9_mostAlike 5 = .ok (.invokestatic 407, 3) := by decide +kernel
theorem dX9_mostAlike_8 : decode cX9_mostAlike 8 = .ok (.iconst 0, 1) := by decide +kernel
theorem dX9_mostAlike_9 : decode cX9_mostAlike 9 = .ok (.istore 4, 2) := by decide +kernel
theorem dX9_mostAlike_11 : decode cX9_mostAlike 11 = .ok (.iconst 0, 1) := by decide +kernel
theorem dX9_mostAlike_12 : decode cX9_mostAlike 12 = .ok (.istore 5, 2) := by decide +kernel
theorem dX9_mostAlike_14 : decode cX9_mostAlike 14 = .ok (.iload 5, 2) := by decide +kernel
theorem dX9_mostAlike_16 : decode cX9_mostAlike 16 = .ok (.iload_n 3, 1) := by decide +kernel
theorem dX9_mostAlike_17 : decode cX9_mostAlike 17 = .ok (.if_icmp .ge 61, 3) := by decide +kernel
theorem dX9_mostAlike_20 : decode cX9_mostAlike 20 = .ok (.aload_n 0, 1) := by decide +kernel
theorem dX9_mostAlike_21 : decode cX9_mostAlike 21 = .ok (.getfield 82, 3) := by decide +kernel
theorem dX9_mostAlike_24 : decode cX9_mostAlike 24 = .ok (.getfield 134, 3) := by decide +kernel
theorem dX9_mostAlike_27 : decode cX9_mostAlike 27 = .ok (.iload_n 1, 1) := by decide +kernel
theorem dX9_mostAlike_28 : decode cX9_mostAlike 28 = .ok (.aload_n 0, 1) := by decide +kernel
theorem dX9_mostAlike_29 : decode cX9_mostAlike 29 = .ok (.getfield 92, 3) := by decide +kernel
theorem dX9_mostAlike_32 : decode cX9_mostAlike 32 = .ok (.iload 5, 2) := by decide +kernel
theorem dX9_mostAlike_34 : decode cX9_mostAlike 34 = .ok (.iaload, 1) := by decide +kernel
theorem dX9_mostAlike_35 : decode cX9_mostAlike 35 = .ok (.iastore, 1) := by decide +kernel
theorem dX9_mostAlike_36 : decode cX9_mostAlike 36 = .ok (.aload_n 0, 1) := by decide +kernel
theorem dX9_mostAlike_37 : decode cX9_mostAlike 37 = .ok (.getfield 86, 3) := by decide +kernel
theorem dX9_mostAlike_40 : decode cX9_mostAlike 40 = .ok (.iload_n 1, 1) := by decide +kernel
theorem dX9_mostAlike_41 : decode cX9_mostAlike 41 = .ok (.iload_n 2, 1) := by decide +kernel
theorem dX9_mostAlike_42 : decode cX9_mostAlike 42 = .ok (.invokevirtual 404, 3) := by decide +kernel
theorem dX9_mostAlike_45 : decode cX9_mostAlike 45 = .ok (.istore 6, 2) := by decide +kernel
theorem dX9_mostAlike_47 : decode cX9_mostAlike 47 = .ok (.aload_n 0, 1) := by decide +kernel
theorem dX9_mostAlike_48 : decode cX9_mostAlike 48 = .ok (.getfield 96, 3) := by decide +kernel
theorem dX9_mostAlike_51 : decode cX9_mostAlike 51 = .ok (.iload 6, 2) := by decide +kernel
theorem dX9_mostAlike_53 : decode cX9_mostAlike 53 = .ok (.dup2, 1) := by decide +kernel
theorem dX9_mostAlike_54 : decode cX9_mostAlike 54 = .ok (.iaload, 1) := by decide +kernel
theorem dX9_mostAlike_55 : decode cX9_mostAlike 55 = .ok (.iconst 1, 1) := by decide +kernel
theorem dX9_mostAlike_56 : decode cX9_mostAlike 56 = .ok (.iadd, 1) := by decide +kernel
theorem dX9_mostAlike_57 : decode cX9_mostAlike 57 = .ok (.iastore, 1) := by decide +kernel
theorem dX9_mostAlike_58 : decode cX9_mostAlike 58 = .ok (.iload 4, 2) := by decide +kernel
theorem dX9_mostAlike_60 : decode cX9_mostAlike 60 = .ok (.aload_n 0, 1) := by decide +kernel
theorem dX9_mostAlike_61 : decode cX9_mostAlike 61 = .ok (.getfield 96, 3) := by decide +kernel
theorem dX9_mostAlike_64 : decode cX9_mostAlike 64 = .ok (.iload 6, 2) := by decide +kernel
theorem dX9_mostAlike_66 : decode cX9_mostAlike 66 = .ok (.iaload, 1) := by decide +kernel
theorem dX9_mostAlike_67 : decode cX9_mostAlike 67 = .ok (.invokestatic 413, 3) := by decide +kernel
theorem dX9_mostAlike_70 : decode cX9_mostAlike 70 = .ok (.istore 4, 2) := by decide +kernel
theorem dX9_mostAlike_72 : decode cX9_mostAlike 72 = .ok (.iinc 5 1, 3) := by decide +kernel
theorem dX9_mostAlike_75 : decode cX9_mostAlike 75 = .ok (.goto (-61), 3) := by decide +kernel
theorem dX9_mostAlike_78 : decode cX9_mostAlike 78 = .ok (.iload 4, 2) := by decide +kernel
theorem dX9_mostAlike_80 : decode cX9_mostAlike 80 = .ok (.ireturn, 1) := by decide +kernel
theorem dX10_within_0 : decode cX10_within 0 = .ok (.lload_n 0, 1) := by decide +kernel
theorem dX10_within_1 : decode cX10_within 1 = .ok (.lload_n 2, 1) := by decide +kernel
theorem dX10_within_2 : decode cX10_within 2 = .ok (.lcmp, 1) := by decide +kernel
theorem dX10_within_3 : decode cX10_within 3 = .ok (.ifCond .lt 14, 3) := by decide +kernel
theorem dX10_within_6 : decode cX10_within 6 = .ok (.lload_n 0, 1) := by decide +kernel
theorem dX10_within_7 : decode cX10_within 7 = .ok (.lload 4, 2) := by decide +kernel
theorem dX10_within_9 : decode cX10_within 9 = .ok (.lcmp, 1) := by decide +kernel
theorem dX10_within_10 : decode cX10_within 10 = .ok (.ifCond .gt 7, 3) := by decide +kernel
theorem dX10_within_13 : decode cX10_within 13 = .ok (.iconst 1, 1) := by decide +kernel
theorem dX10_within_14 : decode cX10_within 14 = .ok (.goto 4, 3) := by decide +kernel
theorem dX10_within_17 : decode cX10_within 17 = .ok (.iconst 0, 1) := by decide +kernel
theorem dX10_within_18 : decode cX10_within 18 = .ok (.ireturn, 1) := by decide +kernel
theorem dX10_init_0 : decode cX10_init 0 = .ok (.aload_n 0, 1) := by decide +kernel
theorem dX10_init_1 : decode cX10_init 1 = .ok (.invokespecial 7, 3) := by decide +kernel
theorem dX10_init_4 : decode cX10_init 4 = .ok (.aload_n 0, 1) := by decide +kernel
theorem dX10_init_5 : decode cX10_init 5 = .ok (.sipush 4119, 3) := by decide +kernel
theorem dX10_init_8 : decode cX10_init 8 = .ok (.newarray .int, 2) := by decide +kernel
theorem dX10_init_10 : decode cX10_init 10 = .ok (.putfield 13, 3) := by decide +kernel
theorem dX10_init_13 : decode cX10_init 13 = .ok (.aload_n 0, 1) := by decide +kernel
theorem dX10_init_14 : decode cX10_init 14 = .ok (.iconst 2, 1) := by decide +kernel
theorem dX10_init_15 : decode cX10_init 15 = .ok (.newarray .boolean, 2) := by decide +kernel
theorem dX10_init_17 : decode cX10_init 17 = .ok (.putfield 17, 3) := by decide +kernel
theorem dX10_init_20 : decode cX10_init 20 = .ok (.aload_n 0, 1) := by decide +kernel
theorem dX10_init_21 : decode cX10_init 21 = .ok (.sipush 900, 3) := by decide +kernel
theorem dX10_init_24 : decode cX10_init 24 = .ok (.newarray .int, 2) := by decide +kernel
theorem dX10_init_26 : decode cX10_init 26 = .ok (.putfield 21, 3) := by decide +kernel
theorem dX10_init_29 : decode cX10_init 29 = .ok (.aload_n 0, 1) := by decide +kernel
theorem dX10_init_30 : decode cX10_init 30 = .ok (.sipush 1373, 3) := by decide +kernel
theorem dX10_init_33 : decode cX10_init 33 = .ok (.newarray .int, 2) := by decide +kernel
theorem dX10_init_35 : decode cX10_init 35 = .ok (.putfield 24, 3) := by decide +kernel
theorem dX10_init_38 : decode cX10_init 38 = .ok (.aload_n 0, 1) := by decide +kernel
theorem dX10_init_39 : decode cX10_init 39 = .ok (.iconst (-1), 1) := by decide +kernel
theorem dX10_init_40 : decode cX10_init 40 = .ok (.putfield 27, 3) := by decide +kernel
theorem dX10_init_43 : decode cX10_init 43 = .ok (.aload_n 0, 1) := by decide +kernel
theorem dX10_init_44 : decode cX10_init 44 = .ok (.sipush 900, 3) := by decide +kernel
theorem dX10_init_47 : decode cX10_init 47 = .ok (.newarray .int, 2) := by decide +kernel
theorem dX10_init_49 : decode cX10_init 49 = .ok (.putfield 30, 3) := by decide +kernel
theorem dX10_init_52 : decode cX10_init 52 = .ok (.aload_n 0, 1) := by decide +kernel
theorem dX10_init_53 : decode cX10_init 53 = .ok (.bipush 9, 2) := by decide +kernel
theorem dX10_init_55 : decode cX10_init 55 = .ok (.newarray .int, 2) := by decide +kernel
theorem dX10_init_57 : decode cX10_init 57 = .ok (.putfield 33, 3) := by decide +kernel
theorem dX10_init_60 : decode cX10_init 60 = .ok (.aload_n 0, 1) := by decide +kernel
theorem dX10_init_61 : decode cX10_init 61 = .ok (.ldc 36, 2) := by decide +kernel
theorem dX10_init_63 : decode cX10_init 63 = .ok (.newarray .int, 2) := by decide +kernel
theorem dX10_init_65 : decode cX10_init 65 = .ok (.putfield 37, 3) := by decide +kernel
theorem dX10_init_68 : decode cX10_init 68 = .ok (.aload_n 0, 1) := by decide +kernel
theorem dX10_init_69 : decode cX10_init 69 = .ok (.bipush 10, 2) := by decide +kernel
theorem dX10_init_71 : decode cX10_init 71 = .ok (.newarray .int, 2) := by decide +kernel
theorem dX10_init_73 : decode cX10_init 73 = .ok (.putfield 40, 3) := by decide +kernel
theorem dX10_init_76 : decode cX10_init 76 = .ok (.aload_n 0, 1) := by decide +kernel
theorem dX10_init_77 : decode cX10_init 77 = .ok (.bipush 10, 2) := by decide +kernel
theorem dX10_init_79 : decode cX10_init 79 = .ok (.newarray .int, 2) := by decide +kernel
theorem dX10_init_81 : decode cX10_init 81 = .ok (.putfield 43, 3) := by decide +kernel
theorem dX10_init_84 : decode cX10_init 84 = .ok (.aload_n 0, 1) := by decide +kernel
theorem dX10_init_85 : decode cX10_init 85 = .ok (.bipush 10, 2) := by decide +kernel
theorem dX10_init_87 : decode cX10_init 87 = .ok (.newarray .int, 2) := by decide +kernel
theorem dX10_init_89 : decode cX10_init 89 = .ok (.putfield 46, 3) := by decide +kernel
theorem dX10_init_92 : decode cX10_init 92 = .ok (.aload_n 0, 1) := by decide +kernel
theorem dX10_init_93 : decode cX10_init 93 = .ok (.bipush 36, 2) := by decide +kernel
theorem dX10_init_95 : decode cX10_init 95 = .ok (.newarray .int, 2) := by decide +kernel
theorem dX10_init_97 : decode cX10_init 97 = .ok (.putfield 49, 3) := by decide +kernel
theorem dX10_init_100 : decode cX10_init 100 = .ok (.aload_n 0, 1) := by decide +kernel
theorem dX10_init_101 : decode cX10_init 101 = .ok (.bipush 100, 2) := by decide +kernel
theorem dX10_init_103 : decode cX10_init 103 = .ok (.newarray .int, 2) := by decide +kernel
theorem dX10_init_105 : decode cX10_init 105 = .ok (.putfield 52, 3) := by decide +kernel
theorem dX10_init_108 : decode cX10_init 108 = .ok (.aload_n 0, 1) := by decide +kernel
theorem dX10_init_109 : decode cX10_init 109 = .ok (.bipush 100, 2) := by decide +kernel
theorem dX10_init_111 : decode cX10_init 111 = .ok (.newarray .int, 2) := by decide +kernel
theorem dX10_init_113 : decode cX10_init 113 = .ok (.putfield 55, 3) := by decide +kernel
theorem dX10_init_116 : decode cX10_init 116 = .ok (.aload_n 0, 1) := by decide +kernel
theorem dX10_init_117 : decode cX10_init 117 = .ok (.sipush 640, 3) := by decide +kernel
theorem dX10_init_120 : decode cX10_init 120 = .ok (.newarray .int, 2) := by decide +kernel
theorem dX10_init_122 : decode cX10_init 122 = .ok (.putfield 58, 3) := by decide +kernel
theorem dX10_init_125 : decode cX10_init 125 = .ok (.aload_n 0, 1) := by decide +kernel
theorem dX10_init_126 : decode cX10_init 126 = .ok (.sipush 640, 3) := by decide +kernel
theorem dX10_init_129 : decode cX10_init 129 = .ok (.newarray .int, 2) := by decide +kernel
theorem dX10_init_131 : decode cX10_init 131 = .ok (.putfield 61, 3) := by decide +kernel
theorem dX10_init_134 : decode cX10_init 134 = .ok (.aload_n 0, 1) := by decide +kernel
theorem dX10_init_135 : decode cX10_init 135 = .ok (.sipush 640, 3) := by decide +kernel
theorem dX10_init_138 : decode cX10_init 138 = .ok (.newarray .int, 2) := by decide +kernel
theorem dX10_init_140 : decode cX10_init 140 = .ok (.putfield 64, 3) := by decide +kernel
theorem dX10_init_143 : decode cX10_init 143 = .ok (.aload_n 0, 1) := by decide +kernel
theorem dX10_init_144 : decode cX10_init 144 = .ok (.sipush 640, 3) := by decide +kernel
theorem dX10_init_147 : decode cX10_init 147 = .ok (.newarray .int, 2) := by decide +kernel
theorem dX10_init_149 : decode cX10_init 149 = .ok (.putfield 67, 3) := by decide +kernel
theorem dX10_init_152 : decode cX10_init 152 = .ok (.aload_n 0, 1) := by decide +kernel
theorem dX10_init_153 : decode cX10_init 153 = .ok (.sipush 640, 3) := by decide +kernel
theorem dX10_init_156 : decode cX10_init 156 = .ok (.newarray .int, 2) := by decide +kernel
theorem dX10_init_158 : decode cX10_init 158 = .ok (.putfield 70, 3) := by decide +kernel
theorem dX10_init_161 : decode cX10_init 161 = .ok (.aload_n 0, 1) := by decide +kernel
theorem dX10_init_162 : decode cX10_init 162 = .ok (.sipush 640, 3) := by decide +kernel
theorem dX10_init_165 : decode cX10_init 165 = .ok (.newarray .int, 2) := by decide +kernel
theorem dX10_init_167 : decode cX10_init 167 = .ok (.putfield 73, 3) := by decide +kernel
theorem dX10_init_170 : decode cX10_init 170 = .ok (.aload_n 0, 1) := by decide +kernel
theorem dX10_init_171 : decode cX10_init 171 = .ok (.bipush 6, 2) := by decide +kernel
theorem dX10_init_173 : decode cX10_init 173 = .ok (.newarray .int, 2) := by decide +kernel
theorem dX10_init_175 : decode cX10_init 175 = .ok (.putfield 76, 3) := by decide +kernel
theorem dX10_init_178 : decode cX10_init 178 = .ok (.aload_n 0, 1) := by decide +kernel
theorem dX10_init_179 : decode cX10_init 179 = .ok (.bipush 10, 2) := by decide +kernel
theorem dX10_init_181 : decode cX10_init 181 = .ok (.newarray .boolean, 2) := by decide +kernel
theorem dX10_init_183 : decode cX10_init 183 = .ok (.putfield 79, 3) := by decide +kernel
theorem dX10_init_186 : decode cX10_init 186 = .ok (.aload_n 0, 1) := by decide +kernel
theorem dX10_init_187 : decode cX10_init 187 = .ok (.bipush 40, 2) := by decide +kernel
theorem dX10_init_189 : decode cX10_init 189 = .ok (.newarray .int, 2) := by decide +kernel
theorem dX10_init_191 : decode cX10_init 191 = .ok (.putfield 82, 3) := by decide +kernel
theorem dX10_init_194 : decode cX10_init 194 = .ok (.aload_n 0, 1) := by decide +kernel
theorem dX10_init_195 : decode cX10_init 195 = .ok (.bipush 21, 2) := by decide +kernel
theorem dX10_init_197 : decode cX10_init 197 = .ok (.newarray .int, 2) := by decide +kernel
theorem dX10_init_199 : decode cX10_init 199 = .ok (.putfield 85, 3) := by decide +kernel
theorem dX10_init_202 : decode cX10_init 202 = .ok (.aload_n 0, 1) := by decide +kernel
theorem dX10_init_203 : decode cX10_init 203 = .ok (.bipush 6, 2) := by decide +kernel
theorem dX10_init_205 : decode cX10_init 205 = .ok (.newarray .long, 2) := by decide +kernel
theorem dX10_init_207 : decode cX10_init 207 = .ok (.putfield 88, 3) := by decide +kernel
theorem dX10_init_210 : decode cX10_init 210 = .ok (.aload_n 0, 1) := by decide +kernel
theorem dX10_init_211 : decode cX10_init 211 = .ok (.bipush 6, 2) := by decide +kernel
theorem dX10_init_213 : decode cX10_init 213 = .ok (.newarray .long, 2) := by decide +kernel
theorem dX10_init_215 : decode cX10_init 215 = .ok (.putfield 92, 3) := by decide +kernel
theorem dX10_init_218 : decode cX10_init 218 = .ok (.aload_n 0, 1) := by decide +kernel
theorem dX10_init_219 : decode cX10_init 219 = .ok (.iconst 4, 1) := by decide +kernel
theorem dX10_init_220 : decode cX10_init 220 = .ok (.newarray .int, 2) := by decide +kernel
theorem dX10_init_222 : decode cX10_init 222 = .ok (.dup, 1) := by decide +kernel
theorem dX10_init_223 : decode cX10_init 223 = .ok (.iconst 0, 1) := by decide +kernel
theorem dX10_init_224 : decode cX10_init 224 = .ok (.iconst (-1), 1) := by decide +kernel
theorem dX10_init_225 : decode cX10_init 225 = .ok (.iastore, 1) := by decide +kernel
theorem dX10_init_226 : decode cX10_init 226 = .ok (.dup, 1) := by decide +kernel
theorem dX10_init_227 : decode cX10_init 227 = .ok (.iconst 1, 1) := by decide +kernel
theorem dX10_init_228 : decode cX10_init 228 = .ok (.iconst (-1), 1) := by decide +kernel
theorem dX10_init_229 : decode cX10_init 229 = .ok (.iastore, 1) := by decide +kernel
theorem dX10_init_230 : decode cX10_init 230 = .ok (.dup, 1) := by decide +kernel
theorem dX10_init_231 : decode cX10_init 231 = .ok (.iconst 2, 1) := by decide +kernel
theorem dX10_init_232 : decode cX10_init 232 = .ok (.iconst (-1), 1) := by decide +kernel
theorem dX10_init_233 : decode cX10_init 233 = .ok (.iastore, 1) := by decide +kernel
theorem dX10_init_234 : decode cX10_init 234 = .ok (.dup, 1) := by decide +kernel
theorem dX10_init_235 : decode cX10_init 235 = .ok (.iconst 3, 1) := by decide +kernel
theorem dX10_init_236 : decode cX10_init 236 = .ok (.iconst (-1), 1) := by decide +kernel
theorem dX10_init_237 : decode cX10_init 237 = .ok (.iastore, 1) := by decide +kernel
theorem dX10_init_238 : decode cX10_init 238 = .ok (.putfield 95, 3) := by decide +kernel
theorem dX10_init_241 : decode cX10_init 241 = .ok (.aload_n 0, 1) := by decide +kernel
theorem dX10_init_242 : decode cX10_init 242 = .ok (.iconst 4, 1) := by decide +kernel
theorem dX10_init_243 : decode cX10_init 243 = .ok (.newarray .int, 2) := by decide +kernel
theorem dX10_init_245 : decode cX10_init 245 = .ok (.putfield 98, 3) := by decide +kernel
theorem dX10_init_248 : decode cX10_init 248 = .ok (.aload_n 0, 1) := by decide +kernel
theorem dX10_init_249 : decode cX10_init 249 = .ok (.sipush 160, 3) := by decide +kernel
theorem dX10_init_252 : decode cX10_init 252 = .ok (.newarray .long, 2) := by decide +kernel
theorem dX10_init_254 : decode cX10_init 254 = .ok (.putfield 101, 3) := by decide +kernel
theorem dX10_init_257 : decode cX10_init 257 = .ok (.aload_n 0, 1) := by decide +kernel
theorem dX10_init_258 : decode cX10_init 258 = .ok (.getfield 13, 3) := by decide +kernel
theorem dX10_init_261 : decode cX10_init 261 = .ok (.invokestatic 104, 3) := by decide +kernel
theorem dX10_init_264 : decode cX10_init 264 = .ok (.return_, 1) := by decide +kernel
theorem dX10_plain_0 : decode cX10_plain 0 = .ok (.iconst 0, 1) := by decide +kernel
theorem dX10_plain_1 : decode cX10_plain 1 = .ok (.istore_n 1, 1) := by decide +kernel
theorem dX10_plain_2 : decode cX10_plain 2 = .ok (.iload_n 1, 1) := by decide +kernel
theorem dX10_plain_3 : decode cX10_plain 3 = .ok (.sipush 1373, 3) := by decide +kernel
theorem dX10_plain_6 : decode cX10_plain 6 = .ok (.if_icmp .ge 13, 3) := by decide +kernel
theorem dX10_plain_9 : decode cX10_plain 9 = .ok (.aload_n 0, 1) := by decide +kernel
theorem dX10_plain_10 : decode cX10_plain 10 = .ok (.iload_n 1, 1) := by decide +kernel
theorem dX10_plain_11 : decode cX10_plain 11 = .ok (.iconst 0, 1) := by decide +kernel
theorem dX10_plain_12 : decode cX10_plain 12 = .ok (.iastore, 1) := by decide +kernel
theorem dX10_plain_13 : decode cX10_plain 13 = .ok (.iinc 1 1, 3) := by decide +kernel
theorem dX10_plain_16 : decode cX10_plain 16 = .ok (.goto (-14), 3) := by decide +kernel
theorem dX10_plain_19 : decode cX10_plain 19 = .ok (.aload_n 0, 1) := by decide +kernel
theorem dX10_plain_20 : decode cX10_plain 20 = .ok (.iconst 1, 1) := by decide +kernel
theorem dX10_plain_21 : decode cX10_plain 21 = .ok (.iconst 1, 1) := by decide +kernel
theorem dX10_plain_22 : decode cX10_plain 22 = .ok (.iastore, 1) := by decide +kernel
theorem dX10_plain_23 : decode cX10_plain 23 = .ok (.aload_n 0, 1) := by decide +kernel
theorem dX10_plain_24 : decode cX10_plain 24 = .ok (.iconst 2, 1) := by decide +kernel
theorem dX10_plain_25 : decode cX10_plain 25 = .ok (.iconst 1, 1) := by decide +kernel
theorem dX10_plain_26 : decode cX10_plain 26 = .ok (.iastore, 1) := by decide +kernel
theorem dX10_plain_27 : decode cX10_plain 27 = .ok (.return_, 1) := by decide +kernel
theorem dX10_feed_0 : decode cX10_feed 0 = .ok (.aload_n 0, 1) := by decide +kernel
theorem dX10_feed_1 : decode cX10_feed 1 = .ok (.iconst 0, 1) := by decide +kernel
theorem dX10_feed_2 : decode cX10_feed 2 = .ok (.putfield 1, 3) := by decide +kernel
theorem dX10_feed_5 : decode cX10_feed 5 = .ok (.aload_n 0, 1) := by decide +kernel
theorem dX10_feed_6 : decode cX10_feed 6 = .ok (.getfield 108, 3) := by decide +kernel
theorem dX10_feed_9 : decode cX10_feed 9 = .ok (.bipush 20, 2) := by decide +kernel
theorem dX10_feed_11 : decode cX10_feed 11 = .ok (.iadd, 1) := by decide +kernel
theorem dX10_feed_12 : decode cX10_feed 12 = .ok (.sipush 900, 3) := by decide +kernel
theorem dX10_feed_15 : decode cX10_feed 15 = .ok (.if_icmp .le 6, 3) := by decide +kernel
theorem dX10_feed_18 : decode cX10_feed 18 = .ok (.bipush (-5), 2) := by decide +kernel
theorem dX10_feed_20 : decode cX10_feed 20 = .ok (.ireturn, 1) := by decide +kernel
theorem dX10_feed_21 : decode cX10_feed 21 = .ok (.iconst 0, 1) := by decide +kernel
theorem dX10_feed_22 : decode cX10_feed 22 = .ok (.istore 6, 2) := by decide +kernel
theorem dX10_feed_24 : decode cX10_feed 24 = .ok (.iload 6, 2) := by decide +kernel
theorem dX10_feed_26 : decode cX10_feed 26 = .ok (.bipush 20, 2) := by decide +kernel
theorem dX10_feed_28 : decode cX10_feed 28 = .ok (.if_icmp .ge 93, 3) := by decide +kernel
theorem dX10_feed_31 : decode cX10_feed 31 = .ok (.iload 6, 2) := by decide +kernel
theorem dX10_feed_33 : decode cX10_feed 33 = .ok (.iconst 4, 1) := by decide +kernel
theorem dX10_feed_34 : decode cX10_feed 34 = .ok (.if_icmp .ge 7, 3) := by decide +kernel
theorem dX10_feed_37 : decode cX10_feed 37 = .ok (.iload_n 1, 1) := by decide +kernel
theorem dX10_feed_38 : decode cX10_feed 38 = .ok (.goto 39, 3) := by decide +kernel
theorem dX10_feed_41 : decode cX10_feed 41 = .ok (.iload 6, 2) := by decide +kernel
theorem dX10_feed_43 : decode cX10_feed 43 = .ok (.bipush 8, 2) := by decide +kernel
theorem dX10_feed_45 : decode cX10_feed 45 = .ok (.if_icmp .ge 7, 3) := by decide +kernel
theorem dX10_feed_48 : decode cX10_feed 48 = .ok (.iload_n 2, 1) := by decide +kernel
theorem dX10_feed_49 : decode cX10_feed 49 = .ok (.goto 28, 3) := by decide +kernel
theorem dX10_feed_52 : decode cX10_feed 52 = .ok (.iload 6, 2) := by decide +kernel
theorem dX10_feed_54 : decode cX10_feed 54 = .ok (.bipush 12, 2) := by decide +kernel
theorem dX10_feed_56 : decode cX10_feed 56 = .ok (.if_icmp .ge 7, 3) := by decide +kernel
theorem dX10_feed_59 : decode cX10_feed 59 = .ok (.iload_n 3, 1) := by decide +kernel
theorem dX10_feed_60 : decode cX10_feed 60 = .ok (.goto 17, 3) := by decide +kernel
theorem dX10_feed_63 : decode cX10_feed 63 = .ok (.iload 6, 2) := by decide +kernel
theorem dX10_feed_65 : decode cX10_feed 65 = .ok (.bipush 16, 2) := by decide +kernel
theorem dX10_feed_67 : decode cX10_feed 67 = .ok (.if_icmp .ge 8, 3) := by decide +kernel
theorem dX10_feed_70 : decode cX10_feed 70 = .ok (.iload 4, 2) := by decide +kernel
theorem dX10_feed_72 : decode cX10_feed 72 = .ok (.goto 5, 3) := by decide +kernel
theorem dX10_feed_75 : decode cX10_feed 75 = .ok (.iload 5, 2) := by decide +kernel
theorem dX10_feed_77 : decode cX10_feed 77 = .ok (.istore 7, 2) := by decide +kernel
theorem dX10_feed_79 : decode cX10_feed 79 = .ok (.aload_n 0, 1) := by decide +kernel
theorem dX10_feed_80 : decode cX10_feed 80 = .ok (.getfield 21, 3) := by decide +kernel
theorem dX10_feed_83 : decode cX10_feed 83 = .ok (.aload_n 0, 1) := by decide +kernel
theorem dX10_feed_84 : decode cX10_feed 84 = .ok (.getfield 108, 3) := by decide +kernel
theorem dX10_feed_87 : decode cX10_feed 87 = .ok (.iload 7, 2) := by decide +kernel
theorem dX10_feed_89 : decode cX10_feed 89 = .ok (.bipush 24, 2) := by decide +kernel
theorem dX10_feed_91 : decode cX10_feed 91 = .ok (.bipush 8, 2) := by decide +kernel
theorem dX10_feed_93 : decode cX10_feed 93 = .ok (.iload 6, 2) := by decide +kernel
theorem dX10_feed_95 : decode cX10_feed 95 = .ok (.iconst 4, 1) := by decide +kernel
theorem dX10_feed_96 : decode cX10_feed 96 = .ok (.irem, 1) := by decide +kernel
theorem dX10_feed_97 : decode cX10_feed 97 = .ok (.imul, 1) := by decide +kernel
theorem dX10_feed_98 : decode cX10_feed 98 = .ok (.isub, 1) := by decide +kernel
theorem dX10_feed_99 : decode cX10_feed 99 = .ok (.ishr, 1) := by decide +kernel
theorem dX10_feed_100 : decode cX10_feed 100 = .ok (.sipush 255, 3) := by decide +kernel
theorem dX10_feed_103 : decode cX10_feed 103 = .ok (.iand, 1) := by decide +kernel
theorem dX10_feed_104 : decode cX10_feed 104 = .ok (.iastore, 1) := by decide +kernel
theorem dX10_feed_105 : decode cX10_feed 105 = .ok (.aload_n 0, 1) := by decide +kernel
theorem dX10_feed_106 : decode cX10_feed 106 = .ok (.dup, 1) := by decide +kernel
theorem dX10_feed_107 : decode cX10_feed 107 = .ok (.getfield 108, 3) := by decide +kernel
theorem dX10_feed_110 : decode cX10_feed 110 = .ok (.iconst 1, 1) := by decide +kernel
theorem dX10_feed_111 : decode cX10_feed 111 = .ok (.iadd, 1) := by decide +kernel
theorem dX10_feed_112 : decode cX10_feed 112 = .ok (.putfield 108, 3) := by decide +kernel
theorem dX10_feed_115 : decode cX10_feed 115 = .ok (.iinc 6 1, 3) := by decide +kernel
theorem dX10_feed_118 : decode cX10_feed 118 = .ok (.goto (-94), 3) := by decide +kernel
theorem dX10_feed_121 : decode cX10_feed 121 = .ok (.aload_n 0, 1) := by decide +kernel
theorem dX10_feed_122 : decode cX10_feed 122 = .ok (.getfield 108, 3) := by decide +kernel
theorem dX10_feed_125 : decode cX10_feed 125 = .ok (.ireturn, 1) := by decide +kernel
theorem dX10_see_0 : decode cX10_see 0 = .ok (.iload_n 1, 1) := by decide +kernel
theorem dX10_see_1 : decode cX10_see 1 = .ok (.aload_n 0, 1) := by decide +kernel
theorem dX10_see_2 : decode cX10_see 2 = .ok (.getfield 111, 3) := by decide +kernel
theorem dX10_see_5 : decode cX10_see 5 = .ok (.if_icmp .ge 12, 3) := by decide +kernel
theorem dX10_see_8 : decode cX10_see 8 = .ok (.aload_n 0, 1) := by decide +kernel
theorem dX10_see_9 : decode cX10_see 9 = .ok (.getfield 21, 3) := by decide +kernel
theorem dX10_see_12 : decode cX10_see 12 = .ok (.iload_n 1, 1) := by decide +kernel
theorem dX10_see_13 : decode cX10_see 13 = .ok (.iaload, 1) := by decide +kernel
theorem dX10_see_14 : decode cX10_see 14 = .ok (.goto 4, 3) := by decide +kernel
theorem dX10_see_17 : decode cX10_see 17 = .ok (.iconst (-1), 1) := by decide +kernel
theorem dX10_see_18 : decode cX10_see 18 = .ok (.ireturn, 1) := by decide +kernel
theorem dX10_isSmall_0 : decode cX10_isSmall 0 = .ok (.iload_n 0, 1) := by decide +kernel
theorem dX10_isSmall_1 : decode cX10_isSmall 1 = .ok (.bipush 97, 2) := by decide +kernel
theorem dX10_isSmall_3 : decode cX10_isSmall 3 = .ok (.if_icmp .lt 13, 3) := by decide +kernel
theorem dX10_isSmall_6 : decode cX10_isSmall 6 = .ok (.iload_n 0, 1) := by decide +kernel
theorem dX10_isSmall_7 : decode cX10_isSmall 7 = .ok (.bipush 122, 2) := by decide +kernel
theorem dX10_isSmall_9 : decode cX10_isSmall 9 = .ok (.if_icmp .gt 7, 3) := by decide +kernel
theorem dX10_isSmall_12 : decode cX10_isSmall 12 = .ok (.iconst 1, 1) := by decide +kernel
theorem dX10_isSmall_13 : decode cX10_isSmall 13 = .ok (.goto 4, 3) := by decide +kernel
theorem dX10_isSmall_16 : decode cX10_isSmall 16 = .ok (.iconst 0, 1) := by decide +kernel
theorem dX10_isSmall_17 : decode cX10_isSmall 17 = .ok (.ireturn, 1) := by decide +kernel
theorem dX10_isDigit_0 : decode cX10_isDigit 0 = .ok (.iload_n 0, 1) := by decide +kernel
theorem dX10_isDigit_1 : decode cX10_isDigit 1 = .ok (.bipush 48, 2) := by decide +kernel
theorem dX10_isDigit_3 : decode cX10_isDigit 3 = .ok (.if_icmp .lt 13, 3) := by decide +kernel
theorem dX10_isDigit_6 : decode cX10_isDigit 6 = .ok (.iload_n 0, 1) := by decide +kernel
theorem dX10_isDigit_7 : decode cX10_isDigit 7 = .ok (.bipush 57, 2) := by decide +kernel
theorem dX10_isDigit_9 : decode cX10_isDigit 9 = .ok (.if_icmp .gt 7, 3) := by decide +kernel
theorem dX10_isDigit_12 : decode cX10_isDigit 12 = .ok (.iconst 1, 1) := by decide +kernel
theorem dX10_isDigit_13 : decode cX10_isDigit 13 = .ok (.goto 4, 3) := by decide +kernel
theorem dX10_isDigit_16 : decode cX10_isDigit 16 = .ok (.iconst 0, 1) := by decide +kernel
theorem dX10_isDigit_17 : decode cX10_isDigit 17 = .ok (.ireturn, 1) := by decide +kernel
theorem dX10_keyAt_0 : decode cX10_keyAt 0 = .ok (.iconst 0, 1) := by decide +kernel
theorem dX10_keyAt_1 : decode cX10_keyAt 1 = .ok (.istore_n 1, 1) := by decide +kernel
theorem dX10_keyAt_2 : decode cX10_keyAt 2 = .ok (.iconst 1, 1) := by decide +kernel
theorem dX10_keyAt_3 : decode cX10_keyAt 3 = .ok (.istore_n 2, 1) := by decide +kernel
theorem dX10_keyAt_4 : decode cX10_keyAt 4 = .ok (.iload_n 2, 1) := by decide +kernel
theorem dX10_keyAt_5 : decode cX10_keyAt 5 = .ok (.ldc 114, 2) := by decide +kernel
theorem dX10_keyAt_7 : decode cX10_keyAt 7 = .ok (.invokevirtual 116, 3) := by decide +kernel
theorem dX10_keyAt_10 : decode cX10_keyAt 10 = .ok (.if_icmp .ge 113, 3) := by decide +kernel
theorem dX10_keyAt_13 : decode cX10_keyAt 13 = .ok (.iconst 0, 1) := by decide +kernel
theorem dX10_keyAt_14 : decode cX10_keyAt 14 = .ok (.istore_n 3, 1) := by decide +kernel
theorem dX10_keyAt_15 : decode cX10_keyAt 15 = .ok (.ldc 114, 2) := by decide +kernel
theorem dX10_keyAt_17 : decode cX10_keyAt 17 = .ok (.iload_n 2, 1) := by decide +kernel
theorem dX10_keyAt_18 : decode cX10_keyAt 18 = .ok (.iload_n 3, 1) := by decide +kernel
theorem dX10_keyAt_19 : decode cX10_keyAt 19 = .ok (.iadd, 1) := by decide +kernel
theorem dX10_keyAt_20 : decode cX10_keyAt 20 = .ok (.invokevirtual 122, 3) := by decide +kernel
theorem dX10_keyAt_23 : decode cX10_keyAt 23 = .ok (.bipush 32, 2) := by decide +kernel
theorem dX10_keyAt_25 : decode cX10_keyAt 25 = .ok (.if_icmp .eq 44, 3) := by decide +kernel
theorem dX10_keyAt_28 : decode cX10_keyAt 28 = .ok (.aload_n 0, 1) := by decide +kernel
theorem dX10_keyAt_29 : decode cX10_keyAt 29 = .ok (.getfield 126, 3) := by decide +kernel
theorem dX10_keyAt_32 : decode cX10_keyAt 32 = .ok (.iload_n 3, 1) := by decide +kernel
theorem dX10_keyAt_33 : decode cX10_keyAt 33 = .ok (.iadd, 1) := by decide +kernel
theorem dX10_keyAt_34 : decode cX10_keyAt 34 = .ok (.aload_n 0, 1) := by decide +kernel
theorem dX10_keyAt_35 : decode cX10_keyAt 35 = .ok (.getfield 129, 3) := by decide +kernel
theorem dX10_keyAt_38 : decode cX10_keyAt 38 = .ok (.if_icmp .ge 31, 3) := by decide +kernel
theorem dX10_keyAt_41 : decode cX10_keyAt 41 = .ok (.aload_n 0, 1) := by decide +kernel
theorem dX10_keyAt_42 : decode cX10_keyAt 42 = .ok (.getfield 21, 3) := by decide +kernel
theorem dX10_keyAt_45 : decode cX10_keyAt 45 = .ok (.aload_n 0, 1) := by decide +kernel
theorem dX10_keyAt_46 : decode cX10_keyAt 46 = .ok (.getfield 126, 3) := by decide +kernel
theorem dX10_keyAt_49 : decode cX10_keyAt 49 = .ok (.iload_n 3, 1) := by decide +kernel
theorem dX10_keyAt_50 : decode cX10_keyAt 50 = .ok (.iadd, 1) := by decide +kernel
theorem dX10_keyAt_51 : decode cX10_keyAt 51 = .ok (.iaload, 1) := by decide +kernel
theorem dX10_keyAt_52 : decode cX10_keyAt 52 = .ok (.ldc 114, 2) := by decide +kernel
theorem dX10_keyAt_54 : decode cX10_keyAt 54 = .ok (.iload_n 2, 1) := by decide +kernel
theorem dX10_keyAt_55 : decode cX10_keyAt 55 = .ok (.iload_n 3, 1) := by decide +kernel
theorem dX10_keyAt_56 : decode cX10_keyAt 56 = .ok (.iadd, 1) := by decide +kernel
theorem dX10_keyAt_57 : decode cX10_keyAt 57 = .ok (.invokevirtual 122, 3) := by decide +kernel
theorem dX10_keyAt_60 : decode cX10_keyAt 60 = .ok (.if_icmp .ne 9, 3) := by decide +kernel
theorem dX10_keyAt_63 : decode cX10_keyAt 63 = .ok (.iinc 3 1, 3) := by decide +kernel
theorem dX10_keyAt_66 : decode cX10_keyAt 66 = .ok (.goto (-51), 3) := by decide +kernel
theorem dX10_keyAt_69 : decode cX10_keyAt 69 = .ok (.ldc 114, 2) := by decide +kernel
theorem dX10_keyAt_71 : decode cX10_keyAt 71 = .ok (.iload_n 2, 1) := by decide +kernel
theorem dX10_keyAt_72 : decode cX10_keyAt 72 = .ok (.iload_n 3, 1) := by decide +kernel
theorem dX10_keyAt_73 : decode cX10_keyAt 73 = .ok (.iadd, 1) := by decide +kernel
theorem dX10_keyAt_74 : decode cX10_keyAt 74 = .ok (.invokevirtual 122, 3) := by decide +kernel
theorem dX10_keyAt_77 : decode cX10_keyAt 77 = .ok (.bipush 32, 2) := by decide +kernel
theorem dX10_keyAt_79 : decode cX10_keyAt 79 = .ok (.if_icmp .ne 18, 3) := by decide +kernel
theorem dX10_keyAt_82 : decode cX10_keyAt 82 = .ok (.aload_n 0, 1) := by decide +kernel
theorem dX10_keyAt_83 : decode cX10_keyAt 83 = .ok (.getfield 126, 3) := by decide +kernel
theorem dX10_keyAt_86 : decode cX10_keyAt 86 = .ok (.iload_n 3, 1) := by decide +kernel
theorem dX10_keyAt_87 : decode cX10_keyAt 87 = .ok (.iadd, 1) := by decide +kernel
theorem dX10_keyAt_88 : decode cX10_keyAt 88 = .ok (.aload_n 0, 1) := by decide +kernel
theorem dX10_keyAt_89 : decode cX10_keyAt 89 = .ok (.getfield 129, 3) := by decide +kernel
theorem dX10_keyAt_92 : decode cX10_keyAt 92 = .ok (.if_icmp .ne 5, 3) := by decide +kernel
theorem dX10_keyAt_95 : decode cX10_keyAt 95 = .ok (.iload_n 1, 1) := by decide +kernel
theorem dX10_keyAt_96 : decode cX10_keyAt 96 = .ok (.ireturn, 1) := by decide +kernel
theorem dX10_keyAt_97 : decode cX10_keyAt 97 = .ok (.ldc 114, 2) := by decide +kernel
theorem dX10_keyAt_99 : decode cX10_keyAt 99 = .ok (.iload_n 2, 1) := by decide +kernel
theorem dX10_keyAt_100 : decode cX10_keyAt 100 = .ok (.invokevirtual 122, 3) := by decide +kernel
theorem dX10_keyAt_103 : decode cX10_keyAt 103 = .ok (.bipush 32, 2) := by decide +kernel
theorem dX10_keyAt_105 : decode cX10_keyAt 105 = .ok (.if_icmp .eq 9, 3) := by decide +kernel
theorem dX10_keyAt_108 : decode cX10_keyAt 108 = .ok (.iinc 2 1, 3) := by decide +kernel
theorem dX10_keyAt_111 : decode cX10_keyAt 111 = .ok (.goto (-14), 3) := by decide +kernel
theorem dX10_keyAt_114 : decode cX10_keyAt 114 = .ok (.iinc 2 1, 3) := by decide +kernel
theorem dX10_keyAt_117 : decode cX10_keyAt 117 = .ok (.iinc 1 1, 3) := by decide +kernel
theorem dX10_keyAt_120 : decode cX10_keyAt 120 = .ok (.goto (-116), 3) := by decide +kernel
theorem dX10_keyAt_123 : decode cX10_keyAt 123 = .ok (.bipush 24, 2) := by decide +kernel
theorem dX10_keyAt_125 : decode cX10_keyAt 125 = .ok (.ireturn, 1) := by decide +kernel
theorem dX10_next_0 : decode cX10_next 0 = .ok (.aload_n 0, 1) := by decide +kernel
theorem dX10_next_1 : decode cX10_next 1 = .ok (.aload_n 0, 1) := by decide +kernel
theorem dX10_next_2 : decode cX10_next 2 = .ok (.getfield 129, 3) := by decide +kernel
theorem dX10_next_5 : decode cX10_next 5 = .ok (.putfield 126, 3) := by decide +kernel
theorem dX10_next_8 : decode cX10_next 8 = .ok (.aload_n 0, 1) := by decide +kernel
theorem dX10_next_9 : decode cX10_next 9 = .ok (.aload_n 0, 1) := by decide +kernel
theorem dX10_next_10 : decode cX10_next 10 = .ok (.getfield 126, 3) := by decide +kernel
theorem dX10_next_13 : decode cX10_next 13 = .ok (.invokevirtual 132, 3) := by decide +kernel
theorem dX10_next_16 : decode cX10_next 16 = .ok (.bipush 10, 2) := by decide +kernel
theorem dX10_next_18 : decode cX10_next 18 = .ok (.if_icmp .eq 16, 3) := by decide +kernel
theorem dX10_next_21 : decode cX10_next 21 = .ok (.aload_n 0, 1) := by decide +kernel
theorem dX10_next_22 : decode cX10_next 22 = .ok (.aload_n 0, 1) := by decide +kernel
theorem dX10_next_23 : decode cX10_next 23 = .ok (.getfield 126, 3) := by decide +kernel
theorem dX10_next_26 : decode cX10_next 26 = .ok (.invokevirtual 132, 3) := by decide +kernel
theorem dX10_next_29 : decode cX10_next 29 = .ok (.bipush 32, 2) := by decide +kernel
theorem dX10_next_31 : decode cX10_next 31 = .ok (.if_icmp .ne 16, 3) := by decide +kernel
theorem dX10_next_34 : decode cX10_next 34 = .ok (.aload_n 0, 1) := by decide +kernel
theorem dX10_next_35 : decode cX10_next 35 = .ok (.dup, 1) := by decide +kernel
theorem dX10_next_36 : decode cX10_next 36 = .ok (.getfield 126, 3) := by decide +kernel
theorem dX10_next_39 : decode cX10_next 39 = .ok (.iconst 1, 1) := by decide +kernel
theorem dX10_next_40 : decode cX10_next 40 = .ok (.iadd, 1) := by decide +kernel
theorem dX10_next_41 : decode cX10_next 41 = .ok (.putfield 126, 3) := by decide +kernel
theorem dX10_next_44 : decode cX10_next 44 = .ok (.goto (-36), 3) := by decide +kernel
theorem dX10_next_47 : decode cX10_next 47 = .ok (.aload_n 0, 1) := by decide +kernel
theorem dX10_next_48 : decode cX10_next 48 = .ok (.aload_n 0, 1) := by decide +kernel
theorem dX10_next_49 : decode cX10_next 49 = .ok (.getfield 126, 3) := by decide +kernel
theorem dX10_next_52 : decode cX10_next 52 = .ok (.putfield 129, 3) := by decide +kernel
theorem dX10_next_55 : decode cX10_next 55 = .ok (.aload_n 0, 1) := by decide +kernel
theorem dX10_next_56 : decode cX10_next 56 = .ok (.getfield 126, 3) := by decide +kernel
theorem dX10_next_59 : decode cX10_next 59 = .ok (.aload_n 0, 1) := by decide +kernel
theorem dX10_next_60 : decode cX10_next 60 = .ok (.getfield 111, 3) := by decide +kernel
theorem dX10_next_63 : decode cX10_next 63 = .ok (.if_icmp .lt 12, 3) := by decide +kernel
theorem dX10_next_66 : decode cX10_next 66 = .ok (.aload_n 0, 1) := by decide +kernel
theorem dX10_next_67 : decode cX10_next 67 = .ok (.bipush 26, 2) := by decide +kernel
theorem dX10_next_69 : decode cX10_next 69 = .ok (.putfield 136, 3) := by decide +kernel
theorem dX10_next_72 : decode cX10_next 72 = .ok (.goto 222, 3) := by decide +kernel
theorem dX10_next_75 : decode cX10_next 75 = .ok (.aload_n 0, 1) := by decide +kernel
theorem dX10_next_76 : decode cX10_next 76 = .ok (.aload_n 0, 1) := by decide +kernel
theorem dX10_next_77 : decode cX10_next 77 = .ok (.getfield 126, 3) := by decide +kernel
theorem dX10_next_80 : decode cX10_next 80 = .ok (.invokevirtual 132, 3) := by decide +kernel
theorem dX10_next_83 : decode cX10_next 83 = .ok (.invokestatic 139, 3) := by decide +kernel
theorem dX10_next_86 : decode cX10_next 86 = .ok (.ifCond .eq 41, 3) := by decide +kernel
theorem dX10_next_89 : decode cX10_next 89 = .ok (.aload_n 0, 1) := by decide +kernel
theorem dX10_next_90 : decode cX10_next 90 = .ok (.aload_n 0, 1) := by decide +kernel
theorem dX10_next_91 : decode cX10_next 91 = .ok (.getfield 129, 3) := by decide +kernel
theorem dX10_next_94 : decode cX10_next 94 = .ok (.invokevirtual 132, 3) := by decide +kernel
theorem dX10_next_97 : decode cX10_next 97 = .ok (.invokestatic 139, 3) := by decide +kernel
theorem dX10_next_100 : decode cX10_next 100 = .ok (.ifCond .eq 16, 3) := by decide +kernel
theorem dX10_next_103 : decode cX10_next 103 = .ok (.aload_n 0, 1) := by decide +kernel
theorem dX10_next_104 : decode cX10_next 104 = .ok (.dup, 1) := by decide +kernel
theorem dX10_next_105 : decode cX10_next 105 = .ok (.getfield 129, 3) := by decide +kernel
theorem dX10_next_108 : decode cX10_next 108 = .ok (.iconst 1, 1) := by decide +kernel
theorem dX10_next_109 : decode cX10_next 109 = .ok (.iadd, 1) := by decide +kernel
theorem dX10_next_110 : decode cX10_next 110 = .ok (.putfield 129, 3) := by decide +kernel
theorem dX10_next_113 : decode cX10_next 113 = .ok (.goto (-24), 3) := by decide +kernel
theorem dX10_next_116 : decode cX10_next 116 = .ok (.aload_n 0, 1) := by decide +kernel
theorem dX10_next_117 : decode cX10_next 117 = .ok (.aload_n 0, 1) := by decide +kernel
theorem dX10_next_118 : decode cX10_next 118 = .ok (.invokevirtual 143, 3) := by decide +kernel
theorem dX10_next_121 : decode cX10_next 121 = .ok (.putfield 136, 3) := by decide +kernel
theorem dX10_next_124 : decode cX10_next 124 = .ok (.goto 170, 3) := by decide +kernel
theorem dX10_next_127 : decode cX10_next 127 = .ok (.aload_n 0, 1) := by decide +kernel
theorem dX10_next_128 : decode cX10_next 128 = .ok (.aload_n 0, 1) := by decide +kernel
theorem dX10_next_129 : decode cX10_next 129 = .ok (.getfield 126, 3) := by decide +kernel
theorem dX10_next_132 : decode cX10_next 132 = .ok (.invokevirtual 132, 3) := by decide +kernel
theorem dX10_next_135 : decode cX10_next 135 = .ok (.invokestatic 146, 3) := by decide +kernel
theorem dX10_next_138 : decode cX10_next 138 = .ok (.ifCond .eq 98, 3) := by decide +kernel
theorem dX10_next_141 : decode cX10_next 141 = .ok (.aload_n 0, 1) := by decide +kernel
theorem dX10_next_142 : decode cX10_next 142 = .ok (.iconst 0, 1) := by decide +kernel
theorem dX10_next_143 : decode cX10_next 143 = .ok (.putfield 149, 3) := by decide +kernel
theorem dX10_next_146 : decode cX10_next 146 = .ok (.aload_n 0, 1) := by decide +kernel
theorem dX10_next_147 : decode cX10_next 147 = .ok (.aload_n 0, 1) := by decide +kernel
theorem dX10_next_148 : decode cX10_next 148 = .ok (.getfield 129, 3) := by decide +kernel
theorem dX10_next_151 : decode cX10_next 151 = .ok (.invokevirtual 132, 3) := by decide +kernel
theorem dX10_next_154 : decode cX10_next 154 = .ok (.invokestatic 146, 3) := by decide +kernel
theorem dX10_next_157 : decode cX10_next 157 = .ok (.ifCond .eq 52, 3) := by decide +kernel
theorem dX10_next_160 : decode cX10_next 160 = .ok (.aload_n 0, 1) := by decide +kernel
theorem dX10_next_161 : decode cX10_next 161 = .ok (.getfield 129, 3) := by decide +kernel
theorem dX10_next_164 : decode cX10_next 164 = .ok (.aload_n 0, 1) := by decide +kernel
theorem dX10_next_165 : decode cX10_next 165 = .ok (.getfield 126, 3) := by decide +kernel
theorem dX10_next_168 : decode cX10_next 168 = .ok (.isub, 1) := by decide +kernel
theorem dX10_next_169 : decode cX10_next 169 = .ok (.iconst 3, 1) := by decide +kernel
theorem dX10_next_170 : decode cX10_next 170 = .ok (.if_icmp .ge 26, 3) := by decide +kernel
theorem dX10_next_173 : decode cX10_next 173 = .ok (.aload_n 0, 1) := by decide +kernel
theorem dX10_next_174 : decode cX10_next 174 = .ok (.bipush 10, 2) := by decide +kernel
theorem dX10_next_176 : decode cX10_next 176 = .ok (.aload_n 0, 1) := by decide +kernel
theorem dX10_next_177 : decode cX10_next 177 = .ok (.getfield 149, 3) := by decide +kernel
theorem dX10_next_180 : decode cX10_next 180 = .ok (.imul, 1) := by decide +kernel
theorem dX10_next_181 : decode cX10_next 181 = .ok (.aload_n 0, 1) := by decide +kernel
theorem dX10_next_182 : decode cX10_next 182 = .ok (.aload_n 0, 1) := by decide +kernel
theorem dX10_next_183 : decode cX10_next 183 = .ok (.getfield 129, 3) := by decide +kernel
theorem dX10_next_186 : decode cX10_next 186 = .ok (.invokevirtual 132, 3) := by decide +kernel
theorem dX10_next_189 : decode cX10_next 189 = .ok (.iadd, 1) := by decide +kernel
theorem dX10_next_190 : decode cX10_next 190 = .ok (.bipush 48, 2) := by decide +kernel
theorem dX10_next_192 : decode cX10_next 192 = .ok (.isub, 1) := by decide +kernel
theorem dX10_next_193 : decode cX10_next 193 = .ok (.putfield 149, 3) := by decide +kernel
theorem dX10_next_196 : decode cX10_next 196 = .ok (.aload_n 0, 1) := by decide +kernel
theorem dX10_next_197 : decode cX10_next 197 = .ok (.dup, 1) := by decide +kernel
theorem dX10_next_198 : decode cX10_next 198 = .ok (.getfield 129, 3) := by decide +kernel
theorem dX10_next_201 : decode cX10_next 201 = .ok (.iconst 1, 1) := by decide +kernel
theorem dX10_next_202 : decode cX10_next 202 = .ok (.iadd, 1) := by decide +kernel
theorem dX10_next_203 : decode cX10_next 203 = .ok (.putfield 129, 3) := by decide +kernel
theorem dX10_next_206 : decode cX10_next 206 = .ok (.goto (-60), 3) := by decide +kernel
theorem dX10_next_209 : decode cX10_next 209 = .ok (.aload_n 0, 1) := by decide +kernel
theorem dX10_next_210 : decode cX10_next 210 = .ok (.aload_n 0, 1) := by decide +kernel
theorem dX10_next_211 : decode cX10_next 211 = .ok (.getfield 129, 3) := by decide +kernel
theorem dX10_next_214 : decode cX10_next 214 = .ok (.aload_n 0, 1) := by decide +kernel
theorem dX10_next_215 : decode cX10_next 215 = .ok (.getfield 126, 3) := by decide +kernel
theorem dX10_next_218 : decode cX10_next 218 = .ok (.isub, 1) := by decide +kernel
theorem dX10_next_219 : decode cX10_next 219 = .ok (.iconst 3, 1) := by decide +kernel
theorem dX10_next_220 : decode cX10_next 220 = .ok (.if_icmp .le 8, 3) := by decide +kernel
theorem dX10_next_223 : decode cX10_next 223 = .ok (.bipush 27, 2) := by decide +kernel
theorem dX10_next_225 : decode cX10_next 225 = .ok (.goto 5, 3) := by decide +kernel
theorem dX10_next_228 : decode cX10_next 228 = .ok (.bipush 25, 2) := by decide +kernel
theorem dX10_next_230 : decode cX10_next 230 = .ok (.putfield 136, 3) := by decide +kernel
theorem dX10_next_233 : decode cX10_next 233 = .ok (.goto 61, 3) := by decide +kernel
theorem dX10_next_236 : decode cX10_next 236 = .ok (.aload_n 0, 1) := by decide +kernel
theorem dX10_next_237 : decode cX10_next 237 = .ok (.dup, 1) := by decide +kernel
theorem dX10_next_238 : decode cX10_next 238 = .ok (.getfield 129, 3) := by decide +kernel
theorem dX10_next_241 : decode cX10_next 241 = .ok (.iconst 1, 1) := by decide +kernel
theorem dX10_next_242 : decode cX10_next 242 = .ok (.iadd, 1) := by decide +kernel
theorem dX10_next_243 : decode cX10_next 243 = .ok (.putfield 129, 3) := by decide +kernel
theorem dX10_next_246 : decode cX10_next 246 = .ok (.aload_n 0, 1) := by decide +kernel
theorem dX10_next_247 : decode cX10_next 247 = .ok (.bipush 27, 2) := by decide +kernel
theorem dX10_next_249 : decode cX10_next 249 = .ok (.putfield 136, 3) := by decide +kernel
theorem dX10_next_252 : decode cX10_next 252 = .ok (.iconst 0, 1) := by decide +kernel
theorem dX10_next_253 : decode cX10_next 253 = .ok (.istore_n 1, 1) := by decide +kernel
theorem dX10_next_254 : decode cX10_next 254 = .ok (.iload_n 1, 1) := by decide +kernel
theorem dX10_next_255 : decode cX10_next 255 = .ok (.ldc 152, 2) := by decide +kernel
theorem dX10_next_257 : decode cX10_next 257 = .ok (.invokevirtual 116, 3) := by decide +kernel
theorem dX10_next_260 : decode cX10_next 260 = .ok (.if_icmp .ge 34, 3) := by decide +kernel
theorem dX10_next_263 : decode cX10_next 263 = .ok (.aload_n 0, 1) := by decide +kernel
theorem dX10_next_264 : decode cX10_next 264 = .ok (.aload_n 0, 1) := by decide +kernel
theorem dX10_next_265 : decode cX10_next 265 = .ok (.getfield 126, 3) := by decide +kernel
theorem dX10_next_268 : decode cX10_next 268 = .ok (.invokevirtual 132, 3) := by decide +kernel
theorem dX10_next_271 : decode cX10_next 271 = .ok (.ldc 152, 2) := by decide +kernel
theorem dX10_next_273 : decode cX10_next 273 = .ok (.iload_n 1, 1) := by decide +kernel
theorem dX10_next_274 : decode cX10_next 274 = .ok (.invokevirtual 122, 3) := by decide +kernel
theorem dX10_next_277 : decode cX10_next 277 = .ok (.if_icmp .ne 11, 3) := by decide +kernel
theorem dX10_next_280 : decode cX10_next 280 = .ok (.aload_n 0, 1) := by decide +kernel
theorem dX10_next_281 : decode cX10_next 281 = .ok (.bipush 30, 2) := by decide +kernel
theorem dX10_next_283 : decode cX10_next 283 = .ok (.iload_n 1, 1) := by decide +kernel
theorem dX10_next_284 : decode cX10_next 284 = .ok (.iadd, 1) := by decide +kernel
theorem dX10_next_285 : decode cX10_next 285 = .ok (.putfield 136, 3) := by decide +kernel
theorem dX10_next_288 : decode cX10_next 288 = .ok (.iinc 1 1, 3) := by decide +kernel
theorem dX10_next_291 : decode cX10_next 291 = .ok (.goto (-37), 3) := by decide +kernel
theorem dX10_next_294 : decode cX10_next 294 = .ok (.return_, 1) := by decide +kernel
theorem dX10_fails_0 : decode cX10_fails 0 = .ok (.aload_n 0, 1) := by decide +kernel
theorem dX10_fails_1 : decode cX10_fails 1 = .ok (.getfield 154, 3) := by decide +kernel
theorem dX10_fails_4 : decode cX10_fails 4 = .ok (.ifCond .eq 4, 3) := by decide +kernel
theorem dX10_fails_7 : decode cX10_fails 7 = .ok (.return_, 1) := by decide +kernel
theorem dX10_fails_8 : decode cX10_fails 8 = .ok (.aload_n 0, 1) := by decide +kernel
theorem dX10_fails_9 : decode cX10_fails 9 = .ok (.aload_n 0, 1) := by decide +kernel
theorem dX10_fails_10 : decode cX10_fails 10 = .ok (.getfield 136, 3) := by decide +kernel
theorem dX10_fails_13 : decode cX10_fails 13 = .ok (.bipush 27, 2) := by decide +kernel
theorem dX10_fails_15 : decode cX10_fails 15 = .ok (.if_icmp .ne 7, 3) := by decide +kernel
theorem dX10_fails_18 : decode cX10_fails 18 = .ok (.iconst 1, 1) := by decide +kernel
theorem dX10_fails_19 : decode cX10_fails 19 = .ok (.goto 4, 3) := by decide +kernel
theorem dX10_fails_22 : decode cX10_fails 22 = .ok (.iload_n 1, 1) := by decide +kernel
theorem dX10_fails_23 : decode cX10_fails 23 = .ok (.putfield 154, 3) := by decide +kernel
theorem dX10_fails_26 : decode cX10_fails 26 = .ok (.aload_n 0, 1) := by decide +kernel
theorem dX10_fails_27 : decode cX10_fails 27 = .ok (.aload_n 0, 1) := by decide +kernel
theorem dX10_fails_28 : decode cX10_fails 28 = .ok (.getfield 126, 3) := by decide +kernel
theorem dX10_fails_31 : decode cX10_fails 31 = .ok (.putfield 157, 3) := by decide +kernel
theorem dX10_fails_34 : decode cX10_fails 34 = .ok (.return_, 1) := by decide +kernel
theorem dX10_is_0 : decode cX10_is 0 = .ok (.aload_n 0, 1) := by decide +kernel
theorem dX10_is_1 : decode cX10_is 1 = .ok (.getfield 154, 3) := by decide +kernel
theorem dX10_is_4 : decode cX10_is 4 = .ok (.ifCond .ne 15, 3) := by decide +kernel
theorem dX10_is_7 : decode cX10_is 7 = .ok (.aload_n 0, 1) := by decide +kernel
theorem dX10_is_8 : decode cX10_is 8 = .ok (.getfield 136, 3) := by decide +kernel
theorem dX10_is_11 : decode cX10_is 11 = .ok (.iload_n 1, 1) := by decide +kernel
theorem dX10_is_12 : decode cX10_is 12 = .ok (.if_icmp .ne 7, 3) := by decide +kernel
theorem dX10_is_15 : decode cX10_is 15 = .ok (.iconst 1, 1) := by decide +kernel
theorem dX10_is_16 : decode cX10_is 16 = .ok (.goto 4, 3) := by decide +kernel
theorem dX10_is_19 : decode cX10_is 19 = .ok (.iconst 0, 1) := by decide +kernel
theorem dX10_is_20 : decode cX10_is 20 = .ok (.ireturn, 1) := by decide +kernel
theorem dX10_eats_0 : decode cX10_eats 0 = .ok (.aload_n 0, 1) := by decide +kernel
theorem dX10_eats_1 : decode cX10_eats 1 = .ok (.iload_n 1, 1) := by decide +kernel
theorem dX10_eats_2 : decode cX10_eats 2 = .ok (.invokevirtual 160, 3) := by decide +kernel
theorem dX10_eats_5 : decode cX10_eats 5 = .ok (.ifCond .ne 5, 3) := by decide +kernel
theorem dX10_eats_8 : decode cX10_eats 8 = .ok (.iconst 0, 1) := by decide +kernel
theorem dX10_eats_9 : decode cX10_eats 9 = .ok (.ireturn, 1) := by decide +kernel
theorem dX10_eats_10 : decode cX10_eats 10 = .ok (.aload_n 0, 1) := by decide +kernel
theorem dX10_eats_11 : decode cX10_eats 11 = .ok (.invokevirtual 163, 3) := by decide +kernel
theorem dX10_eats_14 : decode cX10_eats 14 = .ok (.iconst 1, 1) := by decide +kernel
theorem dX10_eats_15 : decode cX10_eats 15 = .ok (.ireturn, 1) := by decide +kernel
theorem dX10_takes_0 : decode cX10_takes 0 = .ok (.aload_n 0, 1) := by decide +kernel
theorem dX10_takes_1 : decode cX10_takes 1 = .ok (.bipush 25, 2) := by decide +kernel
theorem dX10_takes_3 : decode cX10_takes 3 = .ok (.invokevirtual 160, 3) := by decide +kernel
theorem dX10_takes_6 : decode cX10_takes 6 = .ok (.ifCond .ne 11, 3) := by decide +kernel
theorem dX10_takes_9 : decode cX10_takes 9 = .ok (.aload_n 0, 1) := by decide +kernel
theorem dX10_takes_10 : decode cX10_takes 10 = .ok (.iconst 2, 1) := by decide +kernel
theorem dX10_takes_11 : decode cX10_takes 11 = .ok (.invokevirtual 166, 3) := by decide +kernel
theorem dX10_takes_14 : decode cX10_takes 14 = .ok (.goto 23, 3) := by decide +kernel
theorem dX10_takes_17 : decode cX10_takes 17 = .ok (.aload_n 0, 1) := by decide +kernel
theorem dX10_takes_18 : decode cX10_takes 18 = .ok (.getfield 149, 3) := by decide +kernel
theorem dX10_takes_21 : decode cX10_takes 21 = .ok (.i2l, 1) := by decide +kernel
theorem dX10_takes_22 : decode cX10_takes 22 = .ok (.iload_n 1, 1) := by decide +kernel
theorem dX10_takes_23 : decode cX10_takes 23 = .ok (.i2l, 1) := by decide +kernel
theorem dX10_takes_24 : decode cX10_takes 24 = .ok (.iload_n 2, 1) := by decide +kernel
theorem dX10_takes_25 : decode cX10_takes 25 = .ok (.i2l, 1) := by decide +kernel
theorem dX10_takes_26 : decode cX10_takes 26 = .ok (.invokestatic 170, 3) := by decide +kernel
theorem dX10_takes_29 : decode cX10_takes 29 = .ok (.ifCond .ne 8, 3) := by decide +kernel
theorem dX10_takes_32 : decode cX10_takes 32 = .ok (.aload_n 0, 1) := by decide +kernel
theorem dX10_takes_33 : decode cX10_takes 33 = .ok (.iconst 3, 1) := by decide +kernel
theorem dX10_takes_34 : decode cX10_takes 34 = .ok (.invokevirtual 166, 3) := by decide +kernel
theorem dX10_takes_37 : decode cX10_takes 37 = .ok (.aload_n 0, 1) := by decide +kernel
theorem dX10_takes_38 : decode cX10_takes 38 = .ok (.getfield 149, 3) := by decide +kernel
theorem dX10_takes_41 : decode cX10_takes 41 = .ok (.istore_n 3, 1) := by decide +kernel
theorem dX10_takes_42 : decode cX10_takes 42 = .ok (.aload_n 0, 1) := by decide +kernel
theorem dX10_takes_43 : decode cX10_takes 43 = .ok (.getfield 154, 3) := by decide +kernel
theorem dX10_takes_46 : decode cX10_takes 46 = .ok (.ifCond .ne 7, 3) := by decide +kernel
theorem dX10_takes_49 : decode cX10_takes 49 = .ok (.aload_n 0, 1) := by decide +kernel
theorem dX10_takes_50 : decode cX10_takes 50 = .ok (.invokevirtual 163, 3) := by decide +kernel
theorem dX10_takes_53 : decode cX10_takes 53 = .ok (.iload_n 3, 1) := by decide +kernel
theorem dX10_takes_54 : decode cX10_takes 54 = .ok (.ireturn, 1) := by decide +kernel
theorem dX10_isIn_0 : decode cX10_isIn 0 = .ok (.lload_n 0, 1) := by decide +kernel
theorem dX10_isIn_1 : decode cX10_isIn 1 = .ok (.iload_n 2, 1) := by decide +kernel
theorem dX10_isIn_2 : decode cX10_isIn 2 = .ok (.lshr, 1) := by decide +kernel
theorem dX10_isIn_3 : decode cX10_isIn 3 = .ok (.lconst 1, 1) := by decide +kernel
theorem dX10_isIn_4 : decode cX10_isIn 4 = .ok (.land, 1) := by decide +kernel
theorem dX10_isIn_5 : decode cX10_isIn 5 = .ok (.lconst 1, 1) := by decide +kernel
theorem dX10_isIn_6 : decode cX10_isIn 6 = .ok (.lcmp, 1) := by decide +kernel
theorem dX10_isIn_7 : decode cX10_isIn 7 = .ok (.ifCond .ne 7, 3) := by decide +kernel
theorem dX10_isIn_10 : decode cX10_isIn 10 = .ok (.iconst 1, 1) := by decide +kernel
theorem dX10_isIn_11 : decode cX10_isIn 11 = .ok (.goto 4, 3) := by decide +kernel
theorem dX10_isIn_14 : decode cX10_isIn 14 = .ok (.iconst 0, 1) := by decide +kernel
theorem dX10_isIn_15 : decode cX10_isIn 15 = .ok (.ireturn, 1) := by decide +kernel
theorem dX10_wordOf_0 : decode cX10_wordOf 0 = .ok (.iload_n 1, 1) := by decide +kernel
theorem dX10_wordOf_1 : decode cX10_wordOf 1 = .ok (.tableswitch 136 2 20 #[97, 99, 101, 136, 136, 136, 103, 136, 136, 136, 136, 136, 136, 136, 91, 93, 95, 106, 121], 91) := by decide +kernel
theorem dX10_wordOf_92 : decode cX10_wordOf 92 = .ok (.iconst 0, 1) := by decide +kernel
theorem dX10_wordOf_93 : decode cX10_wordOf 93 = .ok (.ireturn, 1) := by decide +kernel
theorem dX10_wordOf_94 : decode cX10_wordOf 94 = .ok (.iconst 1, 1) := by decide +kernel
theorem dX10_wordOf_95 : decode cX10_wordOf 95 = .ok (.ireturn, 1) := by decide +kernel
theorem dX10_wordOf_96 : decode cX10_wordOf 96 = .ok (.iconst 2, 1) := by decide +kernel
theorem dX10_wordOf_97 : decode cX10_wordOf 97 = .ok (.ireturn, 1) := by decide +kernel
theorem dX10_wordOf_98 : decode cX10_wordOf 98 = .ok (.iconst 3, 1) := by decide +kernel
theorem dX10_wordOf_99 : decode cX10_wordOf 99 = .ok (.ireturn, 1) := by decide +kernel
theorem dX10_wordOf_100 : decode cX10_wordOf 100 = .ok (.iconst 4, 1) := by decide +kernel
theorem dX10_wordOf_101 : decode cX10_wordOf 101 = .ok (.ireturn, 1) := by decide +kernel
theorem dX10_wordOf_102 : decode cX10_wordOf 102 = .ok (.iconst 5, 1) := by decide +kernel
theorem dX10_wordOf_103 : decode cX10_wordOf 103 = .ok (.ireturn, 1) := by decide +kernel
theorem dX10_wordOf_104 : decode cX10_wordOf 104 = .ok (.bipush 6, 2) := by decide +kernel
theorem dX10_wordOf_106 : decode cX10_wordOf 106 = .ok (.ireturn, 1) := by decide +kernel
theorem dX10_wordOf_107 : decode cX10_wordOf 107 = .ok (.aload_n 0, 1) := by decide +kernel
theorem dX10_wordOf_108 : decode cX10_wordOf 108 = .ok (.getfield 174, 3) := by decide +kernel
theorem dX10_wordOf_111 : decode cX10_wordOf 111 = .ok (.iconst 2, 1) := by decide +kernel
theorem dX10_wordOf_112 : decode cX10_wordOf 112 = .ok (.if_icmp .ne 8, 3) := by decide +kernel
theorem dX10_wordOf_115 : decode cX10_wordOf 115 = .ok (.bipush 7, 2) := by decide +kernel
theorem dX10_wordOf_117 : decode cX10_wordOf 117 = .ok (.goto 4, 3) := by decide +kernel
theorem dX10_wordOf_120 : decode cX10_wordOf 120 = .ok (.iconst (-1), 1) := by decide +kernel
theorem dX10_wordOf_121 : decode cX10_wordOf 121 = .ok (.ireturn, 1) := by decide +kernel
theorem dX10_wordOf_122 : decode cX10_wordOf 122 = .ok (.aload_n 0, 1) := by decide +kernel
theorem dX10_wordOf_123 : decode cX10_wordOf 123 = .ok (.getfield 174, 3) := by decide +kernel
theorem dX10_wordOf_126 : decode cX10_wordOf 126 = .ok (.iconst 2, 1) := by decide +kernel
theorem dX10_wordOf_127 : decode cX10_wordOf 127 = .ok (.if_icmp .ne 8, 3) := by decide +kernel
theorem dX10_wordOf_130 : decode cX10_wordOf 130 = .ok (.bipush 8, 2) := by decide +kernel
theorem dX10_wordOf_132 : decode cX10_wordOf 132 = .ok (.goto 4, 3) := by decide +kernel
theorem dX10_wordOf_135 : decode cX10_wordOf 135 = .ok (.iconst (-1), 1) := by decide +kernel
theorem dX10_wordOf_136 : decode cX10_wordOf 136 = .ok (.ireturn, 1) := by decide +kernel
theorem dX10_wordOf_137 : decode cX10_wordOf 137 = .ok (.iconst (-1), 1) := by decide +kernel
theorem dX10_wordOf_138 : decode cX10_wordOf 138 = .ok (.ireturn, 1) := by decide +kernel
theorem dX10_codes_0 : decode cX10_codes 0 = .ok (.aload_n 0, 1) := by decide +kernel
theorem dX10_codes_1 : decode cX10_codes 1 = .ok (.getfield 154, 3) := by decide +kernel
theorem dX10_codes_4 : decode cX10_codes 4 = .ok (.ifCond .eq 4, 3) := by decide +kernel
theorem dX10_codes_7 : decode cX10_codes 7 = .ok (.return_, 1) := by decide +kernel
theorem dX10_codes_8 : decode cX10_codes 8 = .ok (.aload_n 0, 1) := by decide +kernel
theorem dX10_codes_9 : decode cX10_codes 9 = .ok (.getfield 24, 3) := by decide +kernel
theorem dX10_codes_12 : decode cX10_codes 12 = .ok (.sipush 473, 3) := by decide +kernel
theorem dX10_codes_15 : decode cX10_codes 15 = .ok (.aload_n 0, 1) := by decide +kernel
theorem dX10_codes_16 : decode cX10_codes 16 = .ok (.getfield 24, 3) := by decide +kernel
theorem dX10_codes_19 : decode cX10_codes 19 = .ok (.sipush 472, 3) := by decide +kernel
theorem dX10_codes_22 : decode cX10_codes 22 = .ok (.iaload, 1) := by decide +kernel
theorem dX10_codes_23 : decode cX10_codes 23 = .ok (.iadd, 1) := by decide +kernel
theorem dX10_codes_24 : decode cX10_codes 24 = .ok (.iload_n 1, 1) := by decide +kernel
theorem dX10_codes_25 : decode cX10_codes 25 = .ok (.iastore, 1) := by decide +kernel
theorem dX10_codes_26 : decode cX10_codes 26 = .ok (.aload_n 0, 1) := by decide +kernel
theorem dX10_codes_27 : decode cX10_codes 27 = .ok (.getfield 24, 3) := by decide +kernel
theorem dX10_codes_30 : decode cX10_codes 30 = .ok (.sipush 472, 3) := by decide +kernel
theorem dX10_codes_33 : decode cX10_codes 33 = .ok (.dup2, 1) := by decide +kernel
theorem dX10_codes_34 : decode cX10_codes 34 = .ok (.iaload, 1) := by decide +kernel
theorem dX10_codes_35 : decode cX10_codes 35 = .ok (.iconst 1, 1) := by decide +kernel
theorem dX10_codes_36 : decode cX10_codes 36 = .ok (.iadd, 1) := by decide +kernel
theorem dX10_codes_37 : decode cX10_codes 37 = .ok (.iastore, 1) := by decide +kernel
theorem dX10_codes_38 : decode cX10_codes 38 = .ok (.return_, 1) := by decide +kernel
theorem dX10_goesIn_0 : decode cX10_goesIn 0 = .ok (.iload_n 1, 1) := by decide +kernel
theorem dX10_goesIn_1 : decode cX10_goesIn 1 = .ok (.bipush 6, 2) := by decide +kernel
theorem dX10_goesIn_3 : decode cX10_goesIn 3 = .ok (.if_icmp .ne 8, 3) := by decide +kernel
theorem dX10_goesIn_6 : decode cX10_goesIn 6 = .ok (.aload_n 0, 1) := by decide +kernel
theorem dX10_goesIn_7 : decode cX10_goesIn 7 = .ok (.iconst 4, 1) := by decide +kernel
theorem dX10_goesIn_8 : decode cX10_goesIn 8 = .ok (.invokevirtual 166, 3) := by decide +kernel
theorem dX10_goesIn_11 : decode cX10_goesIn 11 = .ok (.aload_n 0, 1) := by decide +kernel
theorem dX10_goesIn_12 : decode cX10_goesIn 12 = .ok (.getfield 154, 3) := by decide +kernel
theorem dX10_goesIn_15 : decode cX10_goesIn 15 = .ok (.ifCond .ne 7, 3) := by decide +kernel
theorem dX10_goesIn_18 : decode cX10_goesIn 18 = .ok (.aload_n 0, 1) := by decide +kernel
theorem dX10_goesIn_19 : decode cX10_goesIn 19 = .ok (.invokevirtual 163, 3) := by decide +kernel
theorem dX10_goesIn_22 : decode cX10_goesIn 22 = .ok (.aload_n 0, 1) := by decide +kernel
theorem dX10_goesIn_23 : decode cX10_goesIn 23 = .ok (.getfield 154, 3) := by decide +kernel
theorem dX10_goesIn_26 : decode cX10_goesIn 26 = .ok (.ifCond .ne 7, 3) := by decide +kernel
theorem dX10_goesIn_29 : decode cX10_goesIn 29 = .ok (.iconst 1, 1) := by decide +kernel
theorem dX10_goesIn_30 : decode cX10_goesIn 30 = .ok (.goto 4, 3) := by decide +kernel
theorem dX10_goesIn_33 : decode cX10_goesIn 33 = .ok (.iconst 0, 1) := by decide +kernel
theorem dX10_goesIn_34 : decode cX10_goesIn 34 = .ok (.ireturn, 1) := by decide +kernel
theorem dX10_readAtom_0 : decode cX10_readAtom 0 = .ok (.aload_n 0, 1) := by decide +kernel
theorem dX10_readAtom_1 : decode cX10_readAtom 1 = .ok (.bipush 25, 2) := by decide +kernel
theorem dX10_readAtom_3 : decode cX10_readAtom 3 = .ok (.invokevirtual 160, 3) := by decide +kernel
theorem dX10_readAtom_6 : decode cX10_readAtom 6 = .ok (.ifCond .eq 18, 3) := by decide +kernel
theorem dX10_readAtom_9 : decode cX10_readAtom 9 = .ok (.aload_n 0, 1) := by decide +kernel
theorem dX10_readAtom_10 : decode cX10_readAtom 10 = .ok (.aload_n 0, 1) := by decide +kernel
theorem dX10_readAtom_11 : decode cX10_readAtom 11 = .ok (.getfield 149, 3) := by decide +kernel
theorem dX10_readAtom_14 : decode cX10_readAtom 14 = .ok (.invokevirtual 177, 3) := by decide +kernel
theorem dX10_readAtom_17 : decode cX10_readAtom 17 = .ok (.aload_n 0, 1) := by decide +kernel
theorem dX10_readAtom_18 : decode cX10_readAtom 18 = .ok (.invokevirtual 163, 3) := by decide +kernel
theorem dX10_readAtom_21 : decode cX10_readAtom 21 = .ok (.goto 109, 3) := by decide +kernel
theorem dX10_readAtom_24 : decode cX10_readAtom 24 = .ok (.aload_n 0, 1) := by decide +kernel
theorem dX10_readAtom_25 : decode cX10_readAtom 25 = .ok (.getfield 154, 3) := by decide +kernel
theorem dX10_readAtom_28 : decode cX10_readAtom 28 = .ok (.ifCond .ne 38, 3) := by decide +kernel
theorem dX10_readAtom_31 : decode cX10_readAtom 31 = .ok (.aload_n 0, 1) := by decide +kernel
theorem dX10_readAtom_32 : decode cX10_readAtom 32 = .ok (.aload_n 0, 1) := by decide +kernel
theorem dX10_readAtom_33 : decode cX10_readAtom 33 = .ok (.getfield 136, 3) := by decide +kernel
theorem dX10_readAtom_36 : decode cX10_readAtom 36 = .ok (.invokevirtual 180, 3) := by decide +kernel
theorem dX10_readAtom_39 : decode cX10_readAtom 39 = .ok (.iconst (-1), 1) := by decide +kernel
theorem dX10_readAtom_40 : decode cX10_readAtom 40 = .ok (.if_icmp .eq 26, 3) := by decide +kernel
theorem dX10_readAtom_43 : decode cX10_readAtom 43 = .ok (.aload_n 0, 1) := by decide +kernel
theorem dX10_readAtom_44 : decode cX10_readAtom 44 = .ok (.sipush 1000, 3) := by decide +kernel
theorem dX10_readAtom_47 : decode cX10_readAtom 47 = .ok (.aload_n 0, 1) := by decide +kernel
theorem dX10_readAtom_48 : decode cX10_readAtom 48 = .ok (.aload_n 0, 1) := by decide +kernel
theorem dX10_readAtom_49 : decode cX10_readAtom 49 = .ok (.getfield 136, 3) := by decide +kernel
theorem dX10_readAtom_52 : decode cX10_readAtom 52 = .ok (.invokevirtual 180, 3) := by decide +kernel
theorem dX10_readAtom_55 : decode cX10_readAtom 55 = .ok (.iadd, 1) := by decide +kernel
theorem dX10_readAtom_56 : decode cX10_readAtom 56 = .ok (.invokevirtual 177, 3) := by decide +kernel
theorem dX10_readAtom_59 : decode cX10_readAtom 59 = .ok (.aload_n 0, 1) := by decide +kernel
theorem dX10_readAtom_60 : decode cX10_readAtom 60 = .ok (.invokevirtual 163, 3) := by decide +kernel
theorem dX10_readAtom_63 : decode cX10_readAtom 63 = .ok (.goto 67, 3) := by decide +kernel
theorem dX10_readAtom_66 : decode cX10_readAtom 66 = .ok (.aload_n 0, 1) := by decide +kernel
theorem dX10_readAtom_67 : decode cX10_readAtom 67 = .ok (.bipush 35, 2) := by decide +kernel
theorem dX10_readAtom_69 : decode cX10_readAtom 69 = .ok (.invokevirtual 160, 3) := by decide +kernel
theorem dX10_readAtom_72 : decode cX10_readAtom 72 = .ok (.ifCond .eq 36, 3) := by decide +kernel
theorem dX10_readAtom_75 : decode cX10_readAtom 75 = .ok (.aload_n 0, 1) := by decide +kernel
theorem dX10_readAtom_76 : decode cX10_readAtom 76 = .ok (.iload_n 1, 1) := by decide +kernel
theorem dX10_readAtom_77 : decode cX10_readAtom 77 = .ok (.invokevirtual 183, 3) := by decide +kernel
theorem dX10_readAtom_80 : decode cX10_readAtom 80 = .ok (.ifCond .ne 4, 3) := by decide +kernel
theorem dX10_readAtom_83 : decode cX10_readAtom 83 = .ok (.return_, 1) := by decide +kernel
theorem dX10_readAtom_84 : decode cX10_readAtom 84 = .ok (.aload_n 0, 1) := by decide +kernel
theorem dX10_readAtom_85 : decode cX10_readAtom 85 = .ok (.iload_n 1, 1) := by decide +kernel
theorem dX10_readAtom_86 : decode cX10_readAtom 86 = .ok (.iconst 1, 1) := by decide +kernel
theorem dX10_readAtom_87 : decode cX10_readAtom 87 = .ok (.iadd, 1) := by decide +kernel
theorem dX10_readAtom_88 : decode cX10_readAtom 88 = .ok (.invokevirtual 186, 3) := by decide +kernel
theorem dX10_readAtom_91 : decode cX10_readAtom 91 = .ok (.aload_n 0, 1) := by decide +kernel
theorem dX10_readAtom_92 : decode cX10_readAtom 92 = .ok (.bipush 36, 2) := by decide +kernel
theorem dX10_readAtom_94 : decode cX10_readAtom 94 = .ok (.invokevirtual 189, 3) := by decide +kernel
theorem dX10_readAtom_97 : decode cX10_readAtom 97 = .ok (.ifCond .ne 33, 3) := by decide +kernel
theorem dX10_readAtom_100 : decode cX10_readAtom 100 = .ok (.aload_n 0, 1) := by decide +kernel
theorem dX10_readAtom_101 : decode cX10_readAtom 101 = .ok (.iconst 2, 1) := by decide +kernel
theorem dX10_readAtom_102 : decode cX10_readAtom 102 = .ok (.invokevirtual 166, 3) := by decide +kernel
theorem dX10_readAtom_105 : decode cX10_readAtom 105 = .ok (.goto 25, 3) := by decide +kernel
theorem dX10_readAtom_108 : decode cX10_readAtom 108 = .ok (.aload_n 0, 1) := by decide +kernel
theorem dX10_readAtom_109 : decode cX10_readAtom 109 = .ok (.bipush 12, 2) := by decide +kernel
theorem dX10_readAtom_111 : decode cX10_readAtom 111 = .ok (.invokevirtual 160, 3) := by decide +kernel
theorem dX10_readAtom_114 : decode cX10_readAtom 114 = .ok (.ifCond .eq 11, 3) := by decide +kernel
theorem dX10_readAtom_117 : decode cX10_readAtom 117 = .ok (.aload_n 0, 1) := by decide +kernel
theorem dX10_readAtom_118 : decode cX10_readAtom 118 = .ok (.iload_n 1, 1) := by decide +kernel
theorem dX10_readAtom_119 : decode cX10_readAtom 119 = .ok (.invokevirtual 192, 3) := by decide +kernel
theorem dX10_readAtom_122 : decode cX10_readAtom 122 = .ok (.goto 8, 3) := by decide +kernel
theorem dX10_readAtom_125 : decode cX10_readAtom 125 = .ok (.aload_n 0, 1) := by decide +kernel
theorem dX10_readAtom_126 : decode cX10_readAtom 126 = .ok (.iconst 2, 1) := by decide +kernel
theorem dX10_readAtom_127 : decode cX10_readAtom 127 = .ok (.invokevirtual 166, 3) := by decide +kernel
theorem dX10_readAtom_130 : decode cX10_readAtom 130 = .ok (.return_, 1) := by decide +kernel
theorem dX10_readIf_0 : decode cX10_readIf 0 = .ok (.aload_n 0, 1) := by decide +kernel
theorem dX10_readIf_1 : decode cX10_readIf 1 = .ok (.iload_n 1, 1) := by decide +kernel
theorem dX10_readIf_2 : decode cX10_readIf 2 = .ok (.invokevirtual 183, 3) := by decide +kernel
theorem dX10_readIf_5 : decode cX10_readIf 5 = .ok (.ifCond .ne 4, 3) := by decide +kernel
theorem dX10_readIf_8 : decode cX10_readIf 8 = .ok (.return_, 1) := by decide +kernel
theorem dX10_readIf_9 : decode cX10_readIf 9 = .ok (.aload_n 0, 1) := by decide +kernel
theorem dX10_readIf_10 : decode cX10_readIf 10 = .ok (.iload_n 1, 1) := by decide +kernel
theorem dX10_readIf_11 : decode cX10_readIf 11 = .ok (.iconst 1, 1) := by decide +kernel
theorem dX10_readIf_12 : decode cX10_readIf 12 = .ok (.iadd, 1) := by decide +kernel
theorem dX10_readIf_13 : decode cX10_readIf 13 = .ok (.invokevirtual 195, 3) := by decide +kernel
theorem dX10_readIf_16 : decode cX10_readIf 16 = .ok (.aload_n 0, 1) := by decide +kernel
theorem dX10_readIf_17 : decode cX10_readIf 17 = .ok (.bipush 13, 2) := by decide +kernel
theorem dX10_readIf_19 : decode cX10_readIf 19 = .ok (.invokevirtual 189, 3) := by decide +kernel
theorem dX10_readIf_22 : decode cX10_readIf 22 = .ok (.ifCond .ne 8, 3) := by decide +kernel
theorem dX10_readIf_25 : decode cX10_readIf 25 = .ok (.aload_n 0, 1) := by decide +kernel
theorem dX10_readIf_26 : decode cX10_readIf 26 = .ok (.iconst 2, 1) := by decide +kernel
theorem dX10_readIf_27 : decode cX10_readIf 27 = .ok (.invokevirtual 166, 3) := by decide +kernel
theorem dX10_readIf_30 : decode cX10_readIf 30 = .ok (.aload_n 0, 1) := by decide +kernel
theorem dX10_readIf_31 : decode cX10_readIf 31 = .ok (.iload_n 1, 1) := by decide +kernel
theorem dX10_readIf_32 : decode cX10_readIf 32 = .ok (.iconst 1, 1) := by decide +kernel
theorem dX10_readIf_33 : decode cX10_readIf 33 = .ok (.iadd, 1) := by decide +kernel
theorem dX10_readIf_34 : decode cX10_readIf 34 = .ok (.invokevirtual 186, 3) := by decide +kernel
theorem dX10_readIf_37 : decode cX10_readIf 37 = .ok (.aload_n 0, 1) := by decide +kernel
theorem dX10_readIf_38 : decode cX10_readIf 38 = .ok (.bipush 14, 2) := by decide +kernel
theorem dX10_readIf_40 : decode cX10_readIf 40 = .ok (.invokevirtual 189, 3) := by decide +kernel
theorem dX10_readIf_43 : decode cX10_readIf 43 = .ok (.ifCond .ne 8, 3) := by decide +kernel
theorem dX10_readIf_46 : decode cX10_readIf 46 = .ok (.aload_n 0, 1) := by decide +kernel
theorem dX10_readIf_47 : decode cX10_readIf 47 = .ok (.iconst 2, 1) := by decide +kernel
theorem dX10_readIf_48 : decode cX10_readIf 48 = .ok (.invokevirtual 166, 3) := by decide +kernel
theorem dX10_readIf_51 : decode cX10_readIf 51 = .ok (.aload_n 0, 1) := by decide +kernel
theorem dX10_readIf_52 : decode cX10_readIf 52 = .ok (.iload_n 1, 1) := by decide +kernel
theorem dX10_readIf_53 : decode cX10_readIf 53 = .ok (.iconst 1, 1) := by decide +kernel
theorem dX10_readIf_54 : decode cX10_readIf 54 = .ok (.iadd, 1) := by decide +kernel
theorem dX10_readIf_55 : decode cX10_readIf 55 = .ok (.invokevirtual 186, 3) := by decide +kernel
theorem dX10_readIf_58 : decode cX10_readIf 58 = .ok (.aload_n 0, 1) := by decide +kernel
theorem dX10_readIf_59 : decode cX10_readIf 59 = .ok (.bipush 15, 2) := by decide +kernel
theorem dX10_readIf_61 : decode cX10_readIf 61 = .ok (.invokevirtual 189, 3) := by decide +kernel
theorem dX10_readIf_64 : decode cX10_readIf 64 = .ok (.ifCond .ne 8, 3) := by decide +kernel
theorem dX10_readIf_67 : decode cX10_readIf 67 = .ok (.aload_n 0, 1) := by decide +kernel
theorem dX10_readIf_68 : decode cX10_readIf 68 = .ok (.iconst 2, 1) := by decide +kernel
theorem dX10_readIf_69 : decode cX10_readIf 69 = .ok (.invokevirtual 166, 3) := by decide +kernel
theorem dX10_readIf_72 : decode cX10_readIf 72 = .ok (.aload_n 0, 1) := by decide +kernel
theorem dX10_readIf_73 : decode cX10_readIf 73 = .ok (.sipush 3009, 3) := by decide +kernel
theorem dX10_readIf_76 : decode cX10_readIf 76 = .ok (.invokevirtual 177, 3) := by decide +kernel
theorem dX10_readIf_79 : decode cX10_readIf 79 = .ok (.return_, 1) := by decide +kernel
theorem dX10_readTerm_0 : decode cX10_readTerm 0 = .ok (.aload_n 0, 1) := by decide +kernel
theorem dX10_readTerm_1 : decode cX10_readTerm 1 = .ok (.iload_n 1, 1) := by decide +kernel
theorem dX10_readTerm_2 : decode cX10_readTerm 2 = .ok (.invokevirtual 198, 3) := by decide +kernel
theorem dX10_readTerm_5 : decode cX10_readTerm 5 = .ok (.aload_n 0, 1) := by decide +kernel
theorem dX10_readTerm_6 : decode cX10_readTerm 6 = .ok (.bipush 34, 2) := by decide +kernel
theorem dX10_readTerm_8 : decode cX10_readTerm 8 = .ok (.invokevirtual 189, 3) := by decide +kernel
theorem dX10_readTerm_11 : decode cX10_readTerm 11 = .ok (.ifCond .eq 18, 3) := by decide +kernel
theorem dX10_readTerm_14 : decode cX10_readTerm 14 = .ok (.aload_n 0, 1) := by decide +kernel
theorem dX10_readTerm_15 : decode cX10_readTerm 15 = .ok (.iload_n 1, 1) := by decide +kernel
theorem dX10_readTerm_16 : decode cX10_readTerm 16 = .ok (.invokevirtual 198, 3) := by decide +kernel
theorem dX10_readTerm_19 : decode cX10_readTerm 19 = .ok (.aload_n 0, 1) := by decide +kernel
theorem dX10_readTerm_20 : decode cX10_readTerm 20 = .ok (.sipush 3002, 3) := by decide +kernel
theorem dX10_readTerm_23 : decode cX10_readTerm 23 = .ok (.invokevirtual 177, 3) := by decide +kernel
theorem dX10_readTerm_26 : decode cX10_readTerm 26 = .ok (.goto (-21), 3) := by decide +kernel
theorem dX10_readTerm_29 : decode cX10_readTerm 29 = .ok (.return_, 1) := by decide +kernel
theorem dX10_readSum_0 : decode cX10_readSum 0 = .ok (.aload_n 0, 1) := by decide +kernel
theorem dX10_readSum_1 : decode cX10_readSum 1 = .ok (.iload_n 1, 1) := by decide +kernel
theorem dX10_readSum_2 : decode cX10_readSum 2 = .ok (.invokevirtual 201, 3) := by decide +kernel
theorem dX10_readSum_5 : decode cX10_readSum 5 = .ok (.aload_n 0, 1) := by decide +kernel
theorem dX10_readSum_6 : decode cX10_readSum 6 = .ok (.bipush 32, 2) := by decide +kernel
theorem dX10_readSum_8 : decode cX10_readSum 8 = .ok (.invokevirtual 160, 3) := by decide +kernel
theorem dX10_readSum_11 : decode cX10_readSum 11 = .ok (.ifCond .ne 12, 3) := by decide +kernel
theorem dX10_readSum_14 : decode cX10_readSum 14 = .ok (.aload_n 0, 1) := by decide +kernel
theorem dX10_readSum_15 : decode cX10_readSum 15 = .ok (.bipush 33, 2) := by decide +kernel
theorem dX10_readSum_17 : decode cX10_readSum 17 = .ok (.invokevirtual 160, 3) := by decide +kernel
theorem dX10_readSum_20 : decode cX10_readSum 20 = .ok (.ifCond .eq 39, 3) := by decide +kernel
theorem dX10_readSum_23 : decode cX10_readSum 23 = .ok (.aload_n 0, 1) := by decide +kernel
theorem dX10_readSum_24 : decode cX10_readSum 24 = .ok (.getfield 136, 3) := by decide +kernel
theorem dX10_readSum_27 : decode cX10_readSum 27 = .ok (.bipush 32, 2) := by decide +kernel
theorem dX10_readSum_29 : decode cX10_readSum 29 = .ok (.if_icmp .ne 9, 3) := by decide +kernel
theorem dX10_readSum_32 : decode cX10_readSum 32 = .ok (.sipush 3000, 3) := by decide +kernel
theorem dX10_readSum_35 : decode cX10_readSum 35 = .ok (.goto 6, 3) := by decide +kernel
theorem dX10_readSum_38 : decode cX10_readSum 38 = .ok (.sipush 3001, 3) := by decide +kernel
theorem dX10_readSum_41 : decode cX10_readSum 41 = .ok (.istore_n 2, 1) := by decide +kernel
theorem dX10_readSum_42 : decode cX10_readSum 42 = .ok (.aload_n 0, 1) := by decide +kernel
theorem dX10_readSum_43 : decode cX10_readSum 43 = .ok (.invokevirtual 163, 3) := by decide +kernel
theorem dX10_readSum_46 : decode cX10_readSum 46 = .ok (.aload_n 0, 1) := by decide +kernel
theorem dX10_readSum_47 : decode cX10_readSum 47 = .ok (.iload_n 1, 1) := by decide +kernel
theorem dX10_readSum_48 : decode cX10_readSum 48 = .ok (.invokevirtual 201, 3) := by decide +kernel
theorem dX10_readSum_51 : decode cX10_readSum 51 = .ok (.aload_n 0, 1) := by decide +kernel
theorem dX10_readSum_52 : decode cX10_readSum 52 = .ok (.iload_n 2, 1) := by decide +kernel
theorem dX10_readSum_53 : decode cX10_readSum 53 = .ok (.invokevirtual 177, 3) := by decide +kernel
theorem dX10_readSum_56 : decode cX10_readSum 56 = .ok (.goto (-51), 3) := by decide +kernel
theorem dX10_readSum_59 : decode cX10_readSum 59 = .ok (.return_, 1) := by decide +kernel
theorem dX10_readUnit_0 : decode cX10_readUnit 0 = .ok (.aload_n 0, 1) := by decide +kernel
theorem dX10_readUnit_1 : decode cX10_readUnit 1 = .ok (.bipush 23, 2) := by decide +kernel
theorem dX10_readUnit_3 : decode cX10_readUnit 3 = .ok (.invokevirtual 160, 3) := by decide +kernel
theorem dX10_readUnit_6 : decode cX10_readUnit 6 = .ok (.ifCond .eq 27, 3) := by decide +kernel
theorem dX10_readUnit_9 : decode cX10_readUnit 9 = .ok (.aload_n 0, 1) := by decide +kernel
theorem dX10_readUnit_10 : decode cX10_readUnit 10 = .ok (.iload_n 1, 1) := by decide +kernel
theorem dX10_readUnit_11 : decode cX10_readUnit 11 = .ok (.invokevirtual 183, 3) := by decide +kernel
theorem dX10_readUnit_14 : decode cX10_readUnit 14 = .ok (.ifCond .ne 4, 3) := by decide +kernel
theorem dX10_readUnit_17 : decode cX10_readUnit 17 = .ok (.return_, 1) := by decide +kernel
theorem dX10_readUnit_18 : decode cX10_readUnit 18 = .ok (.aload_n 0, 1) := by decide +kernel
theorem dX10_readUnit_19 : decode cX10_readUnit 19 = .ok (.iload_n 1, 1) := by decide +kernel
theorem dX10_readUnit_20 : decode cX10_readUnit 20 = .ok (.iconst 1, 1) := by decide +kernel
theorem dX10_readUnit_21 : decode cX10_readUnit 21 = .ok (.iadd, 1) := by decide +kernel
theorem dX10_readUnit_22 : decode cX10_readUnit 22 = .ok (.invokevirtual 204, 3) := by decide +kernel
theorem dX10_readUnit_25 : decode cX10_readUnit 25 = .ok (.aload_n 0, 1) := by decide +kernel
theorem dX10_readUnit_26 : decode cX10_readUnit 26 = .ok (.sipush 3006, 3) := by decide +kernel
theorem dX10_readUnit_29 : decode cX10_readUnit 29 = .ok (.invokevirtual 177, 3) := by decide +kernel
theorem dX10_readUnit_32 : decode cX10_readUnit 32 = .ok (.return_, 1) := by decide +kernel
theorem dX10_readUnit_33 : decode cX10_readUnit 33 = .ok (.aload_n 0, 1) := by decide +kernel
theorem dX10_readUnit_34 : decode cX10_readUnit 34 = .ok (.bipush 37, 2) := by decide +kernel
theorem dX10_readUnit_36 : decode cX10_readUnit 36 = .ok (.invokevirtual 160, 3) := by decide +kernel
theorem dX10_readUnit_39 : decode cX10_readUnit 39 = .ok (.ifCond .eq 34, 3) := by decide +kernel
theorem dX10_readUnit_42 : decode cX10_readUnit 42 = .ok (.aload_n 0, 1) := by decide +kernel
theorem dX10_readUnit_43 : decode cX10_readUnit 43 = .ok (.iload_n 1, 1) := by decide +kernel
theorem dX10_readUnit_44 : decode cX10_readUnit 44 = .ok (.invokevirtual 183, 3) := by decide +kernel
theorem dX10_readUnit_47 : decode cX10_readUnit 47 = .ok (.ifCond .ne 4, 3) := by decide +kernel
theorem dX10_readUnit_50 : decode cX10_readUnit 50 = .ok (.return_, 1) := by decide +kernel
theorem dX10_readUnit_51 : decode cX10_readUnit 51 = .ok (.aload_n 0, 1) := by decide +kernel
theorem dX10_readUnit_52 : decode cX10_readUnit 52 = .ok (.iload_n 1, 1) := by decide +kernel
theorem dX10_readUnit_53 : decode cX10_readUnit 53 = .ok (.iconst 1, 1) := by decide +kernel
theorem dX10_readUnit_54 : decode cX10_readUnit 54 = .ok (.iadd, 1) := by decide +kernel
theorem dX10_readUnit_55 : decode cX10_readUnit 55 = .ok (.invokevirtual 195, 3) := by decide +kernel
theorem dX10_readUnit_58 : decode cX10_readUnit 58 = .ok (.aload_n 0, 1) := by decide +kernel
theorem dX10_readUnit_59 : decode cX10_readUnit 59 = .ok (.bipush 38, 2) := by decide +kernel
theorem dX10_readUnit_61 : decode cX10_readUnit 61 = .ok (.invokevirtual 189, 3) := by decide +kernel
theorem dX10_readUnit_64 : decode cX10_readUnit 64 = .ok (.ifCond .ne 8, 3) := by decide +kernel
theorem dX10_readUnit_67 : decode cX10_readUnit 67 = .ok (.aload_n 0, 1) := by decide +kernel
theorem dX10_readUnit_68 : decode cX10_readUnit 68 = .ok (.iconst 2, 1) := by decide +kernel
theorem dX10_readUnit_69 : decode cX10_readUnit 69 = .ok (.invokevirtual 166, 3) := by decide +kernel
theorem dX10_readUnit_72 : decode cX10_readUnit 72 = .ok (.return_, 1) := by decide +kernel
theorem dX10_readUnit_73 : decode cX10_readUnit 73 = .ok (.aload_n 0, 1) := by decide +kernel
theorem dX10_readUnit_74 : decode cX10_readUnit 74 = .ok (.iload_n 1, 1) := by decide +kernel
theorem dX10_readUnit_75 : decode cX10_readUnit 75 = .ok (.invokevirtual 186, 3) := by decide +kernel
theorem dX10_readUnit_78 : decode cX10_readUnit 78 = .ok (.aload_n 0, 1) := by decide +kernel
theorem dX10_readUnit_79 : decode cX10_readUnit 79 = .ok (.bipush 39, 2) := by decide +kernel
theorem dX10_readUnit_81 : decode cX10_readUnit 81 = .ok (.invokevirtual 160, 3) := by decide +kernel
theorem dX10_readUnit_84 : decode cX10_readUnit 84 = .ok (.ifCond .eq 9, 3) := by decide +kernel
theorem dX10_readUnit_87 : decode cX10_readUnit 87 = .ok (.sipush 3003, 3) := by decide +kernel
theorem dX10_readUnit_90 : decode cX10_readUnit 90 = .ok (.goto 21, 3) := by decide +kernel
theorem dX10_readUnit_93 : decode cX10_readUnit 93 = .ok (.aload_n 0, 1) := by decide +kernel
theorem dX10_readUnit_94 : decode cX10_readUnit 94 = .ok (.bipush 40, 2) := by decide +kernel
theorem dX10_readUnit_96 : decode cX10_readUnit 96 = .ok (.invokevirtual 160, 3) := by decide +kernel
theorem dX10_readUnit_99 : decode cX10_readUnit 99 = .ok (.ifCond .eq 9, 3) := by decide +kernel
theorem dX10_readUnit_102 : decode cX10_readUnit 102 = .ok (.sipush 3004, 3) := by decide +kernel
theorem dX10_readUnit_105 : decode cX10_readUnit 105 = .ok (.goto 6, 3) := by decide +kernel
theorem dX10_readUnit_108 : decode cX10_readUnit 108 = .ok (.sipush 3005, 3) := by decide +kernel
theorem dX10_readUnit_111 : decode cX10_readUnit 111 = .ok (.istore_n 2, 1) := by decide +kernel
theorem dX10_readUnit_112 : decode cX10_readUnit 112 = .ok (.aload_n 0, 1) := by decide +kernel
theorem dX10_readUnit_113 : decode cX10_readUnit 113 = .ok (.bipush 39, 2) := by decide +kernel
theorem dX10_readUnit_115 : decode cX10_readUnit 115 = .ok (.invokevirtual 160, 3) := by decide +kernel
theorem dX10_readUnit_118 : decode cX10_readUnit 118 = .ok (.ifCond .ne 21, 3) := by decide +kernel
theorem dX10_readUnit_121 : decode cX10_readUnit 121 = .ok (.aload_n 0, 1) := by decide +kernel
theorem dX10_readUnit_122 : decode cX10_readUnit 122 = .ok (.bipush 40, 2) := by decide +kernel
theorem dX10_readUnit_124 : decode cX10_readUnit 124 = .ok (.invokevirtual 160, 3) := by decide +kernel
theorem dX10_readUnit_127 : decode cX10_readUnit 127 = .ok (.ifCond .ne 12, 3) := by decide +kernel
theorem dX10_readUnit_130 : decode cX10_readUnit 130 = .ok (.aload_n 0, 1) := by decide +kernel
theorem dX10_readUnit_131 : decode cX10_readUnit 131 = .ok (.bipush 41, 2) := by decide +kernel
theorem dX10_readUnit_133 : decode cX10_readUnit 133 = .ok (.invokevirtual 160, 3) := by decide +kernel
theorem dX10_readUnit_136 : decode cX10_readUnit 136 = .ok (.ifCond .eq 10, 3) := by decide +kernel
theorem dX10_readUnit_139 : decode cX10_readUnit 139 = .ok (.aload_n 0, 1) := by decide +kernel
theorem dX10_readUnit_140 : decode cX10_readUnit 140 = .ok (.invokevirtual 163, 3) := by decide +kernel
theorem dX10_readUnit_143 : decode cX10_readUnit 143 = .ok (.goto 8, 3) := by decide +kernel
theorem dX10_readUnit_146 : decode cX10_readUnit 146 = .ok (.aload_n 0, 1) := by decide +kernel
theorem dX10_readUnit_147 : decode cX10_readUnit 147 = .ok (.iconst 2, 1) := by decide +kernel
theorem dX10_readUnit_148 : decode cX10_readUnit 148 = .ok (.invokevirtual 166, 3) := by decide +kernel
theorem dX10_readUnit_151 : decode cX10_readUnit 151 = .ok (.aload_n 0, 1) := by decide +kernel
theorem dX10_readUnit_152 : decode cX10_readUnit 152 = .ok (.iload_n 1, 1) := by decide +kernel
theorem dX10_readUnit_153 : decode cX10_readUnit 153 = .ok (.invokevirtual 186, 3) := by decide +kernel
theorem dX10_readUnit_156 : decode cX10_readUnit 156 = .ok (.aload_n 0, 1) := by decide +kernel
theorem dX10_readUnit_157 : decode cX10_readUnit 157 = .ok (.iload_n 2, 1) := by decide +kernel
theorem dX10_readUnit_158 : decode cX10_readUnit 158 = .ok (.invokevirtual 177, 3) := by decide +kernel
theorem dX10_readUnit_161 : decode cX10_readUnit 161 = .ok (.return_, 1) := by decide +kernel
theorem dX10_readBoth_0 : decode cX10_readBoth 0 = .ok (.aload_n 0, 1) := by decide +kernel
theorem dX10_readBoth_1 : decode cX10_readBoth 1 = .ok (.iload_n 1, 1) := by decide +kernel
theorem dX10_readBoth_2 : decode cX10_readBoth 2 = .ok (.invokevirtual 204, 3) := by decide +kernel
theorem dX10_readBoth_5 : decode cX10_readBoth 5 = .ok (.aload_n 0, 1) := by decide +kernel
theorem dX10_readBoth_6 : decode cX10_readBoth 6 = .ok (.bipush 21, 2) := by decide +kernel
theorem dX10_readBoth_8 : decode cX10_readBoth 8 = .ok (.invokevirtual 189, 3) := by decide +kernel
theorem dX10_readBoth_11 : decode cX10_readBoth 11 = .ok (.ifCond .eq 18, 3) := by decide +kernel
theorem dX10_readBoth_14 : decode cX10_readBoth 14 = .ok (.aload_n 0, 1) := by decide +kernel
theorem dX10_readBoth_15 : decode cX10_readBoth 15 = .ok (.iload_n 1, 1) := by decide +kernel
theorem dX10_readBoth_16 : decode cX10_readBoth 16 = .ok (.invokevirtual 204, 3) := by decide +kernel
theorem dX10_readBoth_19 : decode cX10_readBoth 19 = .ok (.aload_n 0, 1) := by decide +kernel
theorem dX10_readBoth_20 : decode cX10_readBoth 20 = .ok (.sipush 3007, 3) := by decide +kernel
theorem dX10_readBoth_23 : decode cX10_readBoth 23 = .ok (.invokevirtual 177, 3) := by decide +kernel
theorem dX10_readBoth_26 : decode cX10_readBoth 26 = .ok (.goto (-21), 3) := by decide +kernel
theorem dX10_readBoth_29 : decode cX10_readBoth 29 = .ok (.return_, 1) := by decide +kernel
theorem dX10_readTruth_0 : decode cX10_readTruth 0 = .ok (.aload_n 0, 1) := by decide +kernel
theorem dX10_readTruth_1 : decode cX10_readTruth 1 = .ok (.iload_n 1, 1) := by decide +kernel
theorem dX10_readTruth_2 : decode cX10_readTruth 2 = .ok (.invokevirtual 207, 3) := by decide +kernel
theorem dX10_readTruth_5 : decode cX10_readTruth 5 = .ok (.aload_n 0, 1) := by decide +kernel
theorem dX10_readTruth_6 : decode cX10_readTruth 6 = .ok (.bipush 22, 2) := by decide +kernel
theorem dX10_readTruth_8 : decode cX10_readTruth 8 = .ok (.invokevirtual 189, 3) := by decide +kernel
theorem dX10_readTruth_11 : decode cX10_readTruth 11 = .ok (.ifCond .eq 18, 3) := by decide +kernel
theorem dX10_readTruth_14 : decode cX10_readTruth 14 = .ok (.aload_n 0, 1) := by decide +kernel
theorem dX10_readTruth_15 : decode cX10_readTruth 15 = .ok (.iload_n 1, 1) := by decide +kernel
theorem dX10_readTruth_16 : decode cX10_readTruth 16 = .ok (.invokevirtual 207, 3) := by decide +kernel
theorem dX10_readTruth_19 : decode cX10_readTruth 19 = .ok (.aload_n 0, 1) := by decide +kernel
theorem dX10_readTruth_20 : decode cX10_readTruth 20 = .ok (.sipush 3008, 3) := by decide +kernel
theorem dX10_readTruth_23 : decode cX10_readTruth 23 = .ok (.invokevirtual 177, 3) := by decide +kernel
theorem dX10_readTruth_26 : decode cX10_readTruth 26 = .ok (.goto (-21), 3) := by decide +kernel
theorem dX10_readTruth_29 : decode cX10_readTruth 29 = .ok (.return_, 1) := by decide +kernel
theorem dX10_readFlag_0 : decode cX10_readFlag 0 = .ok (.aload_n 0, 1) := by decide +kernel
theorem dX10_readFlag_1 : decode cX10_readFlag 1 = .ok (.iconst 2, 1) := by decide +kernel
theorem dX10_readFlag_2 : decode cX10_readFlag 2 = .ok (.invokevirtual 189, 3) := by decide +kernel
theorem dX10_readFlag_5 : decode cX10_readFlag 5 = .ok (.ifCond .eq 22, 3) := by decide +kernel
theorem dX10_readFlag_8 : decode cX10_readFlag 8 = .ok (.aload_n 0, 1) := by decide +kernel
theorem dX10_readFlag_9 : decode cX10_readFlag 9 = .ok (.getfield 24, 3) := by decide +kernel
theorem dX10_readFlag_12 : decode cX10_readFlag 12 = .ok (.bipush 13, 2) := by decide +kernel
theorem dX10_readFlag_14 : decode cX10_readFlag 14 = .ok (.iload_n 1, 1) := by decide +kernel
theorem dX10_readFlag_15 : decode cX10_readFlag 15 = .ok (.iadd, 1) := by decide +kernel
theorem dX10_readFlag_16 : decode cX10_readFlag 16 = .ok (.aload_n 0, 1) := by decide +kernel
theorem dX10_readFlag_17 : decode cX10_readFlag 17 = .ok (.iconst 0, 1) := by decide +kernel
theorem dX10_readFlag_18 : decode cX10_readFlag 18 = .ok (.bipush 9, 2) := by decide +kernel
theorem dX10_readFlag_20 : decode cX10_readFlag 20 = .ok (.invokevirtual 210, 3) := by decide +kernel
theorem dX10_readFlag_23 : decode cX10_readFlag 23 = .ok (.iastore, 1) := by decide +kernel
theorem dX10_readFlag_24 : decode cX10_readFlag 24 = .ok (.goto 59, 3) := by decide +kernel
theorem dX10_readFlag_27 : decode cX10_readFlag 27 = .ok (.aload_n 0, 1) := by decide +kernel
theorem dX10_readFlag_28 : decode cX10_readFlag 28 = .ok (.iconst 3, 1) := by decide +kernel
theorem dX10_readFlag_29 : decode cX10_readFlag 29 = .ok (.invokevirtual 189, 3) := by decide +kernel
theorem dX10_readFlag_32 : decode cX10_readFlag 32 = .ok (.ifCond .eq 22, 3) := by decide +kernel
theorem dX10_readFlag_35 : decode cX10_readFlag 35 = .ok (.aload_n 0, 1) := by decide +kernel
theorem dX10_readFlag_36 : decode cX10_readFlag 36 = .ok (.getfield 24, 3) := by decide +kernel
theorem dX10_readFlag_39 : decode cX10_readFlag 39 = .ok (.bipush 19, 2) := by decide +kernel
theorem dX10_readFlag_41 : decode cX10_readFlag 41 = .ok (.iload_n 1, 1) := by decide +kernel
theorem dX10_readFlag_42 : decode cX10_readFlag 42 = .ok (.iadd, 1) := by decide +kernel
theorem dX10_readFlag_43 : decode cX10_readFlag 43 = .ok (.aload_n 0, 1) := by decide +kernel
theorem dX10_readFlag_44 : decode cX10_readFlag 44 = .ok (.iconst 0, 1) := by decide +kernel
theorem dX10_readFlag_45 : decode cX10_readFlag 45 = .ok (.bipush 9, 2) := by decide +kernel
theorem dX10_readFlag_47 : decode cX10_readFlag 47 = .ok (.invokevirtual 210, 3) := by decide +kernel
theorem dX10_readFlag_50 : decode cX10_readFlag 50 = .ok (.iastore, 1) := by decide +kernel
theorem dX10_readFlag_51 : decode cX10_readFlag 51 = .ok (.goto 32, 3) := by decide +kernel
theorem dX10_readFlag_54 : decode cX10_readFlag 54 = .ok (.aload_n 0, 1) := by decide +kernel
theorem dX10_readFlag_55 : decode cX10_readFlag 55 = .ok (.iconst 4, 1) := by decide +kernel
theorem dX10_readFlag_56 : decode cX10_readFlag 56 = .ok (.invokevirtual 189, 3) := by decide +kernel
theorem dX10_readFlag_59 : decode cX10_readFlag 59 = .ok (.ifCond .eq 22, 3) := by decide +kernel
theorem dX10_readFlag_62 : decode cX10_readFlag 62 = .ok (.aload_n 0, 1) := by decide +kernel
theorem dX10_readFlag_63 : decode cX10_readFlag 63 = .ok (.getfield 24, 3) := by decide +kernel
theorem dX10_readFlag_66 : decode cX10_readFlag 66 = .ok (.bipush 25, 2) := by decide +kernel
theorem dX10_readFlag_68 : decode cX10_readFlag 68 = .ok (.iload_n 1, 1) := by decide +kernel
theorem dX10_readFlag_69 : decode cX10_readFlag 69 = .ok (.iadd, 1) := by decide +kernel
theorem dX10_readFlag_70 : decode cX10_readFlag 70 = .ok (.aload_n 0, 1) := by decide +kernel
theorem dX10_readFlag_71 : decode cX10_readFlag 71 = .ok (.iconst 0, 1) := by decide +kernel
theorem dX10_readFlag_72 : decode cX10_readFlag 72 = .ok (.bipush 9, 2) := by decide +kernel
theorem dX10_readFlag_74 : decode cX10_readFlag 74 = .ok (.invokevirtual 210, 3) := by decide +kernel
theorem dX10_readFlag_77 : decode cX10_readFlag 77 = .ok (.iastore, 1) := by decide +kernel
theorem dX10_readFlag_78 : decode cX10_readFlag 78 = .ok (.goto 5, 3) := by decide +kernel
theorem dX10_readFlag_81 : decode cX10_readFlag 81 = .ok (.iconst 0, 1) := by decide +kernel
theorem dX10_readFlag_82 : decode cX10_readFlag 82 = .ok (.ireturn, 1) := by decide +kernel
theorem dX10_readFlag_83 : decode cX10_readFlag 83 = .ok (.aload_n 0, 1) := by decide +kernel
theorem dX10_readFlag_84 : decode cX10_readFlag 84 = .ok (.getfield 154, 3) := by decide +kernel
theorem dX10_readFlag_87 : decode cX10_readFlag 87 = .ok (.ifCond .ne 7, 3) := by decide +kernel
theorem dX10_readFlag_90 : decode cX10_readFlag 90 = .ok (.iconst 1, 1) := by decide +kernel
theorem dX10_readFlag_91 : decode cX10_readFlag 91 = .ok (.goto 4, 3) := by decide +kernel
theorem dX10_readFlag_94 : decode cX10_readFlag 94 = .ok (.iconst 0, 1) := by decide +kernel
theorem dX10_readFlag_95 : decode cX10_readFlag 95 = .ok (.ireturn, 1) := by decide +kernel
theorem dX10_readPerson_0 : decode cX10_readPerson 0 = .ok (.aload_n 0, 1) := by decide +kernel
theorem dX10_readPerson_1 : decode cX10_readPerson 1 = .ok (.getfield 24, 3) := by decide +kernel
theorem dX10_readPerson_4 : decode cX10_readPerson 4 = .ok (.iconst 3, 1) := by decide +kernel
theorem dX10_readPerson_5 : decode cX10_readPerson 5 = .ok (.iaload, 1) := by decide +kernel
theorem dX10_readPerson_6 : decode cX10_readPerson 6 = .ok (.istore_n 1, 1) := by decide +kernel
theorem dX10_readPerson_7 : decode cX10_readPerson 7 = .ok (.iload_n 1, 1) := by decide +kernel
theorem dX10_readPerson_8 : decode cX10_readPerson 8 = .ok (.bipush 6, 2) := by decide +kernel
theorem dX10_readPerson_10 : decode cX10_readPerson 10 = .ok (.if_icmp .ne 8, 3) := by decide +kernel
theorem dX10_readPerson_13 : decode cX10_readPerson 13 = .ok (.aload_n 0, 1) := by decide +kernel
theorem dX10_readPerson_14 : decode cX10_readPerson 14 = .ok (.iconst 4, 1) := by decide +kernel
theorem dX10_readPerson_15 : decode cX10_readPerson 15 = .ok (.invokevirtual 166, 3) := by decide +kernel
theorem dX10_readPerson_18 : decode cX10_readPerson 18 = .ok (.aload_n 0, 1) := by decide +kernel
theorem dX10_readPerson_19 : decode cX10_readPerson 19 = .ok (.getfield 154, 3) := by decide +kernel
theorem dX10_readPerson_22 : decode cX10_readPerson 22 = .ok (.ifCond .eq 4, 3) := by decide +kernel
theorem dX10_readPerson_25 : decode cX10_readPerson 25 = .ok (.return_, 1) := by decide +kernel
theorem dX10_readPerson_26 : decode cX10_readPerson 26 = .ok (.aload_n 0, 1) := by decide +kernel
theorem dX10_readPerson_27 : decode cX10_readPerson 27 = .ok (.invokevirtual 163, 3) := by decide +kernel
theorem dX10_readPerson_30 : decode cX10_readPerson 30 = .ok (.aload_n 0, 1) := by decide +kernel
theorem dX10_readPerson_31 : decode cX10_readPerson 31 = .ok (.getfield 24, 3) := by decide +kernel
theorem dX10_readPerson_34 : decode cX10_readPerson 34 = .ok (.bipush 64, 2) := by decide +kernel
theorem dX10_readPerson_36 : decode cX10_readPerson 36 = .ok (.iload_n 1, 1) := by decide +kernel
theorem dX10_readPerson_37 : decode cX10_readPerson 37 = .ok (.iadd, 1) := by decide +kernel
theorem dX10_readPerson_38 : decode cX10_readPerson 38 = .ok (.aload_n 0, 1) := by decide +kernel
theorem dX10_readPerson_39 : decode cX10_readPerson 39 = .ok (.iconst 0, 1) := by decide +kernel
theorem dX10_readPerson_40 : decode cX10_readPerson 40 = .ok (.aload_n 0, 1) := by decide +kernel
theorem dX10_readPerson_41 : decode cX10_readPerson 41 = .ok (.getfield 24, 3) := by decide +kernel
theorem dX10_readPerson_44 : decode cX10_readPerson 44 = .ok (.iconst 1, 1) := by decide +kernel
theorem dX10_readPerson_45 : decode cX10_readPerson 45 = .ok (.iaload, 1) := by decide +kernel
theorem dX10_readPerson_46 : decode cX10_readPerson 46 = .ok (.aload_n 0, 1) := by decide +kernel
theorem dX10_readPerson_47 : decode cX10_readPerson 47 = .ok (.getfield 24, 3) := by decide +kernel
theorem dX10_readPerson_50 : decode cX10_readPerson 50 = .ok (.iconst 2, 1) := by decide +kernel
theorem dX10_readPerson_51 : decode cX10_readPerson 51 = .ok (.iaload, 1) := by decide +kernel
theorem dX10_readPerson_52 : decode cX10_readPerson 52 = .ok (.imul, 1) := by decide +kernel
theorem dX10_readPerson_53 : decode cX10_readPerson 53 = .ok (.iconst 1, 1) := by decide +kernel
theorem dX10_readPerson_54 : decode cX10_readPerson 54 = .ok (.isub, 1) := by decide +kernel
theorem dX10_readPerson_55 : decode cX10_readPerson 55 = .ok (.invokevirtual 210, 3) := by decide +kernel
theorem dX10_readPerson_58 : decode cX10_readPerson 58 = .ok (.iastore, 1) := by decide +kernel
theorem dX10_readPerson_59 : decode cX10_readPerson 59 = .ok (.aload_n 0, 1) := by decide +kernel
theorem dX10_readPerson_60 : decode cX10_readPerson 60 = .ok (.getfield 154, 3) := by decide +kernel
theorem dX10_readPerson_63 : decode cX10_readPerson 63 = .ok (.ifCond .ne 14, 3) := by decide +kernel
theorem dX10_readPerson_66 : decode cX10_readPerson 66 = .ok (.aload_n 0, 1) := by decide +kernel
theorem dX10_readPerson_67 : decode cX10_readPerson 67 = .ok (.iload_n 1, 1) := by decide +kernel
theorem dX10_readPerson_68 : decode cX10_readPerson 68 = .ok (.invokevirtual 214, 3) := by decide +kernel
theorem dX10_readPerson_71 : decode cX10_readPerson 71 = .ok (.ifCond .eq 6, 3) := by decide +kernel
theorem dX10_readPerson_74 : decode cX10_readPerson 74 = .ok (.goto (-15), 3) := by decide +kernel
theorem dX10_readPerson_77 : decode cX10_readPerson 77 = .ok (.aload_n 0, 1) := by decide +kernel
theorem dX10_readPerson_78 : decode cX10_readPerson 78 = .ok (.getfield 154, 3) := by decide +kernel
theorem dX10_readPerson_81 : decode cX10_readPerson 81 = .ok (.ifCond .ne 13, 3) := by decide +kernel
theorem dX10_readPerson_84 : decode cX10_readPerson 84 = .ok (.aload_n 0, 1) := by decide +kernel
theorem dX10_readPerson_85 : decode cX10_readPerson 85 = .ok (.getfield 24, 3) := by decide +kernel
theorem dX10_readPerson_88 : decode cX10_readPerson 88 = .ok (.iconst 3, 1) := by decide +kernel
theorem dX10_readPerson_89 : decode cX10_readPerson 89 = .ok (.dup2, 1) := by decide +kernel
theorem dX10_readPerson_90 : decode cX10_readPerson 90 = .ok (.iaload, 1) := by decide +kernel
theorem dX10_readPerson_91 : decode cX10_readPerson 91 = .ok (.iconst 1, 1) := by decide +kernel
theorem dX10_readPerson_92 : decode cX10_readPerson 92 = .ok (.iadd, 1) := by decide +kernel
theorem dX10_readPerson_93 : decode cX10_readPerson 93 = .ok (.iastore, 1) := by decide +kernel
theorem dX10_readPerson_94 : decode cX10_readPerson 94 = .ok (.return_, 1) := by decide +kernel
theorem dX10_readNames_0 : decode cX10_readNames 0 = .ok (.aload_n 0, 1) := by decide +kernel
theorem dX10_readNames_1 : decode cX10_readNames 1 = .ok (.getfield 24, 3) := by decide +kernel
theorem dX10_readNames_4 : decode cX10_readNames 4 = .ok (.bipush 31, 2) := by decide +kernel
theorem dX10_readNames_6 : decode cX10_readNames 6 = .ok (.iaload, 1) := by decide +kernel
theorem dX10_readNames_7 : decode cX10_readNames 7 = .ok (.istore_n 1, 1) := by decide +kernel
theorem dX10_readNames_8 : decode cX10_readNames 8 = .ok (.iload_n 1, 1) := by decide +kernel
theorem dX10_readNames_9 : decode cX10_readNames 9 = .ok (.bipush 8, 2) := by decide +kernel
theorem dX10_readNames_11 : decode cX10_readNames 11 = .ok (.if_icmp .ne 8, 3) := by decide +kernel
theorem dX10_readNames_14 : decode cX10_readNames 14 = .ok (.aload_n 0, 1) := by decide +kernel
theorem dX10_readNames_15 : decode cX10_readNames 15 = .ok (.iconst 4, 1) := by decide +kernel
theorem dX10_readNames_16 : decode cX10_readNames 16 = .ok (.invokevirtual 166, 3) := by decide +kernel
theorem dX10_readNames_19 : decode cX10_readNames 19 = .ok (.aload_n 0, 1) := by decide +kernel
theorem dX10_readNames_20 : decode cX10_readNames 20 = .ok (.getfield 154, 3) := by decide +kernel
theorem dX10_readNames_23 : decode cX10_readNames 23 = .ok (.ifCond .eq 4, 3) := by decide +kernel
theorem dX10_readNames_26 : decode cX10_readNames 26 = .ok (.return_, 1) := by decide +kernel
theorem dX10_readNames_27 : decode cX10_readNames 27 = .ok (.aload_n 0, 1) := by decide +kernel
theorem dX10_readNames_28 : decode cX10_readNames 28 = .ok (.invokevirtual 163, 3) := by decide +kernel
theorem dX10_readNames_31 : decode cX10_readNames 31 = .ok (.bipush 32, 2) := by decide +kernel
theorem dX10_readNames_33 : decode cX10_readNames 33 = .ok (.iconst 4, 1) := by decide +kernel
theorem dX10_readNames_34 : decode cX10_readNames 34 = .ok (.iload_n 1, 1) := by decide +kernel
theorem dX10_readNames_35 : decode cX10_readNames 35 = .ok (.imul, 1) := by decide +kernel
theorem dX10_readNames_36 : decode cX10_readNames 36 = .ok (.iadd, 1) := by decide +kernel
theorem dX10_readNames_37 : decode cX10_readNames 37 = .ok (.istore_n 2, 1) := by decide +kernel
theorem dX10_readNames_38 : decode cX10_readNames 38 = .ok (.aload_n 0, 1) := by decide +kernel
theorem dX10_readNames_39 : decode cX10_readNames 39 = .ok (.getfield 24, 3) := by decide +kernel
theorem dX10_readNames_42 : decode cX10_readNames 42 = .ok (.iload_n 2, 1) := by decide +kernel
theorem dX10_readNames_43 : decode cX10_readNames 43 = .ok (.aload_n 0, 1) := by decide +kernel
theorem dX10_readNames_44 : decode cX10_readNames 44 = .ok (.iconst 0, 1) := by decide +kernel
theorem dX10_readNames_45 : decode cX10_readNames 45 = .ok (.aload_n 0, 1) := by decide +kernel
theorem dX10_readNames_46 : decode cX10_readNames 46 = .ok (.getfield 24, 3) := by decide +kernel
theorem dX10_readNames_49 : decode cX10_readNames 49 = .ok (.iconst 3, 1) := by decide +kernel
theorem dX10_readNames_50 : decode cX10_readNames 50 = .ok (.iaload, 1) := by decide +kernel
theorem dX10_readNames_51 : decode cX10_readNames 51 = .ok (.iconst 1, 1) := by decide +kernel
theorem dX10_readNames_52 : decode cX10_readNames 52 = .ok (.isub, 1) := by decide +kernel
theorem dX10_readNames_53 : decode cX10_readNames 53 = .ok (.invokevirtual 210, 3) := by decide +kernel
theorem dX10_readNames_56 : decode cX10_readNames 56 = .ok (.iastore, 1) := by decide +kernel
theorem dX10_readNames_57 : decode cX10_readNames 57 = .ok (.aload_n 0, 1) := by decide +kernel
theorem dX10_readNames_58 : decode cX10_readNames 58 = .ok (.bipush 25, 2) := by decide +kernel
theorem dX10_readNames_60 : decode cX10_readNames 60 = .ok (.invokevirtual 160, 3) := by decide +kernel
theorem dX10_readNames_63 : decode cX10_readNames 63 = .ok (.ifCond .eq 21, 3) := by decide +kernel
theorem dX10_readNames_66 : decode cX10_readNames 66 = .ok (.aload_n 0, 1) := by decide +kernel
theorem dX10_readNames_67 : decode cX10_readNames 67 = .ok (.getfield 149, 3) := by decide +kernel
theorem dX10_readNames_70 : decode cX10_readNames 70 = .ok (.aload_n 0, 1) := by decide +kernel
theorem dX10_readNames_71 : decode cX10_readNames 71 = .ok (.getfield 24, 3) := by decide +kernel
theorem dX10_readNames_74 : decode cX10_readNames 74 = .ok (.iload_n 2, 1) := by decide +kernel
theorem dX10_readNames_75 : decode cX10_readNames 75 = .ok (.iaload, 1) := by decide +kernel
theorem dX10_readNames_76 : decode cX10_readNames 76 = .ok (.if_icmp .ne 8, 3) := by decide +kernel
theorem dX10_readNames_79 : decode cX10_readNames 79 = .ok (.aload_n 0, 1) := by decide +kernel
theorem dX10_readNames_80 : decode cX10_readNames 80 = .ok (.iconst 3, 1) := by decide +kernel
theorem dX10_readNames_81 : decode cX10_readNames 81 = .ok (.invokevirtual 166, 3) := by decide +kernel
theorem dX10_readNames_84 : decode cX10_readNames 84 = .ok (.aload_n 0, 1) := by decide +kernel
theorem dX10_readNames_85 : decode cX10_readNames 85 = .ok (.getfield 24, 3) := by decide +kernel
theorem dX10_readNames_88 : decode cX10_readNames 88 = .ok (.iload_n 2, 1) := by decide +kernel
theorem dX10_readNames_89 : decode cX10_readNames 89 = .ok (.iconst 1, 1) := by decide +kernel
theorem dX10_readNames_90 : decode cX10_readNames 90 = .ok (.iadd, 1) := by decide +kernel
theorem dX10_readNames_91 : decode cX10_readNames 91 = .ok (.aload_n 0, 1) := by decide +kernel
theorem dX10_readNames_92 : decode cX10_readNames 92 = .ok (.iconst 0, 1) := by decide +kernel
theorem dX10_readNames_93 : decode cX10_readNames 93 = .ok (.aload_n 0, 1) := by decide +kernel
theorem dX10_readNames_94 : decode cX10_readNames 94 = .ok (.getfield 24, 3) := by decide +kernel
theorem dX10_readNames_97 : decode cX10_readNames 97 = .ok (.iconst 3, 1) := by decide +kernel
theorem dX10_readNames_98 : decode cX10_readNames 98 = .ok (.iaload, 1) := by decide +kernel
theorem dX10_readNames_99 : decode cX10_readNames 99 = .ok (.iconst 1, 1) := by decide +kernel
theorem dX10_readNames_100 : decode cX10_readNames 100 = .ok (.isub, 1) := by decide +kernel
theorem dX10_readNames_101 : decode cX10_readNames 101 = .ok (.invokevirtual 210, 3) := by decide +kernel
theorem dX10_readNames_104 : decode cX10_readNames 104 = .ok (.iastore, 1) := by decide +kernel
theorem dX10_readNames_105 : decode cX10_readNames 105 = .ok (.aload_n 0, 1) := by decide +kernel
theorem dX10_readNames_106 : decode cX10_readNames 106 = .ok (.bipush 6, 2) := by decide +kernel
theorem dX10_readNames_108 : decode cX10_readNames 108 = .ok (.invokevirtual 189, 3) := by decide +kernel
theorem dX10_readNames_111 : decode cX10_readNames 111 = .ok (.ifCond .ne 8, 3) := by decide +kernel
theorem dX10_readNames_114 : decode cX10_readNames 114 = .ok (.aload_n 0, 1) := by decide +kernel
theorem dX10_readNames_115 : decode cX10_readNames 115 = .ok (.iconst 2, 1) := by decide +kernel
theorem dX10_readNames_116 : decode cX10_readNames 116 = .ok (.invokevirtual 166, 3) := by decide +kernel
theorem dX10_readNames_119 : decode cX10_readNames 119 = .ok (.aload_n 0, 1) := by decide +kernel
theorem dX10_readNames_120 : decode cX10_readNames 120 = .ok (.getfield 24, 3) := by decide +kernel
theorem dX10_readNames_123 : decode cX10_readNames 123 = .ok (.iload_n 2, 1) := by decide +kernel
theorem dX10_readNames_124 : decode cX10_readNames 124 = .ok (.iconst 2, 1) := by decide +kernel
theorem dX10_readNames_125 : decode cX10_readNames 125 = .ok (.iadd, 1) := by decide +kernel
theorem dX10_readNames_126 : decode cX10_readNames 126 = .ok (.aload_n 0, 1) := by decide +kernel
theorem dX10_readNames_127 : decode cX10_readNames 127 = .ok (.iconst 0, 1) := by decide +kernel
theorem dX10_readNames_128 : decode cX10_readNames 128 = .ok (.bipush 99, 2) := by decide +kernel
theorem dX10_readNames_130 : decode cX10_readNames 130 = .ok (.invokevirtual 210, 3) := by decide +kernel
theorem dX10_readNames_133 : decode cX10_readNames 133 = .ok (.iastore, 1) := by decide +kernel
theorem dX10_readNames_134 : decode cX10_readNames 134 = .ok (.aload_n 0, 1) := by decide +kernel
theorem dX10_readNames_135 : decode cX10_readNames 135 = .ok (.getfield 24, 3) := by decide +kernel
theorem dX10_readNames_138 : decode cX10_readNames 138 = .ok (.iload_n 2, 1) := by decide +kernel
theorem dX10_readNames_139 : decode cX10_readNames 139 = .ok (.iconst 3, 1) := by decide +kernel
theorem dX10_readNames_140 : decode cX10_readNames 140 = .ok (.iadd, 1) := by decide +kernel
theorem dX10_readNames_141 : decode cX10_readNames 141 = .ok (.bipush 10, 2) := by decide +kernel
theorem dX10_readNames_143 : decode cX10_readNames 143 = .ok (.iastore, 1) := by decide +kernel
theorem dX10_readNames_144 : decode cX10_readNames 144 = .ok (.aload_n 0, 1) := by decide +kernel
theorem dX10_readNames_145 : decode cX10_readNames 145 = .ok (.getfield 154, 3) := by decide +kernel
theorem dX10_readNames_148 : decode cX10_readNames 148 = .ok (.ifCond .ne 30, 3) := by decide +kernel
theorem dX10_readNames_151 : decode cX10_readNames 151 = .ok (.aload_n 0, 1) := by decide +kernel
theorem dX10_readNames_152 : decode cX10_readNames 152 = .ok (.bipush 7, 2) := by decide +kernel
theorem dX10_readNames_154 : decode cX10_readNames 154 = .ok (.invokevirtual 189, 3) := by decide +kernel
theorem dX10_readNames_157 : decode cX10_readNames 157 = .ok (.ifCond .eq 21, 3) := by decide +kernel
theorem dX10_readNames_160 : decode cX10_readNames 160 = .ok (.aload_n 0, 1) := by decide +kernel
theorem dX10_readNames_161 : decode cX10_readNames 161 = .ok (.getfield 24, 3) := by decide +kernel
theorem dX10_readNames_164 : decode cX10_readNames 164 = .ok (.iload_n 2, 1) := by decide +kernel
theorem dX10_readNames_165 : decode cX10_readNames 165 = .ok (.iconst 3, 1) := by decide +kernel
theorem dX10_readNames_166 : decode cX10_readNames 166 = .ok (.iadd, 1) := by decide +kernel
theorem dX10_readNames_167 : decode cX10_readNames 167 = .ok (.aload_n 0, 1) := by decide +kernel
theorem dX10_readNames_168 : decode cX10_readNames 168 = .ok (.iconst 0, 1) := by decide +kernel
theorem dX10_readNames_169 : decode cX10_readNames 169 = .ok (.bipush 10, 2) := by decide +kernel
theorem dX10_readNames_171 : decode cX10_readNames 171 = .ok (.invokevirtual 210, 3) := by decide +kernel
theorem dX10_readNames_174 : decode cX10_readNames 174 = .ok (.iastore, 1) := by decide +kernel
theorem dX10_readNames_175 : decode cX10_readNames 175 = .ok (.goto (-31), 3) := by decide +kernel
theorem dX10_readNames_178 : decode cX10_readNames 178 = .ok (.aload_n 0, 1) := by decide +kernel
theorem dX10_readNames_179 : decode cX10_readNames 179 = .ok (.getfield 154, 3) := by decide +kernel
theorem dX10_readNames_182 : decode cX10_readNames 182 = .ok (.ifCond .ne 14, 3) := by decide +kernel
theorem dX10_readNames_185 : decode cX10_readNames 185 = .ok (.aload_n 0, 1) := by decide +kernel
theorem dX10_readNames_186 : decode cX10_readNames 186 = .ok (.getfield 24, 3) := by decide +kernel
theorem dX10_readNames_189 : decode cX10_readNames 189 = .ok (.bipush 31, 2) := by decide +kernel
theorem dX10_readNames_191 : decode cX10_readNames 191 = .ok (.dup2, 1) := by decide +kernel
theorem dX10_readNames_192 : decode cX10_readNames 192 = .ok (.iaload, 1) := by decide +kernel
theorem dX10_readNames_193 : decode cX10_readNames 193 = .ok (.iconst 1, 1) := by decide +kernel
theorem dX10_readNames_194 : decode cX10_readNames 194 = .ok (.iadd, 1) := by decide +kernel
theorem dX10_readNames_195 : decode cX10_readNames 195 = .ok (.iastore, 1) := by decide +kernel
theorem dX10_readNames_196 : decode cX10_readNames 196 = .ok (.return_, 1) := by decide +kernel
theorem dX10_readLaw_0 : decode cX10_readLaw 0 = .ok (.aload_n 0, 1) := by decide +kernel
theorem dX10_readLaw_1 : decode cX10_readLaw 1 = .ok (.invokevirtual 163, 3) := by decide +kernel
theorem dX10_readLaw_4 : decode cX10_readLaw 4 = .ok (.aload_n 0, 1) := by decide +kernel
theorem dX10_readLaw_5 : decode cX10_readLaw 5 = .ok (.bipush 31, 2) := by decide +kernel
theorem dX10_readLaw_7 : decode cX10_readLaw 7 = .ok (.invokevirtual 189, 3) := by decide +kernel
theorem dX10_readLaw_10 : decode cX10_readLaw 10 = .ok (.ifCond .ne 8, 3) := by decide +kernel
theorem dX10_readLaw_13 : decode cX10_readLaw 13 = .ok (.aload_n 0, 1) := by decide +kernel
theorem dX10_readLaw_14 : decode cX10_readLaw 14 = .ok (.iconst 2, 1) := by decide +kernel
theorem dX10_readLaw_15 : decode cX10_readLaw 15 = .ok (.invokevirtual 166, 3) := by decide +kernel
theorem dX10_readLaw_18 : decode cX10_readLaw 18 = .ok (.aload_n 0, 1) := by decide +kernel
theorem dX10_readLaw_19 : decode cX10_readLaw 19 = .ok (.getfield 24, 3) := by decide +kernel
theorem dX10_readLaw_22 : decode cX10_readLaw 22 = .ok (.sipush 472, 3) := by decide +kernel
theorem dX10_readLaw_25 : decode cX10_readLaw 25 = .ok (.iaload, 1) := by decide +kernel
theorem dX10_readLaw_26 : decode cX10_readLaw 26 = .ok (.istore_n 2, 1) := by decide +kernel
theorem dX10_readLaw_27 : decode cX10_readLaw 27 = .ok (.aload_n 0, 1) := by decide +kernel
theorem dX10_readLaw_28 : decode cX10_readLaw 28 = .ok (.iload_n 1, 1) := by decide +kernel
theorem dX10_readLaw_29 : decode cX10_readLaw 29 = .ok (.putfield 174, 3) := by decide +kernel
theorem dX10_readLaw_32 : decode cX10_readLaw 32 = .ok (.iload_n 1, 1) := by decide +kernel
theorem dX10_readLaw_33 : decode cX10_readLaw 33 = .ok (.iconst 2, 1) := by decide +kernel
theorem dX10_readLaw_34 : decode cX10_readLaw 34 = .ok (.if_icmp .ne 11, 3) := by decide +kernel
theorem dX10_readLaw_37 : decode cX10_readLaw 37 = .ok (.aload_n 0, 1) := by decide +kernel
theorem dX10_readLaw_38 : decode cX10_readLaw 38 = .ok (.iconst 0, 1) := by decide +kernel
theorem dX10_readLaw_39 : decode cX10_readLaw 39 = .ok (.invokevirtual 195, 3) := by decide +kernel
theorem dX10_readLaw_42 : decode cX10_readLaw 42 = .ok (.goto 8, 3) := by decide +kernel
theorem dX10_readLaw_45 : decode cX10_readLaw 45 = .ok (.aload_n 0, 1) := by decide +kernel
theorem dX10_readLaw_46 : decode cX10_readLaw 46 = .ok (.iconst 0, 1) := by decide +kernel
theorem dX10_readLaw_47 : decode cX10_readLaw 47 = .ok (.invokevirtual 186, 3) := by decide +kernel
theorem dX10_readLaw_50 : decode cX10_readLaw 50 = .ok (.aload_n 0, 1) := by decide +kernel
theorem dX10_readLaw_51 : decode cX10_readLaw 51 = .ok (.getfield 154, 3) := by decide +kernel
theorem dX10_readLaw_54 : decode cX10_readLaw 54 = .ok (.ifCond .eq 4, 3) := by decide +kernel
theorem dX10_readLaw_57 : decode cX10_readLaw 57 = .ok (.return_, 1) := by decide +kernel
theorem dX10_readLaw_58 : decode cX10_readLaw 58 = .ok (.aload_n 0, 1) := by decide +kernel
theorem dX10_readLaw_59 : decode cX10_readLaw 59 = .ok (.getfield 24, 3) := by decide +kernel
theorem dX10_readLaw_62 : decode cX10_readLaw 62 = .ok (.iconst 4, 1) := by decide +kernel
theorem dX10_readLaw_63 : decode cX10_readLaw 63 = .ok (.iload_n 1, 1) := by decide +kernel
theorem dX10_readLaw_64 : decode cX10_readLaw 64 = .ok (.iadd, 1) := by decide +kernel
theorem dX10_readLaw_65 : decode cX10_readLaw 65 = .ok (.iconst 1, 1) := by decide +kernel
theorem dX10_readLaw_66 : decode cX10_readLaw 66 = .ok (.iastore, 1) := by decide +kernel
theorem dX10_readLaw_67 : decode cX10_readLaw 67 = .ok (.aload_n 0, 1) := by decide +kernel
theorem dX10_readLaw_68 : decode cX10_readLaw 68 = .ok (.getfield 24, 3) := by decide +kernel
theorem dX10_readLaw_71 : decode cX10_readLaw 71 = .ok (.bipush 7, 2) := by decide +kernel
theorem dX10_readLaw_73 : decode cX10_readLaw 73 = .ok (.iload_n 1, 1) := by decide +kernel
theorem dX10_readLaw_74 : decode cX10_readLaw 74 = .ok (.iadd, 1) := by decide +kernel
theorem dX10_readLaw_75 : decode cX10_readLaw 75 = .ok (.iload_n 2, 1) := by decide +kernel
theorem dX10_readLaw_76 : decode cX10_readLaw 76 = .ok (.iastore, 1) := by decide +kernel
theorem dX10_readLaw_77 : decode cX10_readLaw 77 = .ok (.aload_n 0, 1) := by decide +kernel
theorem dX10_readLaw_78 : decode cX10_readLaw 78 = .ok (.getfield 24, 3) := by decide +kernel
theorem dX10_readLaw_81 : decode cX10_readLaw 81 = .ok (.bipush 10, 2) := by decide +kernel
theorem dX10_readLaw_83 : decode cX10_readLaw 83 = .ok (.iload_n 1, 1) := by decide +kernel
theorem dX10_readLaw_84 : decode cX10_readLaw 84 = .ok (.iadd, 1) := by decide +kernel
theorem dX10_readLaw_85 : decode cX10_readLaw 85 = .ok (.aload_n 0, 1) := by decide +kernel
theorem dX10_readLaw_86 : decode cX10_readLaw 86 = .ok (.getfield 24, 3) := by decide +kernel
theorem dX10_readLaw_89 : decode cX10_readLaw 89 = .ok (.sipush 472, 3) := by decide +kernel
theorem dX10_readLaw_92 : decode cX10_readLaw 92 = .ok (.iaload, 1) := by decide +kernel
theorem dX10_readLaw_93 : decode cX10_readLaw 93 = .ok (.iload_n 2, 1) := by decide +kernel
theorem dX10_readLaw_94 : decode cX10_readLaw 94 = .ok (.isub, 1) := by decide +kernel
theorem dX10_readLaw_95 : decode cX10_readLaw 95 = .ok (.iastore, 1) := by decide +kernel
theorem dX10_readLaw_96 : decode cX10_readLaw 96 = .ok (.return_, 1) := by decide +kernel
theorem dX10_readLine_0 : decode cX10_readLine 0 = .ok (.aload_n 0, 1) := by decide +kernel
theorem dX10_readLine_1 : decode cX10_readLine 1 = .ok (.getfield 154, 3) := by decide +kernel
theorem dX10_readLine_4 : decode cX10_readLine 4 = .ok (.ifCond .eq 4, 3) := by decide +kernel
theorem dX10_readLine_7 : decode cX10_readLine 7 = .ok (.return_, 1) := by decide +kernel
theorem dX10_readLine_8 : decode cX10_readLine 8 = .ok (.aload_n 0, 1) := by decide +kernel
theorem dX10_readLine_9 : decode cX10_readLine 9 = .ok (.iconst 1, 1) := by decide +kernel
theorem dX10_readLine_10 : decode cX10_readLine 10 = .ok (.invokevirtual 160, 3) := by decide +kernel
theorem dX10_readLine_13 : decode cX10_readLine 13 = .ok (.ifCond .eq 10, 3) := by decide +kernel
theorem dX10_readLine_16 : decode cX10_readLine 16 = .ok (.aload_n 0, 1) := by decide +kernel
theorem dX10_readLine_17 : decode cX10_readLine 17 = .ok (.invokevirtual 217, 3) := by decide +kernel
theorem dX10_readLine_20 : decode cX10_readLine 20 = .ok (.goto 90, 3) := by decide +kernel
theorem dX10_readLine_23 : decode cX10_readLine 23 = .ok (.aload_n 0, 1) := by decide +kernel
theorem dX10_readLine_24 : decode cX10_readLine 24 = .ok (.iconst 5, 1) := by decide +kernel
theorem dX10_readLine_25 : decode cX10_readLine 25 = .ok (.invokevirtual 160, 3) := by decide +kernel
theorem dX10_readLine_28 : decode cX10_readLine 28 = .ok (.ifCond .eq 10, 3) := by decide +kernel
theorem dX10_readLine_31 : decode cX10_readLine 31 = .ok (.aload_n 0, 1) := by decide +kernel
theorem dX10_readLine_32 : decode cX10_readLine 32 = .ok (.invokevirtual 220, 3) := by decide +kernel
theorem dX10_readLine_35 : decode cX10_readLine 35 = .ok (.goto 75, 3) := by decide +kernel
theorem dX10_readLine_38 : decode cX10_readLine 38 = .ok (.aload_n 0, 1) := by decide +kernel
theorem dX10_readLine_39 : decode cX10_readLine 39 = .ok (.bipush 8, 2) := by decide +kernel
theorem dX10_readLine_41 : decode cX10_readLine 41 = .ok (.invokevirtual 189, 3) := by decide +kernel
theorem dX10_readLine_44 : decode cX10_readLine 44 = .ok (.ifCond .eq 20, 3) := by decide +kernel
theorem dX10_readLine_47 : decode cX10_readLine 47 = .ok (.aload_n 0, 1) := by decide +kernel
theorem dX10_readLine_48 : decode cX10_readLine 48 = .ok (.getfield 24, 3) := by decide +kernel
theorem dX10_readLine_51 : decode cX10_readLine 51 = .ok (.bipush 70, 2) := by decide +kernel
theorem dX10_readLine_53 : decode cX10_readLine 53 = .ok (.aload_n 0, 1) := by decide +kernel
theorem dX10_readLine_54 : decode cX10_readLine 54 = .ok (.iconst 0, 1) := by decide +kernel
theorem dX10_readLine_55 : decode cX10_readLine 55 = .ok (.bipush 9, 2) := by decide +kernel
theorem dX10_readLine_57 : decode cX10_readLine 57 = .ok (.invokevirtual 210, 3) := by decide +kernel
theorem dX10_readLine_60 : decode cX10_readLine 60 = .ok (.iastore, 1) := by decide +kernel
theorem dX10_readLine_61 : decode cX10_readLine 61 = .ok (.goto 49, 3) := by decide +kernel
theorem dX10_readLine_64 : decode cX10_readLine 64 = .ok (.aload_n 0, 1) := by decide +kernel
theorem dX10_readLine_65 : decode cX10_readLine 65 = .ok (.bipush 9, 2) := by decide +kernel
theorem dX10_readLine_67 : decode cX10_readLine 67 = .ok (.invokevirtual 160, 3) := by decide +kernel
theorem dX10_readLine_70 : decode cX10_readLine 70 = .ok (.ifCond .ne 21, 3) := by decide +kernel
theorem dX10_readLine_73 : decode cX10_readLine 73 = .ok (.aload_n 0, 1) := by decide +kernel
theorem dX10_readLine_74 : decode cX10_readLine 74 = .ok (.bipush 10, 2) := by decide +kernel
theorem dX10_readLine_76 : decode cX10_readLine 76 = .ok (.invokevirtual 160, 3) := by decide +kernel
theorem dX10_readLine_79 : decode cX10_readLine 79 = .ok (.ifCond .ne 12, 3) := by decide +kernel
theorem dX10_readLine_82 : decode cX10_readLine 82 = .ok (.aload_n 0, 1) := by decide +kernel
theorem dX10_readLine_83 : decode cX10_readLine 83 = .ok (.bipush 11, 2) := by decide +kernel
theorem dX10_readLine_85 : decode cX10_readLine 85 = .ok (.invokevirtual 160, 3) := by decide +kernel
theorem dX10_readLine_88 : decode cX10_readLine 88 = .ok (.ifCond .eq 17, 3) := by decide +kernel
theorem dX10_readLine_91 : decode cX10_readLine 91 = .ok (.aload_n 0, 1) := by decide +kernel
theorem dX10_readLine_92 : decode cX10_readLine 92 = .ok (.aload_n 0, 1) := by decide +kernel
theorem dX10_readLine_93 : decode cX10_readLine 93 = .ok (.getfield 136, 3) := by decide +kernel
theorem dX10_readLine_96 : decode cX10_readLine 96 = .ok (.bipush 9, 2) := by decide +kernel
theorem dX10_readLine_98 : decode cX10_readLine 98 = .ok (.isub, 1) := by decide +kernel
theorem dX10_readLine_99 : decode cX10_readLine 99 = .ok (.invokevirtual 223, 3) := by decide +kernel
theorem dX10_readLine_102 : decode cX10_readLine 102 = .ok (.goto 8, 3) := by decide +kernel
theorem dX10_readLine_105 : decode cX10_readLine 105 = .ok (.aload_n 0, 1) := by decide +kernel
theorem dX10_readLine_106 : decode cX10_readLine 106 = .ok (.iconst 2, 1) := by decide +kernel
theorem dX10_readLine_107 : decode cX10_readLine 107 = .ok (.invokevirtual 166, 3) := by decide +kernel
theorem dX10_readLine_110 : decode cX10_readLine 110 = .ok (.return_, 1) := by decide +kernel
theorem dX10_closes_0 : decode cX10_closes 0 = .ok (.aload_n 0, 1) := by decide +kernel
theorem dX10_closes_1 : decode cX10_closes 1 = .ok (.bipush 30, 2) := by decide +kernel
theorem dX10_closes_3 : decode cX10_closes 3 = .ok (.invokevirtual 189, 3) := by decide +kernel
theorem dX10_closes_6 : decode cX10_closes 6 = .ok (.ifCond .ne 8, 3) := by decide +kernel
theorem dX10_closes_9 : decode cX10_closes 9 = .ok (.aload_n 0, 1) := by decide +kernel
theorem dX10_closes_10 : decode cX10_closes 10 = .ok (.iconst 2, 1) := by decide +kernel
theorem dX10_closes_11 : decode cX10_closes 11 = .ok (.invokevirtual 166, 3) := by decide +kernel
theorem dX10_closes_14 : decode cX10_closes 14 = .ok (.aload_n 0, 1) := by decide +kernel
theorem dX10_closes_15 : decode cX10_closes 15 = .ok (.getfield 24, 3) := by decide +kernel
theorem dX10_closes_18 : decode cX10_closes 18 = .ok (.iconst 0, 1) := by decide +kernel
theorem dX10_closes_19 : decode cX10_closes 19 = .ok (.dup2, 1) := by decide +kernel
theorem dX10_closes_20 : decode cX10_closes 20 = .ok (.iaload, 1) := by decide +kernel
theorem dX10_closes_21 : decode cX10_closes 21 = .ok (.iconst 1, 1) := by decide +kernel
theorem dX10_closes_22 : decode cX10_closes 22 = .ok (.iadd, 1) := by decide +kernel
theorem dX10_closes_23 : decode cX10_closes 23 = .ok (.iastore, 1) := by decide +kernel
theorem dX10_closes_24 : decode cX10_closes 24 = .ok (.return_, 1) := by decide +kernel
theorem dX10_hill_0 : decode cX10_hill 0 = .ok (.aload_n 0, 1) := by decide +kernel
theorem dX10_hill_1 : decode cX10_hill 1 = .ok (.iconst 0, 1) := by decide +kernel
theorem dX10_hill_2 : decode cX10_hill 2 = .ok (.putfield 1, 3) := by decide +kernel
theorem dX10_hill_5 : decode cX10_hill 5 = .ok (.iload_n 1, 1) := by decide +kernel
theorem dX10_hill_6 : decode cX10_hill 6 = .ok (.i2l, 1) := by decide +kernel
theorem dX10_hill_7 : decode cX10_hill 7 = .ok (.lconst 0, 1) := by decide +kernel
theorem dX10_hill_8 : decode cX10_hill 8 = .ok (.aload_n 0, 1) := by decide +kernel
theorem dX10_hill_9 : decode cX10_hill 9 = .ok (.getfield 108, 3) := by decide +kernel
theorem dX10_hill_12 : decode cX10_hill 12 = .ok (.i2l, 1) := by decide +kernel
theorem dX10_hill_13 : decode cX10_hill 13 = .ok (.invokestatic 170, 3) := by decide +kernel
theorem dX10_hill_16 : decode cX10_hill 16 = .ok (.ifCond .ne 6, 3) := by decide +kernel
theorem dX10_hill_19 : decode cX10_hill 19 = .ok (.bipush (-3), 2) := by decide +kernel
theorem dX10_hill_21 : decode cX10_hill 21 = .ok (.ireturn, 1) := by decide +kernel
theorem dX10_hill_22 : decode cX10_hill 22 = .ok (.aload_n 0, 1) := by decide +kernel
theorem dX10_hill_23 : decode cX10_hill 23 = .ok (.iload_n 1, 1) := by decide +kernel
theorem dX10_hill_24 : decode cX10_hill 24 = .ok (.putfield 111, 3) := by decide +kernel
theorem dX10_hill_27 : decode cX10_hill 27 = .ok (.aload_n 0, 1) := by decide +kernel
theorem dX10_hill_28 : decode cX10_hill 28 = .ok (.iconst 0, 1) := by decide +kernel
theorem dX10_hill_29 : decode cX10_hill 29 = .ok (.putfield 108, 3) := by decide +kernel
theorem dX10_hill_32 : decode cX10_hill 32 = .ok (.aload_n 0, 1) := by decide +kernel
theorem dX10_hill_33 : decode cX10_hill 33 = .ok (.iconst 0, 1) := by decide +kernel
theorem dX10_hill_34 : decode cX10_hill 34 = .ok (.putfield 129, 3) := by decide +kernel
theorem dX10_hill_37 : decode cX10_hill 37 = .ok (.aload_n 0, 1) := by decide +kernel
theorem dX10_hill_38 : decode cX10_hill 38 = .ok (.iconst 0, 1) := by decide +kernel
theorem dX10_hill_39 : decode cX10_hill 39 = .ok (.putfield 154, 3) := by decide +kernel
theorem dX10_hill_42 : decode cX10_hill 42 = .ok (.aload_n 0, 1) := by decide +kernel
theorem dX10_hill_43 : decode cX10_hill 43 = .ok (.getfield 24, 3) := by decide +kernel
theorem dX10_hill_46 : decode cX10_hill 46 = .ok (.invokestatic 104, 3) := by decide +kernel
theorem dX10_hill_49 : decode cX10_hill 49 = .ok (.aload_n 0, 1) := by decide +kernel
theorem dX10_hill_50 : decode cX10_hill 50 = .ok (.invokevirtual 163, 3) := by decide +kernel
theorem dX10_hill_53 : decode cX10_hill 53 = .ok (.aload_n 0, 1) := by decide +kernel
theorem dX10_hill_54 : decode cX10_hill 54 = .ok (.iconst 0, 1) := by decide +kernel
theorem dX10_hill_55 : decode cX10_hill 55 = .ok (.invokevirtual 189, 3) := by decide +kernel
theorem dX10_hill_58 : decode cX10_hill 58 = .ok (.ifCond .ne 8, 3) := by decide +kernel
theorem dX10_hill_61 : decode cX10_hill 61 = .ok (.aload_n 0, 1) := by decide +kernel
theorem dX10_hill_62 : decode cX10_hill 62 = .ok (.iconst 2, 1) := by decide +kernel
theorem dX10_hill_63 : decode cX10_hill 63 = .ok (.invokevirtual 166, 3) := by decide +kernel
theorem dX10_hill_66 : decode cX10_hill 66 = .ok (.aload_n 0, 1) := by decide +kernel
theorem dX10_hill_67 : decode cX10_hill 67 = .ok (.getfield 24, 3) := by decide +kernel
theorem dX10_hill_70 : decode cX10_hill 70 = .ok (.iconst 1, 1) := by decide +kernel
theorem dX10_hill_71 : decode cX10_hill 71 = .ok (.aload_n 0, 1) := by decide +kernel
theorem dX10_hill_72 : decode cX10_hill 72 = .ok (.iconst 1, 1) := by decide +kernel
theorem dX10_hill_73 : decode cX10_hill 73 = .ok (.bipush 8, 2) := by decide +kernel
theorem dX10_hill_75 : decode cX10_hill 75 = .ok (.invokevirtual 210, 3) := by decide +kernel
theorem dX10_hill_78 : decode cX10_hill 78 = .ok (.iastore, 1) := by decide +kernel
theorem dX10_hill_79 : decode cX10_hill 79 = .ok (.aload_n 0, 1) := by decide +kernel
theorem dX10_hill_80 : decode cX10_hill 80 = .ok (.getfield 24, 3) := by decide +kernel
theorem dX10_hill_83 : decode cX10_hill 83 = .ok (.iconst 2, 1) := by decide +kernel
theorem dX10_hill_84 : decode cX10_hill 84 = .ok (.aload_n 0, 1) := by decide +kernel
theorem dX10_hill_85 : decode cX10_hill 85 = .ok (.iconst 1, 1) := by decide +kernel
theorem dX10_hill_86 : decode cX10_hill 86 = .ok (.bipush 8, 2) := by decide +kernel
theorem dX10_hill_88 : decode cX10_hill 88 = .ok (.invokevirtual 210, 3) := by decide +kernel
theorem dX10_hill_91 : decode cX10_hill 91 = .ok (.iastore, 1) := by decide +kernel
theorem dX10_hill_92 : decode cX10_hill 92 = .ok (.aload_n 0, 1) := by decide +kernel
theorem dX10_hill_93 : decode cX10_hill 93 = .ok (.invokevirtual 226, 3) := by decide +kernel
theorem dX10_hill_96 : decode cX10_hill 96 = .ok (.aload_n 0, 1) := by decide +kernel
theorem dX10_hill_97 : decode cX10_hill 97 = .ok (.getfield 154, 3) := by decide +kernel
theorem dX10_hill_100 : decode cX10_hill 100 = .ok (.ifCond .ne 23, 3) := by decide +kernel
theorem dX10_hill_103 : decode cX10_hill 103 = .ok (.aload_n 0, 1) := by decide +kernel
theorem dX10_hill_104 : decode cX10_hill 104 = .ok (.getfield 136, 3) := by decide +kernel
theorem dX10_hill_107 : decode cX10_hill 107 = .ok (.bipush 26, 2) := by decide +kernel
theorem dX10_hill_109 : decode cX10_hill 109 = .ok (.if_icmp .eq 14, 3) := by decide +kernel
theorem dX10_hill_112 : decode cX10_hill 112 = .ok (.aload_n 0, 1) := by decide +kernel
theorem dX10_hill_113 : decode cX10_hill 113 = .ok (.invokevirtual 229, 3) := by decide +kernel
theorem dX10_hill_116 : decode cX10_hill 116 = .ok (.aload_n 0, 1) := by decide +kernel
theorem dX10_hill_117 : decode cX10_hill 117 = .ok (.invokevirtual 226, 3) := by decide +kernel
theorem dX10_hill_120 : decode cX10_hill 120 = .ok (.goto (-24), 3) := by decide +kernel
theorem dX10_hill_123 : decode cX10_hill 123 = .ok (.aload_n 0, 1) := by decide +kernel
theorem dX10_hill_124 : decode cX10_hill 124 = .ok (.aload_n 0, 1) := by decide +kernel
theorem dX10_hill_125 : decode cX10_hill 125 = .ok (.getfield 154, 3) := by decide +kernel
theorem dX10_hill_128 : decode cX10_hill 128 = .ok (.putfield 232, 3) := by decide +kernel
theorem dX10_hill_131 : decode cX10_hill 131 = .ok (.aload_n 0, 1) := by decide +kernel
theorem dX10_hill_132 : decode cX10_hill 132 = .ok (.aload_n 0, 1) := by decide +kernel
theorem dX10_hill_133 : decode cX10_hill 133 = .ok (.getfield 154, 3) := by decide +kernel
theorem dX10_hill_136 : decode cX10_hill 136 = .ok (.ifCond .ne 7, 3) := by decide +kernel
theorem dX10_hill_139 : decode cX10_hill 139 = .ok (.iconst (-1), 1) := by decide +kernel
theorem dX10_hill_140 : decode cX10_hill 140 = .ok (.goto 7, 3) := by decide +kernel
theorem dX10_hill_143 : decode cX10_hill 143 = .ok (.aload_n 0, 1) := by decide +kernel
theorem dX10_hill_144 : decode cX10_hill 144 = .ok (.getfield 157, 3) := by decide +kernel
theorem dX10_hill_147 : decode cX10_hill 147 = .ok (.putfield 27, 3) := by decide +kernel
theorem dX10_hill_150 : decode cX10_hill 150 = .ok (.aload_n 0, 1) := by decide +kernel
theorem dX10_hill_151 : decode cX10_hill 151 = .ok (.getfield 154, 3) := by decide +kernel
theorem dX10_hill_154 : decode cX10_hill 154 = .ok (.ifCond .eq 11, 3) := by decide +kernel
theorem dX10_hill_157 : decode cX10_hill 157 = .ok (.bipush (-30), 2) := by decide +kernel
theorem dX10_hill_159 : decode cX10_hill 159 = .ok (.aload_n 0, 1) := by decide +kernel
theorem dX10_hill_160 : decode cX10_hill 160 = .ok (.getfield 154, 3) := by decide +kernel
theorem dX10_hill_163 : decode cX10_hill 163 = .ok (.isub, 1) := by decide +kernel
theorem dX10_hill_164 : decode cX10_hill 164 = .ok (.ireturn, 1) := by decide +kernel
theorem dX10_hill_165 : decode cX10_hill 165 = .ok (.iconst 0, 1) := by decide +kernel
theorem dX10_hill_166 : decode cX10_hill 166 = .ok (.istore_n 2, 1) := by decide +kernel
theorem dX10_hill_167 : decode cX10_hill 167 = .ok (.iload_n 2, 1) := by decide +kernel
theorem dX10_hill_168 : decode cX10_hill 168 = .ok (.sipush 1373, 3) := by decide +kernel
theorem dX10_hill_171 : decode cX10_hill 171 = .ok (.if_icmp .ge 21, 3) := by decide +kernel
theorem dX10_hill_174 : decode cX10_hill 174 = .ok (.aload_n 0, 1) := by decide +kernel
theorem dX10_hill_175 : decode cX10_hill 175 = .ok (.getfield 13, 3) := by decide +kernel
theorem dX10_hill_178 : decode cX10_hill 178 = .ok (.iload_n 2, 1) := by decide +kernel
theorem dX10_hill_179 : decode cX10_hill 179 = .ok (.aload_n 0, 1) := by decide +kernel
theorem dX10_hill_180 : decode cX10_hill 180 = .ok (.getfield 24, 3) := by decide +kernel
theorem dX10_hill_183 : decode cX10_hill 183 = .ok (.iload_n 2, 1) := by decide +kernel
theorem dX10_hill_184 : decode cX10_hill 184 = .ok (.iaload, 1) := by decide +kernel
theorem dX10_hill_185 : decode cX10_hill 185 = .ok (.iastore, 1) := by decide +kernel
theorem dX10_hill_186 : decode cX10_hill 186 = .ok (.iinc 2 1, 3) := by decide +kernel
theorem dX10_hill_189 : decode cX10_hill 189 = .ok (.goto (-22), 3) := by decide +kernel
theorem dX10_hill_192 : decode cX10_hill 192 = .ok (.aload_n 0, 1) := by decide +kernel
theorem dX10_hill_193 : decode cX10_hill 193 = .ok (.getfield 13, 3) := by decide +kernel
theorem dX10_hill_196 : decode cX10_hill 196 = .ok (.iconst 0, 1) := by decide +kernel
theorem dX10_hill_197 : decode cX10_hill 197 = .ok (.iaload, 1) := by decide +kernel
theorem dX10_hill_198 : decode cX10_hill 198 = .ok (.ireturn, 1) := by decide +kernel
theorem dX10_fault_0 : decode cX10_fault 0 = .ok (.aload_n 0, 1) := by decide +kernel
theorem dX10_fault_1 : decode cX10_fault 1 = .ok (.iconst 0, 1) := by decide +kernel
theorem dX10_fault_2 : decode cX10_fault 2 = .ok (.putfield 1, 3) := by decide +kernel
theorem dX10_fault_5 : decode cX10_fault 5 = .ok (.iload_n 1, 1) := by decide +kernel
theorem dX10_fault_6 : decode cX10_fault 6 = .ok (.ifCond .ne 10, 3) := by decide +kernel
theorem dX10_fault_9 : decode cX10_fault 9 = .ok (.aload_n 0, 1) := by decide +kernel
theorem dX10_fault_10 : decode cX10_fault 10 = .ok (.getfield 232, 3) := by decide +kernel
theorem dX10_fault_13 : decode cX10_fault 13 = .ok (.goto 16, 3) := by decide +kernel
theorem dX10_fault_16 : decode cX10_fault 16 = .ok (.iload_n 1, 1) := by decide +kernel
theorem dX10_fault_17 : decode cX10_fault 17 = .ok (.iconst 1, 1) := by decide +kernel
theorem dX10_fault_18 : decode cX10_fault 18 = .ok (.if_icmp .ne 10, 3) := by decide +kernel
theorem dX10_fault_21 : decode cX10_fault 21 = .ok (.aload_n 0, 1) := by decide +kernel
theorem dX10_fault_22 : decode cX10_fault 22 = .ok (.getfield 27, 3) := by decide +kernel
theorem dX10_fault_25 : decode cX10_fault 25 = .ok (.goto 4, 3) := by decide +kernel
theorem dX10_fault_28 : decode cX10_fault 28 = .ok (.iconst (-1), 1) := by decide +kernel
theorem dX10_fault_29 : decode cX10_fault 29 = .ok (.ireturn, 1) := by decide +kernel
theorem dX10_cellMany_0 : decode cX10_cellMany 0 = .ok (.aload_n 0, 1) := by decide +kernel
theorem dX10_cellMany_1 : decode cX10_cellMany 1 = .ok (.getfield 13, 3) := by decide +kernel
theorem dX10_cellMany_4 : decode cX10_cellMany 4 = .ok (.iconst 1, 1) := by decide +kernel
theorem dX10_cellMany_5 : decode cX10_cellMany 5 = .ok (.iaload, 1) := by decide +kernel
theorem dX10_cellMany_6 : decode cX10_cellMany 6 = .ok (.aload_n 0, 1) := by decide +kernel
theorem dX10_cellMany_7 : decode cX10_cellMany 7 = .ok (.getfield 13, 3) := by decide +kernel
theorem dX10_cellMany_10 : decode cX10_cellMany 10 = .ok (.iconst 2, 1) := by decide +kernel
theorem dX10_cellMany_11 : decode cX10_cellMany 11 = .ok (.iaload, 1) := by decide +kernel
theorem dX10_cellMany_12 : decode cX10_cellMany 12 = .ok (.imul, 1) := by decide +kernel
theorem dX10_cellMany_13 : decode cX10_cellMany 13 = .ok (.ireturn, 1) := by decide +kernel
theorem dX10_isPerson_0 : decode cX10_isPerson 0 = .ok (.lload_n 1, 1) := by decide +kernel
theorem dX10_isPerson_1 : decode cX10_isPerson 1 = .ok (.lconst 0, 1) := by decide +kernel
theorem dX10_isPerson_2 : decode cX10_isPerson 2 = .ok (.aload_n 0, 1) := by decide +kernel
theorem dX10_isPerson_3 : decode cX10_isPerson 3 = .ok (.getfield 13, 3) := by decide +kernel
theorem dX10_isPerson_6 : decode cX10_isPerson 6 = .ok (.iconst 3, 1) := by decide +kernel
theorem dX10_isPerson_7 : decode cX10_isPerson 7 = .ok (.iaload, 1) := by decide +kernel
theorem dX10_isPerson_8 : decode cX10_isPerson 8 = .ok (.iconst 1, 1) := by decide +kernel
theorem dX10_isPerson_9 : decode cX10_isPerson 9 = .ok (.isub, 1) := by decide +kernel
theorem dX10_isPerson_10 : decode cX10_isPerson 10 = .ok (.i2l, 1) := by decide +kernel
theorem dX10_isPerson_11 : decode cX10_isPerson 11 = .ok (.invokestatic 170, 3) := by decide +kernel
theorem dX10_isPerson_14 : decode cX10_isPerson 14 = .ok (.ireturn, 1) := by decide +kernel
theorem dX10_areTwo_0 : decode cX10_areTwo 0 = .ok (.aload_n 0, 1) := by decide +kernel
theorem dX10_areTwo_1 : decode cX10_areTwo 1 = .ok (.lload_n 1, 1) := by decide +kernel
theorem dX10_areTwo_2 : decode cX10_areTwo 2 = .ok (.invokevirtual 235, 3) := by decide +kernel
theorem dX10_areTwo_5 : decode cX10_areTwo 5 = .ok (.ifCond .eq 21, 3) := by decide +kernel
theorem dX10_areTwo_8 : decode cX10_areTwo 8 = .ok (.aload_n 0, 1) := by decide +kernel
theorem dX10_areTwo_9 : decode cX10_areTwo 9 = .ok (.lload_n 3, 1) := by decide +kernel
theorem dX10_areTwo_10 : decode cX10_areTwo 10 = .ok (.invokevirtual 235, 3) := by decide +kernel
theorem dX10_areTwo_13 : decode cX10_areTwo 13 = .ok (.ifCond .eq 13, 3) := by decide +kernel
theorem dX10_areTwo_16 : decode cX10_areTwo 16 = .ok (.lload_n 1, 1) := by decide +kernel
theorem dX10_areTwo_17 : decode cX10_areTwo 17 = .ok (.lload_n 3, 1) := by decide +kernel
theorem dX10_areTwo_18 : decode cX10_areTwo 18 = .ok (.lcmp, 1) := by decide +kernel
theorem dX10_areTwo_19 : decode cX10_areTwo 19 = .ok (.ifCond .eq 7, 3) := by decide +kernel
theorem dX10_areTwo_22 : decode cX10_areTwo 22 = .ok (.iconst 1, 1) := by decide +kernel
theorem dX10_areTwo_23 : decode cX10_areTwo 23 = .ok (.goto 4, 3) := by decide +kernel
theorem dX10_areTwo_26 : decode cX10_areTwo 26 = .ok (.iconst 0, 1) := by decide +kernel
theorem dX10_areTwo_27 : decode cX10_areTwo 27 = .ok (.ireturn, 1) := by decide +kernel
theorem dX10_apart_0 : decode cX10_apart 0 = .ok (.iload_n 0, 1) := by decide +kernel
theorem dX10_apart_1 : decode cX10_apart 1 = .ok (.iload_n 1, 1) := by decide +kernel
theorem dX10_apart_2 : decode cX10_apart 2 = .ok (.if_icmp .ge 9, 3) := by decide +kernel
theorem dX10_apart_5 : decode cX10_apart 5 = .ok (.iload_n 1, 1) := by decide +kernel
theorem dX10_apart_6 : decode cX10_apart 6 = .ok (.iload_n 0, 1) := by decide +kernel
theorem dX10_apart_7 : decode cX10_apart 7 = .ok (.isub, 1) := by decide +kernel
theorem dX10_apart_8 : decode cX10_apart 8 = .ok (.goto 6, 3) := by decide +kernel
theorem dX10_apart_11 : decode cX10_apart 11 = .ok (.iload_n 0, 1) := by decide +kernel
theorem dX10_apart_12 : decode cX10_apart 12 = .ok (.iload_n 1, 1) := by decide +kernel
theorem dX10_apart_13 : decode cX10_apart 13 = .ok (.isub, 1) := by decide +kernel
theorem dX10_apart_14 : decode cX10_apart 14 = .ok (.ireturn, 1) := by decide +kernel
theorem dX10_farOf_0 : decode cX10_farOf 0 = .ok (.aload_n 0, 1) := by decide +kernel
theorem dX10_farOf_1 : decode cX10_farOf 1 = .ok (.getfield 13, 3) := by decide +kernel
theorem dX10_farOf_4 : decode cX10_farOf 4 = .ok (.bipush 64, 2) := by decide +kernel
theorem dX10_farOf_6 : decode cX10_farOf 6 = .ok (.iload_n 1, 1) := by decide +kernel
theorem dX10_farOf_7 : decode cX10_farOf 7 = .ok (.iadd, 1) := by decide +kernel
theorem dX10_farOf_8 : decode cX10_farOf 8 = .ok (.iaload, 1) := by decide +kernel
theorem dX10_farOf_9 : decode cX10_farOf 9 = .ok (.istore_n 3, 1) := by decide +kernel
theorem dX10_farOf_10 : decode cX10_farOf 10 = .ok (.aload_n 0, 1) := by decide +kernel
theorem dX10_farOf_11 : decode cX10_farOf 11 = .ok (.getfield 13, 3) := by decide +kernel
theorem dX10_farOf_14 : decode cX10_farOf 14 = .ok (.bipush 64, 2) := by decide +kernel
theorem dX10_farOf_16 : decode cX10_farOf 16 = .ok (.iload_n 2, 1) := by decide +kernel
theorem dX10_farOf_17 : decode cX10_farOf 17 = .ok (.iadd, 1) := by decide +kernel
theorem dX10_farOf_18 : decode cX10_farOf 18 = .ok (.iaload, 1) := by decide +kernel
theorem dX10_farOf_19 : decode cX10_farOf 19 = .ok (.istore 4, 2) := by decide +kernel
theorem dX10_farOf_21 : decode cX10_farOf 21 = .ok (.iload_n 3, 1) := by decide +kernel
theorem dX10_farOf_22 : decode cX10_farOf 22 = .ok (.aload_n 0, 1) := by decide +kernel
theorem dX10_farOf_23 : decode cX10_farOf 23 = .ok (.getfield 13, 3) := by decide +kernel
theorem dX10_farOf_26 : decode cX10_farOf 26 = .ok (.iconst 2, 1) := by decide +kernel
theorem dX10_farOf_27 : decode cX10_farOf 27 = .ok (.iaload, 1) := by decide +kernel
theorem dX10_farOf_28 : decode cX10_farOf 28 = .ok (.idiv, 1) := by decide +kernel
theorem dX10_farOf_29 : decode cX10_farOf 29 = .ok (.iload 4, 2) := by decide +kernel
theorem dX10_farOf_31 : decode cX10_farOf 31 = .ok (.aload_n 0, 1) := by decide +kernel
theorem dX10_farOf_32 : decode cX10_farOf 32 = .ok (.getfield 13, 3) := by decide +kernel
theorem dX10_farOf_35 : decode cX10_farOf 35 = .ok (.iconst 2, 1) := by decide +kernel
theorem dX10_farOf_36 : decode cX10_farOf 36 = .ok (.iaload, 1) := by decide +kernel
theorem dX10_farOf_37 : decode cX10_farOf 37 = .ok (.idiv, 1) := by decide +kernel
theorem dX10_farOf_38 : decode cX10_farOf 38 = .ok (.invokestatic 239, 3) := by decide +kernel
theorem dX10_farOf_41 : decode cX10_farOf 41 = .ok (.iload_n 3, 1) := by decide +kernel
theorem dX10_farOf_42 : decode cX10_farOf 42 = .ok (.aload_n 0, 1) := by decide +kernel
theorem dX10_farOf_43 : decode cX10_farOf 43 = .ok (.getfield 13, 3) := by decide +kernel
theorem dX10_farOf_46 : decode cX10_farOf 46 = .ok (.iconst 2, 1) := by decide +kernel
theorem dX10_farOf_47 : decode cX10_farOf 47 = .ok (.iaload, 1) := by decide +kernel
theorem dX10_farOf_48 : decode cX10_farOf 48 = .ok (.irem, 1) := by decide +kernel
theorem dX10_farOf_49 : decode cX10_farOf 49 = .ok (.iload 4, 2) := by decide +kernel
theorem dX10_farOf_51 : decode cX10_farOf 51 = .ok (.aload_n 0, 1) := by decide +kernel
theorem dX10_farOf_52 : decode cX10_farOf 52 = .ok (.getfield 13, 3) := by decide +kernel
theorem dX10_farOf_55 : decode cX10_farOf 55 = .ok (.iconst 2, 1) := by decide +kernel
theorem dX10_farOf_56 : decode cX10_farOf 56 = .ok (.iaload, 1) := by decide +kernel
theorem dX10_farOf_57 : decode cX10_farOf 57 = .ok (.irem, 1) := by decide +kernel
theorem dX10_farOf_58 : decode cX10_farOf 58 = .ok (.invokestatic 239, 3) := by decide +kernel
theorem dX10_farOf_61 : decode cX10_farOf 61 = .ok (.iadd, 1) := by decide +kernel
theorem dX10_farOf_62 : decode cX10_farOf 62 = .ok (.ireturn, 1) := by decide +kernel
theorem dX10_between1_0 : decode cX10_between1 0 = .ok (.iload_n 0, 1) := by decide +kernel
theorem dX10_between1_1 : decode cX10_between1 1 = .ok (.tableswitch 80 3003 3008 #[39, 50, 61, 80, 72, 76], 39) := by decide +kernel
theorem dX10_between1_40 : decode cX10_between1 40 = .ok (.iload_n 1, 1) := by decide +kernel
theorem dX10_between1_41 : decode cX10_between1 41 = .ok (.iload_n 2, 1) := by decide +kernel
theorem dX10_between1_42 : decode cX10_between1 42 = .ok (.if_icmp .ne 7, 3) := by decide +kernel
theorem dX10_between1_45 : decode cX10_between1 45 = .ok (.iconst 1, 1) := by decide +kernel
theorem dX10_between1_46 : decode cX10_between1 46 = .ok (.goto 4, 3) := by decide +kernel
theorem dX10_between1_49 : decode cX10_between1 49 = .ok (.iconst 0, 1) := by decide +kernel
theorem dX10_between1_50 : decode cX10_between1 50 = .ok (.ireturn, 1) := by decide +kernel
theorem dX10_between1_51 : decode cX10_between1 51 = .ok (.iload_n 1, 1) := by decide +kernel
theorem dX10_between1_52 : decode cX10_between1 52 = .ok (.iload_n 2, 1) := by decide +kernel
theorem dX10_between1_53 : decode cX10_between1 53 = .ok (.if_icmp .ge 7, 3) := by decide +kernel
theorem dX10_between1_56 : decode cX10_between1 56 = .ok (.iconst 1, 1) := by decide +kernel
theorem dX10_between1_57 : decode cX10_between1 57 = .ok (.goto 4, 3) := by decide +kernel
theorem dX10_between1_60 : decode cX10_between1 60 = .ok (.iconst 0, 1) := by decide +kernel
theorem dX10_between1_61 : decode cX10_between1 61 = .ok (.ireturn, 1) := by decide +kernel
theorem dX10_between1_62 : decode cX10_between1 62 = .ok (.iload_n 1, 1) := by decide +kernel
theorem dX10_between1_63 : decode cX10_between1 63 = .ok (.iload_n 2, 1) := by decide +kernel
theorem dX10_between1_64 : decode cX10_between1 64 = .ok (.if_icmp .le 7, 3) := by decide +kernel
theorem dX10_between1_67 : decode cX10_between1 67 = .ok (.iconst 1, 1) := by decide +kernel
theorem dX10_between1_68 : decode cX10_between1 68 = .ok (.goto 4, 3) := by decide +kernel
theorem dX10_between1_71 : decode cX10_between1 71 = .ok (.iconst 0, 1) := by decide +kernel
theorem dX10_between1_72 : decode cX10_between1 72 = .ok (.ireturn, 1) := by decide +kernel
theorem dX10_between1_73 : decode cX10_between1 73 = .ok (.iload_n 1, 1) := by decide +kernel
theorem dX10_between1_74 : decode cX10_between1 74 = .ok (.iload_n 2, 1) := by decide +kernel
theorem dX10_between1_75 : decode cX10_between1 75 = .ok (.iand, 1) := by decide +kernel
theorem dX10_between1_76 : decode cX10_between1 76 = .ok (.ireturn, 1) := by decide +kernel
theorem dX10_between1_77 : decode cX10_between1 77 = .ok (.iload_n 1, 1) := by decide +kernel
theorem dX10_between1_78 : decode cX10_between1 78 = .ok (.iload_n 2, 1) := by decide +kernel
theorem dX10_between1_79 : decode cX10_between1 79 = .ok (.ior, 1) := by decide +kernel
theorem dX10_between1_80 : decode cX10_between1 80 = .ok (.ireturn, 1) := by decide +kernel
theorem dX10_between1_81 : decode cX10_between1 81 = .ok (.iload_n 0, 1) := by decide +kernel
theorem dX10_between1_82 : decode cX10_between1 82 = .ok (.sipush 3000, 3) := by decide +kernel
theorem dX10_between1_85 : decode cX10_between1 85 = .ok (.if_icmp .ne 11, 3) := by decide +kernel
theorem dX10_between1_88 : decode cX10_between1 88 = .ok (.iload_n 1, 1) := by decide +kernel
theorem dX10_between1_89 : decode cX10_between1 89 = .ok (.i2l, 1) := by decide +kernel
theorem dX10_between1_90 : decode cX10_between1 90 = .ok (.iload_n 2, 1) := by decide +kernel
theorem dX10_between1_91 : decode cX10_between1 91 = .ok (.i2l, 1) := by decide +kernel
theorem dX10_between1_92 : decode cX10_between1 92 = .ok (.ladd, 1) := by decide +kernel
theorem dX10_between1_93 : decode cX10_between1 93 = .ok (.goto 23, 3) := by decide +kernel
theorem dX10_between1_96 : decode cX10_between1 96 = .ok (.iload_n 0, 1) := by decide +kernel
theorem dX10_between1_97 : decode cX10_between1 97 = .ok (.sipush 3001, 3) := by decide +kernel
theorem dX10_between1_100 : decode cX10_between1 100 = .ok (.if_icmp .ne 11, 3) := by decide +kernel
theorem dX10_between1_103 : decode cX10_between1 103 = .ok (.iload_n 1, 1) := by decide +kernel
theorem dX10_between1_104 : decode cX10_between1 104 = .ok (.i2l, 1) := by decide +kernel
theorem dX10_between1_105 : decode cX10_between1 105 = .ok (.iload_n 2, 1) := by decide +kernel
theorem dX10_between1_106 : decode cX10_between1 106 = .ok (.i2l, 1) := by decide +kernel
theorem dX10_between1_107 : decode cX10_between1 107 = .ok (.lsub, 1) := by decide +kernel
theorem dX10_between1_108 : decode cX10_between1 108 = .ok (.goto 8, 3) := by decide +kernel
theorem dX10_between1_111 : decode cX10_between1 111 = .ok (.iload_n 1, 1) := by decide +kernel
theorem dX10_between1_112 : decode cX10_between1 112 = .ok (.i2l, 1) := by decide +kernel
theorem dX10_between1_113 : decode cX10_between1 113 = .ok (.iload_n 2, 1) := by decide +kernel
theorem dX10_between1_114 : decode cX10_between1 114 = .ok (.i2l, 1) := by decide +kernel
theorem dX10_between1_115 : decode cX10_between1 115 = .ok (.lmul, 1) := by decide +kernel
theorem dX10_between1_116 : decode cX10_between1 116 = .ok (.lstore_n 3, 1) := by decide +kernel
theorem dX10_between1_117 : decode cX10_between1 117 = .ok (.lload_n 3, 1) := by decide +kernel
theorem dX10_between1_118 : decode cX10_between1 118 = .ok (.ldc2_w 242, 3) := by decide +kernel
theorem dX10_between1_121 : decode cX10_between1 121 = .ok (.lcmp, 1) := by decide +kernel
theorem dX10_between1_122 : decode cX10_between1 122 = .ok (.ifCond .le 9, 3) := by decide +kernel
theorem dX10_between1_125 : decode cX10_between1 125 = .ok (.ldc2_w 242, 3) := by decide +kernel
theorem dX10_between1_128 : decode cX10_between1 128 = .ok (.goto 18, 3) := by decide +kernel
theorem dX10_between1_131 : decode cX10_between1 131 = .ok (.lload_n 3, 1) := by decide +kernel
theorem dX10_between1_132 : decode cX10_between1 132 = .ok (.ldc2_w 244, 3) := by decide +kernel
theorem dX10_between1_135 : decode cX10_between1 135 = .ok (.lcmp, 1) := by decide +kernel
theorem dX10_between1_136 : decode cX10_between1 136 = .ok (.ifCond .ge 9, 3) := by decide +kernel
theorem dX10_between1_139 : decode cX10_between1 139 = .ok (.ldc2_w 244, 3) := by decide +kernel
theorem dX10_between1_142 : decode cX10_between1 142 = .ok (.goto 4, 3) := by decide +kernel
theorem dX10_between1_145 : decode cX10_between1 145 = .ok (.lload_n 3, 1) := by decide +kernel
theorem dX10_between1_146 : decode cX10_between1 146 = .ok (.l2i, 1) := by decide +kernel
theorem dX10_between1_147 : decode cX10_between1 147 = .ok (.ireturn, 1) := by decide +kernel
theorem dX10_reckons_0 : decode cX10_reckons 0 = .ok (.aload_n 0, 1) := by decide +kernel
theorem dX10_reckons_1 : decode cX10_reckons 1 = .ok (.getfield 33, 3) := by decide +kernel
theorem dX10_reckons_4 : decode cX10_reckons 4 = .ok (.iconst 0, 1) := by decide +kernel
theorem dX10_reckons_5 : decode cX10_reckons 5 = .ok (.iload_n 2, 1) := by decide +kernel
theorem dX10_reckons_6 : decode cX10_reckons 6 = .ok (.iastore, 1) := by decide +kernel
theorem dX10_reckons_7 : decode cX10_reckons 7 = .ok (.aload_n 0, 1) := by decide +kernel
theorem dX10_reckons_8 : decode cX10_reckons 8 = .ok (.getfield 33, 3) := by decide +kernel
theorem dX10_reckons_11 : decode cX10_reckons 11 = .ok (.iconst 1, 1) := by decide +kernel
theorem dX10_reckons_12 : decode cX10_reckons 12 = .ok (.iload_n 3, 1) := by decide +kernel
theorem dX10_reckons_13 : decode cX10_reckons 13 = .ok (.iastore, 1) := by decide +kernel
theorem dX10_reckons_14 : decode cX10_reckons 14 = .ok (.aload_n 0, 1) := by decide +kernel
theorem dX10_reckons_15 : decode cX10_reckons 15 = .ok (.getfield 33, 3) := by decide +kernel
theorem dX10_reckons_18 : decode cX10_reckons 18 = .ok (.iconst 2, 1) := by decide +kernel
theorem dX10_reckons_19 : decode cX10_reckons 19 = .ok (.aload_n 0, 1) := by decide +kernel
theorem dX10_reckons_20 : decode cX10_reckons 20 = .ok (.iload_n 2, 1) := by decide +kernel
theorem dX10_reckons_21 : decode cX10_reckons 21 = .ok (.iload_n 3, 1) := by decide +kernel
theorem dX10_reckons_22 : decode cX10_reckons 22 = .ok (.invokevirtual 246, 3) := by decide +kernel
theorem dX10_reckons_25 : decode cX10_reckons 25 = .ok (.iastore, 1) := by decide +kernel
theorem dX10_reckons_26 : decode cX10_reckons 26 = .ok (.aload_n 0, 1) := by decide +kernel
theorem dX10_reckons_27 : decode cX10_reckons 27 = .ok (.getfield 33, 3) := by decide +kernel
theorem dX10_reckons_30 : decode cX10_reckons 30 = .ok (.iconst 3, 1) := by decide +kernel
theorem dX10_reckons_31 : decode cX10_reckons 31 = .ok (.aload_n 0, 1) := by decide +kernel
theorem dX10_reckons_32 : decode cX10_reckons 32 = .ok (.getfield 13, 3) := by decide +kernel
theorem dX10_reckons_35 : decode cX10_reckons 35 = .ok (.bipush 13, 2) := by decide +kernel
theorem dX10_reckons_37 : decode cX10_reckons 37 = .ok (.iload_n 2, 1) := by decide +kernel
theorem dX10_reckons_38 : decode cX10_reckons 38 = .ok (.iadd, 1) := by decide +kernel
theorem dX10_reckons_39 : decode cX10_reckons 39 = .ok (.iaload, 1) := by decide +kernel
theorem dX10_reckons_40 : decode cX10_reckons 40 = .ok (.iastore, 1) := by decide +kernel
theorem dX10_reckons_41 : decode cX10_reckons 41 = .ok (.aload_n 0, 1) := by decide +kernel
theorem dX10_reckons_42 : decode cX10_reckons 42 = .ok (.getfield 33, 3) := by decide +kernel
theorem dX10_reckons_45 : decode cX10_reckons 45 = .ok (.iconst 4, 1) := by decide +kernel
theorem dX10_reckons_46 : decode cX10_reckons 46 = .ok (.aload_n 0, 1) := by decide +kernel
theorem dX10_reckons_47 : decode cX10_reckons 47 = .ok (.getfield 13, 3) := by decide +kernel
theorem dX10_reckons_50 : decode cX10_reckons 50 = .ok (.bipush 19, 2) := by decide +kernel
theorem dX10_reckons_52 : decode cX10_reckons 52 = .ok (.iload_n 3, 1) := by decide +kernel
theorem dX10_reckons_53 : decode cX10_reckons 53 = .ok (.iadd, 1) := by decide +kernel
theorem dX10_reckons_54 : decode cX10_reckons 54 = .ok (.iaload, 1) := by decide +kernel
theorem dX10_reckons_55 : decode cX10_reckons 55 = .ok (.iastore, 1) := by decide +kernel
theorem dX10_reckons_56 : decode cX10_reckons 56 = .ok (.aload_n 0, 1) := by decide +kernel
theorem dX10_reckons_57 : decode cX10_reckons 57 = .ok (.getfield 33, 3) := by decide +kernel
theorem dX10_reckons_60 : decode cX10_reckons 60 = .ok (.iconst 5, 1) := by decide +kernel
theorem dX10_reckons_61 : decode cX10_reckons 61 = .ok (.aload_n 0, 1) := by decide +kernel
theorem dX10_reckons_62 : decode cX10_reckons 62 = .ok (.getfield 13, 3) := by decide +kernel
theorem dX10_reckons_65 : decode cX10_reckons 65 = .ok (.bipush 25, 2) := by decide +kernel
theorem dX10_reckons_67 : decode cX10_reckons 67 = .ok (.iload_n 2, 1) := by decide +kernel
theorem dX10_reckons_68 : decode cX10_reckons 68 = .ok (.iadd, 1) := by decide +kernel
theorem dX10_reckons_69 : decode cX10_reckons 69 = .ok (.iaload, 1) := by decide +kernel
theorem dX10_reckons_70 : decode cX10_reckons 70 = .ok (.iastore, 1) := by decide +kernel
theorem dX10_reckons_71 : decode cX10_reckons 71 = .ok (.aload_n 0, 1) := by decide +kernel
theorem dX10_reckons_72 : decode cX10_reckons 72 = .ok (.getfield 33, 3) := by decide +kernel
theorem dX10_reckons_75 : decode cX10_reckons 75 = .ok (.bipush 6, 2) := by decide +kernel
theorem dX10_reckons_77 : decode cX10_reckons 77 = .ok (.aload_n 0, 1) := by decide +kernel
theorem dX10_reckons_78 : decode cX10_reckons 78 = .ok (.getfield 13, 3) := by decide +kernel
theorem dX10_reckons_81 : decode cX10_reckons 81 = .ok (.bipush 70, 2) := by decide +kernel
theorem dX10_reckons_83 : decode cX10_reckons 83 = .ok (.iaload, 1) := by decide +kernel
theorem dX10_reckons_84 : decode cX10_reckons 84 = .ok (.iastore, 1) := by decide +kernel
theorem dX10_reckons_85 : decode cX10_reckons 85 = .ok (.iconst 0, 1) := by decide +kernel
theorem dX10_reckons_86 : decode cX10_reckons 86 = .ok (.istore 4, 2) := by decide +kernel
theorem dX10_reckons_88 : decode cX10_reckons 88 = .ok (.iconst 0, 1) := by decide +kernel
theorem dX10_reckons_89 : decode cX10_reckons 89 = .ok (.istore 5, 2) := by decide +kernel
theorem dX10_reckons_91 : decode cX10_reckons 91 = .ok (.iload 5, 2) := by decide +kernel
theorem dX10_reckons_93 : decode cX10_reckons 93 = .ok (.aload_n 0, 1) := by decide +kernel
theorem dX10_reckons_94 : decode cX10_reckons 94 = .ok (.getfield 13, 3) := by decide +kernel
theorem dX10_reckons_97 : decode cX10_reckons 97 = .ok (.bipush 10, 2) := by decide +kernel
theorem dX10_reckons_99 : decode cX10_reckons 99 = .ok (.iload_n 1, 1) := by decide +kernel
theorem dX10_reckons_100 : decode cX10_reckons 100 = .ok (.iadd, 1) := by decide +kernel
theorem dX10_reckons_101 : decode cX10_reckons 101 = .ok (.iaload, 1) := by decide +kernel
theorem dX10_reckons_102 : decode cX10_reckons 102 = .ok (.if_icmp .ge 196, 3) := by decide +kernel
theorem dX10_reckons_105 : decode cX10_reckons 105 = .ok (.aload_n 0, 1) := by decide +kernel
theorem dX10_reckons_106 : decode cX10_reckons 106 = .ok (.getfield 13, 3) := by decide +kernel
theorem dX10_reckons_109 : decode cX10_reckons 109 = .ok (.sipush 473, 3) := by decide +kernel
theorem dX10_reckons_112 : decode cX10_reckons 112 = .ok (.aload_n 0, 1) := by decide +kernel
theorem dX10_reckons_113 : decode cX10_reckons 113 = .ok (.getfield 13, 3) := by decide +kernel
theorem dX10_reckons_116 : decode cX10_reckons 116 = .ok (.bipush 7, 2) := by decide +kernel
theorem dX10_reckons_118 : decode cX10_reckons 118 = .ok (.iload_n 1, 1) := by decide +kernel
theorem dX10_reckons_119 : decode cX10_reckons 119 = .ok (.iadd, 1) := by decide +kernel
theorem dX10_reckons_120 : decode cX10_reckons 120 = .ok (.iaload, 1) := by decide +kernel
theorem dX10_reckons_121 : decode cX10_reckons 121 = .ok (.iadd, 1) := by decide +kernel
theorem dX10_reckons_122 : decode cX10_reckons 122 = .ok (.iload 5, 2) := by decide +kernel
theorem dX10_reckons_124 : decode cX10_reckons 124 = .ok (.iadd, 1) := by decide +kernel
theorem dX10_reckons_125 : decode cX10_reckons 125 = .ok (.iaload, 1) := by decide +kernel
theorem dX10_reckons_126 : decode cX10_reckons 126 = .ok (.istore 6, 2) := by decide +kernel
theorem dX10_reckons_128 : decode cX10_reckons 128 = .ok (.iload 6, 2) := by decide +kernel
theorem dX10_reckons_130 : decode cX10_reckons 130 = .ok (.sipush 3000, 3) := by decide +kernel
theorem dX10_reckons_133 : decode cX10_reckons 133 = .ok (.if_icmp .ge 40, 3) := by decide +kernel
theorem dX10_reckons_136 : decode cX10_reckons 136 = .ok (.aload_n 0, 1) := by decide +kernel
theorem dX10_reckons_137 : decode cX10_reckons 137 = .ok (.getfield 30, 3) := by decide +kernel
theorem dX10_reckons_140 : decode cX10_reckons 140 = .ok (.iload 4, 2) := by decide +kernel
theorem dX10_reckons_142 : decode cX10_reckons 142 = .ok (.iload 6, 2) := by decide +kernel
theorem dX10_reckons_144 : decode cX10_reckons 144 = .ok (.sipush 1000, 3) := by decide +kernel
theorem dX10_reckons_147 : decode cX10_reckons 147 = .ok (.if_icmp .ge 8, 3) := by decide +kernel
theorem dX10_reckons_150 : decode cX10_reckons 150 = .ok (.iload 6, 2) := by decide +kernel
theorem dX10_reckons_152 : decode cX10_reckons 152 = .ok (.goto 14, 3) := by decide +kernel
theorem dX10_reckons_155 : decode cX10_reckons 155 = .ok (.aload_n 0, 1) := by decide +kernel
theorem dX10_reckons_156 : decode cX10_reckons 156 = .ok (.getfield 33, 3) := by decide +kernel
theorem dX10_reckons_159 : decode cX10_reckons 159 = .ok (.iload 6, 2) := by decide +kernel
theorem dX10_reckons_161 : decode cX10_reckons 161 = .ok (.sipush 1000, 3) := by decide +kernel
theorem dX10_reckons_164 : decode cX10_reckons 164 = .ok (.isub, 1) := by decide +kernel
theorem dX10_reckons_165 : decode cX10_reckons 165 = .ok (.iaload, 1) := by decide +kernel
theorem dX10_reckons_166 : decode cX10_reckons 166 = .ok (.iastore, 1) := by decide +kernel
theorem dX10_reckons_167 : decode cX10_reckons 167 = .ok (.iinc 4 1, 3) := by decide +kernel
theorem dX10_reckons_170 : decode cX10_reckons 170 = .ok (.goto 122, 3) := by decide +kernel
theorem dX10_reckons_173 : decode cX10_reckons 173 = .ok (.iload 6, 2) := by decide +kernel
theorem dX10_reckons_175 : decode cX10_reckons 175 = .ok (.sipush 3006, 3) := by decide +kernel
theorem dX10_reckons_178 : decode cX10_reckons 178 = .ok (.if_icmp .ne 26, 3) := by decide +kernel
theorem dX10_reckons_181 : decode cX10_reckons 181 = .ok (.aload_n 0, 1) := by decide +kernel
theorem dX10_reckons_182 : decode cX10_reckons 182 = .ok (.getfield 30, 3) := by decide +kernel
theorem dX10_reckons_185 : decode cX10_reckons 185 = .ok (.iload 4, 2) := by decide +kernel
theorem dX10_reckons_187 : decode cX10_reckons 187 = .ok (.iconst 1, 1) := by decide +kernel
theorem dX10_reckons_188 : decode cX10_reckons 188 = .ok (.isub, 1) := by decide +kernel
theorem dX10_reckons_189 : decode cX10_reckons 189 = .ok (.iconst 1, 1) := by decide +kernel
theorem dX10_reckons_190 : decode cX10_reckons 190 = .ok (.aload_n 0, 1) := by decide +kernel
theorem dX10_reckons_191 : decode cX10_reckons 191 = .ok (.getfield 30, 3) := by decide +kernel
theorem dX10_reckons_194 : decode cX10_reckons 194 = .ok (.iload 4, 2) := by decide +kernel
theorem dX10_reckons_196 : decode cX10_reckons 196 = .ok (.iconst 1, 1) := by decide +kernel
theorem dX10_reckons_197 : decode cX10_reckons 197 = .ok (.isub, 1) := by decide +kernel
theorem dX10_reckons_198 : decode cX10_reckons 198 = .ok (.iaload, 1) := by decide +kernel
theorem dX10_reckons_199 : decode cX10_reckons 199 = .ok (.isub, 1) := by decide +kernel
theorem dX10_reckons_200 : decode cX10_reckons 200 = .ok (.iastore, 1) := by decide +kernel
theorem dX10_reckons_201 : decode cX10_reckons 201 = .ok (.goto 91, 3) := by decide +kernel
theorem dX10_reckons_204 : decode cX10_reckons 204 = .ok (.iload 6, 2) := by decide +kernel
theorem dX10_reckons_206 : decode cX10_reckons 206 = .ok (.sipush 3009, 3) := by decide +kernel
theorem dX10_reckons_209 : decode cX10_reckons 209 = .ok (.if_icmp .ne 50, 3) := by decide +kernel
theorem dX10_reckons_212 : decode cX10_reckons 212 = .ok (.iinc 4 (-2), 3) := by decide +kernel
theorem dX10_reckons_215 : decode cX10_reckons 215 = .ok (.aload_n 0, 1) := by decide +kernel
theorem dX10_reckons_216 : decode cX10_reckons 216 = .ok (.getfield 30, 3) := by decide +kernel
theorem dX10_reckons_219 : decode cX10_reckons 219 = .ok (.iload 4, 2) := by decide +kernel
theorem dX10_reckons_221 : decode cX10_reckons 221 = .ok (.iconst 1, 1) := by decide +kernel
theorem dX10_reckons_222 : decode cX10_reckons 222 = .ok (.isub, 1) := by decide +kernel
theorem dX10_reckons_223 : decode cX10_reckons 223 = .ok (.aload_n 0, 1) := by decide +kernel
theorem dX10_reckons_224 : decode cX10_reckons 224 = .ok (.getfield 30, 3) := by decide +kernel
theorem dX10_reckons_227 : decode cX10_reckons 227 = .ok (.iload 4, 2) := by decide +kernel
theorem dX10_reckons_229 : decode cX10_reckons 229 = .ok (.iconst 1, 1) := by decide +kernel
theorem dX10_reckons_230 : decode cX10_reckons 230 = .ok (.isub, 1) := by decide +kernel
theorem dX10_reckons_231 : decode cX10_reckons 231 = .ok (.iaload, 1) := by decide +kernel
theorem dX10_reckons_232 : decode cX10_reckons 232 = .ok (.iconst 1, 1) := by decide +kernel
theorem dX10_reckons_233 : decode cX10_reckons 233 = .ok (.if_icmp .ne 13, 3) := by decide +kernel
theorem dX10_reckons_236 : decode cX10_reckons 236 = .ok (.aload_n 0, 1) := by decide +kernel
theorem dX10_reckons_237 : decode cX10_reckons 237 = .ok (.getfield 30, 3) := by decide +kernel
theorem dX10_reckons_240 : decode cX10_reckons 240 = .ok (.iload 4, 2) := by decide +kernel
theorem dX10_reckons_242 : decode cX10_reckons 242 = .ok (.iaload, 1) := by decide +kernel
theorem dX10_reckons_243 : decode cX10_reckons 243 = .ok (.goto 12, 3) := by decide +kernel
theorem dX10_reckons_246 : decode cX10_reckons 246 = .ok (.aload_n 0, 1) := by decide +kernel
theorem dX10_reckons_247 : decode cX10_reckons 247 = .ok (.getfield 30, 3) := by decide +kernel
theorem dX10_reckons_250 : decode cX10_reckons 250 = .ok (.iload 4, 2) := by decide +kernel
theorem dX10_reckons_252 : decode cX10_reckons 252 = .ok (.iconst 1, 1) := by decide +kernel
theorem dX10_reckons_253 : decode cX10_reckons 253 = .ok (.iadd, 1) := by decide +kernel
theorem dX10_reckons_254 : decode cX10_reckons 254 = .ok (.iaload, 1) := by decide +kernel
theorem dX10_reckons_255 : decode cX10_reckons 255 = .ok (.iastore, 1) := by decide +kernel
theorem dX10_reckons_256 : decode cX10_reckons 256 = .ok (.goto 36, 3) := by decide +kernel
theorem dX10_reckons_259 : decode cX10_reckons 259 = .ok (.iinc 4 (-1), 3) := by decide +kernel
theorem dX10_reckons_262 : decode cX10_reckons 262 = .ok (.aload_n 0, 1) := by decide +kernel
theorem dX10_reckons_263 : decode cX10_reckons 263 = .ok (.getfield 30, 3) := by decide +kernel
theorem dX10_reckons_266 : decode cX10_reckons 266 = .ok (.iload 4, 2) := by decide +kernel
theorem dX10_reckons_268 : decode cX10_reckons 268 = .ok (.iconst 1, 1) := by decide +kernel
theorem dX10_reckons_269 : decode cX10_reckons 269 = .ok (.isub, 1) := by decide +kernel
theorem dX10_reckons_270 : decode cX10_reckons 270 = .ok (.iload 6, 2) := by decide +kernel
theorem dX10_reckons_272 : decode cX10_reckons 272 = .ok (.aload_n 0, 1) := by decide +kernel
theorem dX10_reckons_273 : decode cX10_reckons 273 = .ok (.getfield 30, 3) := by decide +kernel
theorem dX10_reckons_276 : decode cX10_reckons 276 = .ok (.iload 4, 2) := by decide +kernel
theorem dX10_reckons_278 : decode cX10_reckons 278 = .ok (.iconst 1, 1) := by decide +kernel
theorem dX10_reckons_279 : decode cX10_reckons 279 = .ok (.isub, 1) := by decide +kernel
theorem dX10_reckons_280 : decode cX10_reckons 280 = .ok (.iaload, 1) := by decide +kernel
theorem dX10_reckons_281 : decode cX10_reckons 281 = .ok (.aload_n 0, 1) := by decide +kernel
theorem dX10_reckons_282 : decode cX10_reckons 282 = .ok (.getfield 30, 3) := by decide +kernel
theorem dX10_reckons_285 : decode cX10_reckons 285 = .ok (.iload 4, 2) := by decide +kernel
theorem dX10_reckons_287 : decode cX10_reckons 287 = .ok (.iaload, 1) := by decide +kernel
theorem dX10_reckons_288 : decode cX10_reckons 288 = .ok (.invokestatic 249, 3) := by decide +kernel
theorem dX10_reckons_291 : decode cX10_reckons 291 = .ok (.iastore, 1) := by decide +kernel
theorem dX10_reckons_292 : decode cX10_reckons 292 = .ok (.iinc 5 1, 3) := by decide +kernel
theorem dX10_reckons_295 : decode cX10_reckons 295 = .ok (.goto (-204), 3) := by decide +kernel
theorem dX10_reckons_298 : decode cX10_reckons 298 = .ok (.aload_n 0, 1) := by decide +kernel
theorem dX10_reckons_299 : decode cX10_reckons 299 = .ok (.getfield 30, 3) := by decide +kernel
theorem dX10_reckons_302 : decode cX10_reckons 302 = .ok (.iconst 0, 1) := by decide +kernel
theorem dX10_reckons_303 : decode cX10_reckons 303 = .ok (.iaload, 1) := by decide +kernel
theorem dX10_reckons_304 : decode cX10_reckons 304 = .ok (.ireturn, 1) := by decide +kernel
theorem dX10_kept_0 : decode cX10_kept 0 = .ok (.iload_n 0, 1) := by decide +kernel
theorem dX10_kept_1 : decode cX10_kept 1 = .ok (.iload_n 1, 1) := by decide +kernel
theorem dX10_kept_2 : decode cX10_kept 2 = .ok (.if_icmp .ge 7, 3) := by decide +kernel
theorem dX10_kept_5 : decode cX10_kept 5 = .ok (.iload_n 1, 1) := by decide +kernel
theorem dX10_kept_6 : decode cX10_kept 6 = .ok (.goto 13, 3) := by decide +kernel
theorem dX10_kept_9 : decode cX10_kept 9 = .ok (.iload_n 0, 1) := by decide +kernel
theorem dX10_kept_10 : decode cX10_kept 10 = .ok (.iload_n 2, 1) := by decide +kernel
theorem dX10_kept_11 : decode cX10_kept 11 = .ok (.if_icmp .le 7, 3) := by decide +kernel
theorem dX10_kept_14 : decode cX10_kept 14 = .ok (.iload_n 2, 1) := by decide +kernel
theorem dX10_kept_15 : decode cX10_kept 15 = .ok (.goto 4, 3) := by decide +kernel
theorem dX10_kept_18 : decode cX10_kept 18 = .ok (.iload_n 0, 1) := by decide +kernel
theorem dX10_kept_19 : decode cX10_kept 19 = .ok (.ireturn, 1) := by decide +kernel
theorem dX10_gapOf_0 : decode cX10_gapOf 0 = .ok (.aload_n 0, 1) := by decide +kernel
theorem dX10_gapOf_1 : decode cX10_gapOf 1 = .ok (.getfield 13, 3) := by decide +kernel
theorem dX10_gapOf_4 : decode cX10_gapOf 4 = .ok (.iconst 4, 1) := by decide +kernel
theorem dX10_gapOf_5 : decode cX10_gapOf 5 = .ok (.iaload, 1) := by decide +kernel
theorem dX10_gapOf_6 : decode cX10_gapOf 6 = .ok (.iconst 1, 1) := by decide +kernel
theorem dX10_gapOf_7 : decode cX10_gapOf 7 = .ok (.if_icmp .ne 13, 3) := by decide +kernel
theorem dX10_gapOf_10 : decode cX10_gapOf 10 = .ok (.aload_n 0, 1) := by decide +kernel
theorem dX10_gapOf_11 : decode cX10_gapOf 11 = .ok (.iconst 0, 1) := by decide +kernel
theorem dX10_gapOf_12 : decode cX10_gapOf 12 = .ok (.iload_n 1, 1) := by decide +kernel
theorem dX10_gapOf_13 : decode cX10_gapOf 13 = .ok (.iload_n 2, 1) := by decide +kernel
theorem dX10_gapOf_14 : decode cX10_gapOf 14 = .ok (.invokevirtual 253, 3) := by decide +kernel
theorem dX10_gapOf_17 : decode cX10_gapOf 17 = .ok (.goto 11, 3) := by decide +kernel
theorem dX10_gapOf_20 : decode cX10_gapOf 20 = .ok (.aload_n 0, 1) := by decide +kernel
theorem dX10_gapOf_21 : decode cX10_gapOf 21 = .ok (.iload_n 1, 1) := by decide +kernel
theorem dX10_gapOf_22 : decode cX10_gapOf 22 = .ok (.iload_n 2, 1) := by decide +kernel
theorem dX10_gapOf_23 : decode cX10_gapOf 23 = .ok (.invokevirtual 246, 3) := by decide +kernel
theorem dX10_gapOf_26 : decode cX10_gapOf 26 = .ok (.iconst 1, 1) := by decide +kernel
theorem dX10_gapOf_27 : decode cX10_gapOf 27 = .ok (.iadd, 1) := by decide +kernel
theorem dX10_gapOf_28 : decode cX10_gapOf 28 = .ok (.iconst 1, 1) := by decide +kernel
theorem dX10_gapOf_29 : decode cX10_gapOf 29 = .ok (.bipush 20, 2) := by decide +kernel
theorem dX10_gapOf_31 : decode cX10_gapOf 31 = .ok (.invokestatic 256, 3) := by decide +kernel
theorem dX10_gapOf_34 : decode cX10_gapOf 34 = .ok (.ireturn, 1) := by decide +kernel
theorem dX10_pitchOf_0 : decode cX10_pitchOf 0 = .ok (.aload_n 0, 1) := by decide +kernel
theorem dX10_pitchOf_1 : decode cX10_pitchOf 1 = .ok (.getfield 13, 3) := by decide +kernel
theorem dX10_pitchOf_4 : decode cX10_pitchOf 4 = .ok (.iconst 5, 1) := by decide +kernel
theorem dX10_pitchOf_5 : decode cX10_pitchOf 5 = .ok (.iaload, 1) := by decide +kernel
theorem dX10_pitchOf_6 : decode cX10_pitchOf 6 = .ok (.iconst 1, 1) := by decide +kernel
theorem dX10_pitchOf_7 : decode cX10_pitchOf 7 = .ok (.if_icmp .ne 13, 3) := by decide +kernel
theorem dX10_pitchOf_10 : decode cX10_pitchOf 10 = .ok (.aload_n 0, 1) := by decide +kernel
theorem dX10_pitchOf_11 : decode cX10_pitchOf 11 = .ok (.iconst 1, 1) := by decide +kernel
theorem dX10_pitchOf_12 : decode cX10_pitchOf 12 = .ok (.iload_n 1, 1) := by decide +kernel
theorem dX10_pitchOf_13 : decode cX10_pitchOf 13 = .ok (.iload_n 2, 1) := by decide +kernel
theorem dX10_pitchOf_14 : decode cX10_pitchOf 14 = .ok (.invokevirtual 253, 3) := by decide +kernel
theorem dX10_pitchOf_17 : decode cX10_pitchOf 17 = .ok (.goto 12, 3) := by decide +kernel
theorem dX10_pitchOf_20 : decode cX10_pitchOf 20 = .ok (.aload_n 0, 1) := by decide +kernel
theorem dX10_pitchOf_21 : decode cX10_pitchOf 21 = .ok (.getfield 13, 3) := by decide +kernel
theorem dX10_pitchOf_24 : decode cX10_pitchOf 24 = .ok (.bipush 25, 2) := by decide +kernel
theorem dX10_pitchOf_26 : decode cX10_pitchOf 26 = .ok (.iload_n 1, 1) := by decide +kernel
theorem dX10_pitchOf_27 : decode cX10_pitchOf 27 = .ok (.iadd, 1) := by decide +kernel
theorem dX10_pitchOf_28 : decode cX10_pitchOf 28 = .ok (.iaload, 1) := by decide +kernel
theorem dX10_pitchOf_29 : decode cX10_pitchOf 29 = .ok (.iconst 0, 1) := by decide +kernel
theorem dX10_pitchOf_30 : decode cX10_pitchOf 30 = .ok (.bipush 9, 2) := by decide +kernel
theorem dX10_pitchOf_32 : decode cX10_pitchOf 32 = .ok (.invokestatic 256, 3) := by decide +kernel
theorem dX10_pitchOf_35 : decode cX10_pitchOf 35 = .ok (.ireturn, 1) := by decide +kernel
theorem dX10_isAnswered_0 : decode cX10_isAnswered 0 = .ok (.aload_n 0, 1) := by decide +kernel
theorem dX10_isAnswered_1 : decode cX10_isAnswered 1 = .ok (.getfield 13, 3) := by decide +kernel
theorem dX10_isAnswered_4 : decode cX10_isAnswered 4 = .ok (.bipush 6, 2) := by decide +kernel
theorem dX10_isAnswered_6 : decode cX10_isAnswered 6 = .ok (.iaload, 1) := by decide +kernel
theorem dX10_isAnswered_7 : decode cX10_isAnswered 7 = .ok (.ifCond .ne 5, 3) := by decide +kernel
theorem dX10_isAnswered_10 : decode cX10_isAnswered 10 = .ok (.iconst 0, 1) := by decide +kernel
theorem dX10_isAnswered_11 : decode cX10_isAnswered 11 = .ok (.ireturn, 1) := by decide +kernel
theorem dX10_isAnswered_12 : decode cX10_isAnswered 12 = .ok (.bipush 100, 2) := by decide +kernel
theorem dX10_isAnswered_14 : decode cX10_isAnswered 14 = .ok (.bipush 15, 2) := by decide +kernel
theorem dX10_isAnswered_16 : decode cX10_isAnswered 16 = .ok (.bipush 6, 2) := by decide +kernel
theorem dX10_isAnswered_18 : decode cX10_isAnswered 18 = .ok (.iload_n 1, 1) := by decide +kernel
theorem dX10_isAnswered_19 : decode cX10_isAnswered 19 = .ok (.imul, 1) := by decide +kernel
theorem dX10_isAnswered_20 : decode cX10_isAnswered 20 = .ok (.iload_n 2, 1) := by decide +kernel
theorem dX10_isAnswered_21 : decode cX10_isAnswered 21 = .ok (.iadd, 1) := by decide +kernel
theorem dX10_isAnswered_22 : decode cX10_isAnswered 22 = .ok (.imul, 1) := by decide +kernel
theorem dX10_isAnswered_23 : decode cX10_isAnswered 23 = .ok (.aload_n 0, 1) := by decide +kernel
theorem dX10_isAnswered_24 : decode cX10_isAnswered 24 = .ok (.iload_n 1, 1) := by decide +kernel
theorem dX10_isAnswered_25 : decode cX10_isAnswered 25 = .ok (.iload_n 2, 1) := by decide +kernel
theorem dX10_isAnswered_26 : decode cX10_isAnswered 26 = .ok (.invokevirtual 246, 3) := by decide +kernel
theorem dX10_isAnswered_29 : decode cX10_isAnswered 29 = .ok (.iadd, 1) := by decide +kernel
theorem dX10_isAnswered_30 : decode cX10_isAnswered 30 = .ok (.imul, 1) := by decide +kernel
theorem dX10_isAnswered_31 : decode cX10_isAnswered 31 = .ok (.iload 4, 2) := by decide +kernel
theorem dX10_isAnswered_33 : decode cX10_isAnswered 33 = .ok (.iadd, 1) := by decide +kernel
theorem dX10_isAnswered_34 : decode cX10_isAnswered 34 = .ok (.istore 5, 2) := by decide +kernel
theorem dX10_isAnswered_36 : decode cX10_isAnswered 36 = .ok (.aload_n 0, 1) := by decide +kernel
theorem dX10_isAnswered_37 : decode cX10_isAnswered 37 = .ok (.getfield 37, 3) := by decide +kernel
theorem dX10_isAnswered_40 : decode cX10_isAnswered 40 = .ok (.iload 5, 2) := by decide +kernel
theorem dX10_isAnswered_42 : decode cX10_isAnswered 42 = .ok (.iaload, 1) := by decide +kernel
theorem dX10_isAnswered_43 : decode cX10_isAnswered 43 = .ok (.ifCond .ne 43, 3) := by decide +kernel
theorem dX10_isAnswered_46 : decode cX10_isAnswered 46 = .ok (.aload_n 0, 1) := by decide +kernel
theorem dX10_isAnswered_47 : decode cX10_isAnswered 47 = .ok (.getfield 33, 3) := by decide +kernel
theorem dX10_isAnswered_50 : decode cX10_isAnswered 50 = .ok (.bipush 7, 2) := by decide +kernel
theorem dX10_isAnswered_52 : decode cX10_isAnswered 52 = .ok (.iload_n 3, 1) := by decide +kernel
theorem dX10_isAnswered_53 : decode cX10_isAnswered 53 = .ok (.iastore, 1) := by decide +kernel
theorem dX10_isAnswered_54 : decode cX10_isAnswered 54 = .ok (.aload_n 0, 1) := by decide +kernel
theorem dX10_isAnswered_55 : decode cX10_isAnswered 55 = .ok (.getfield 33, 3) := by decide +kernel
theorem dX10_isAnswered_58 : decode cX10_isAnswered 58 = .ok (.bipush 8, 2) := by decide +kernel
theorem dX10_isAnswered_60 : decode cX10_isAnswered 60 = .ok (.iload 4, 2) := by decide +kernel
theorem dX10_isAnswered_62 : decode cX10_isAnswered 62 = .ok (.iastore, 1) := by decide +kernel
theorem dX10_isAnswered_63 : decode cX10_isAnswered 63 = .ok (.aload_n 0, 1) := by decide +kernel
theorem dX10_isAnswered_64 : decode cX10_isAnswered 64 = .ok (.getfield 37, 3) := by decide +kernel
theorem dX10_isAnswered_67 : decode cX10_isAnswered 67 = .ok (.iload 5, 2) := by decide +kernel
theorem dX10_isAnswered_69 : decode cX10_isAnswered 69 = .ok (.aload_n 0, 1) := by decide +kernel
theorem dX10_isAnswered_70 : decode cX10_isAnswered 70 = .ok (.iconst 2, 1) := by decide +kernel
theorem dX10_isAnswered_71 : decode cX10_isAnswered 71 = .ok (.iload_n 1, 1) := by decide +kernel
theorem dX10_isAnswered_72 : decode cX10_isAnswered 72 = .ok (.iload_n 2, 1) := by decide +kernel
theorem dX10_isAnswered_73 : decode cX10_isAnswered 73 = .ok (.invokevirtual 253, 3) := by decide +kernel
theorem dX10_isAnswered_76 : decode cX10_isAnswered 76 = .ok (.iconst 1, 1) := by decide +kernel
theorem dX10_isAnswered_77 : decode cX10_isAnswered 77 = .ok (.if_icmp .ne 7, 3) := by decide +kernel
theorem dX10_isAnswered_80 : decode cX10_isAnswered 80 = .ok (.iconst 2, 1) := by decide +kernel
theorem dX10_isAnswered_81 : decode cX10_isAnswered 81 = .ok (.goto 4, 3) := by decide +kernel
theorem dX10_isAnswered_84 : decode cX10_isAnswered 84 = .ok (.iconst 1, 1) := by decide +kernel
theorem dX10_isAnswered_85 : decode cX10_isAnswered 85 = .ok (.iastore, 1) := by decide +kernel
theorem dX10_isAnswered_86 : decode cX10_isAnswered 86 = .ok (.aload_n 0, 1) := by decide +kernel
theorem dX10_isAnswered_87 : decode cX10_isAnswered 87 = .ok (.getfield 37, 3) := by decide +kernel
theorem dX10_isAnswered_90 : decode cX10_isAnswered 90 = .ok (.iload 5, 2) := by decide +kernel
theorem dX10_isAnswered_92 : decode cX10_isAnswered 92 = .ok (.iaload, 1) := by decide +kernel
theorem dX10_isAnswered_93 : decode cX10_isAnswered 93 = .ok (.iconst 2, 1) := by decide +kernel
theorem dX10_isAnswered_94 : decode cX10_isAnswered 94 = .ok (.if_icmp .ne 7, 3) := by decide +kernel
theorem dX10_isAnswered_97 : decode cX10_isAnswered 97 = .ok (.iconst 1, 1) := by decide +kernel
theorem dX10_isAnswered_98 : decode cX10_isAnswered 98 = .ok (.goto 4, 3) := by decide +kernel
theorem dX10_isAnswered_101 : decode cX10_isAnswered 101 = .ok (.iconst 0, 1) := by decide +kernel
theorem dX10_isAnswered_102 : decode cX10_isAnswered 102 = .ok (.ireturn, 1) := by decide +kernel
theorem dX10_person_0 : decode cX10_person 0 = .ok (.aload_n 0, 1) := by decide +kernel
theorem dX10_person_1 : decode cX10_person 1 = .ok (.iconst 0, 1) := by decide +kernel
theorem dX10_person_2 : decode cX10_person 2 = .ok (.putfield 1, 3) := by decide +kernel
theorem dX10_person_5 : decode cX10_person 5 = .ok (.aload_n 0, 1) := by decide +kernel
theorem dX10_person_6 : decode cX10_person 6 = .ok (.iload_n 1, 1) := by decide +kernel
theorem dX10_person_7 : decode cX10_person 7 = .ok (.i2l, 1) := by decide +kernel
theorem dX10_person_8 : decode cX10_person 8 = .ok (.invokevirtual 235, 3) := by decide +kernel
theorem dX10_person_11 : decode cX10_person 11 = .ok (.ifCond .ne 6, 3) := by decide +kernel
theorem dX10_person_14 : decode cX10_person 14 = .ok (.bipush (-2), 2) := by decide +kernel
theorem dX10_person_16 : decode cX10_person 16 = .ok (.ireturn, 1) := by decide +kernel
theorem dX10_person_17 : decode cX10_person 17 = .ok (.iload_n 2, 1) := by decide +kernel
theorem dX10_person_18 : decode cX10_person 18 = .ok (.tableswitch 70 0 3 #[30, 40, 50, 60], 30) := by decide +kernel
theorem dX10_person_48 : decode cX10_person 48 = .ok (.aload_n 0, 1) := by decide +kernel
theorem dX10_person_49 : decode cX10_person 49 = .ok (.getfield 13, 3) := by decide +kernel
theorem dX10_person_52 : decode cX10_person 52 = .ok (.bipush 64, 2) := by decide +kernel
theorem dX10_person_54 : decode cX10_person 54 = .ok (.iload_n 1, 1) := by decide +kernel
theorem dX10_person_55 : decode cX10_person 55 = .ok (.iadd, 1) := by decide +kernel
theorem dX10_person_56 : decode cX10_person 56 = .ok (.iaload, 1) := by decide +kernel
theorem dX10_person_57 : decode cX10_person 57 = .ok (.ireturn, 1) := by decide +kernel
theorem dX10_person_58 : decode cX10_person 58 = .ok (.aload_n 0, 1) := by decide +kernel
theorem dX10_person_59 : decode cX10_person 59 = .ok (.getfield 13, 3) := by decide +kernel
theorem dX10_person_62 : decode cX10_person 62 = .ok (.bipush 13, 2) := by decide +kernel
theorem dX10_person_64 : decode cX10_person 64 = .ok (.iload_n 1, 1) := by decide +kernel
theorem dX10_person_65 : decode cX10_person 65 = .ok (.iadd, 1) := by decide +kernel
theorem dX10_person_66 : decode cX10_person 66 = .ok (.iaload, 1) := by decide +kernel
theorem dX10_person_67 : decode cX10_person 67 = .ok (.ireturn, 1) := by decide +kernel
theorem dX10_person_68 : decode cX10_person 68 = .ok (.aload_n 0, 1) := by decide +kernel
theorem dX10_person_69 : decode cX10_person 69 = .ok (.getfield 13, 3) := by decide +kernel
theorem dX10_person_72 : decode cX10_person 72 = .ok (.bipush 19, 2) := by decide +kernel
theorem dX10_person_74 : decode cX10_person 74 = .ok (.iload_n 1, 1) := by decide +kernel
theorem dX10_person_75 : decode cX10_person 75 = .ok (.iadd, 1) := by decide +kernel
theorem dX10_person_76 : decode cX10_person 76 = .ok (.iaload, 1) := by decide +kernel
theorem dX10_person_77 : decode cX10_person 77 = .ok (.ireturn, 1) := by decide +kernel
theorem dX10_person_78 : decode cX10_person 78 = .ok (.aload_n 0, 1) := by decide +kernel
theorem dX10_person_79 : decode cX10_person 79 = .ok (.getfield 13, 3) := by decide +kernel
theorem dX10_person_82 : decode cX10_person 82 = .ok (.bipush 25, 2) := by decide +kernel
theorem dX10_person_84 : decode cX10_person 84 = .ok (.iload_n 1, 1) := by decide +kernel
theorem dX10_person_85 : decode cX10_person 85 = .ok (.iadd, 1) := by decide +kernel
theorem dX10_person_86 : decode cX10_person 86 = .ok (.iaload, 1) := by decide +kernel
theorem dX10_person_87 : decode cX10_person 87 = .ok (.ireturn, 1) := by decide +kernel
theorem dX10_person_88 : decode cX10_person 88 = .ok (.bipush (-2), 2) := by decide +kernel
theorem dX10_person_90 : decode cX10_person 90 = .ok (.ireturn, 1) := by decide +kernel
theorem dX10_between_0 : decode cX10_between 0 = .ok (.aload_n 0, 1) := by decide +kernel
theorem dX10_between_1 : decode cX10_between 1 = .ok (.iconst 0, 1) := by decide +kernel
theorem dX10_between_2 : decode cX10_between 2 = .ok (.putfield 1, 3) := by decide +kernel
theorem dX10_between_5 : decode cX10_between 5 = .ok (.aload_n 0, 1) := by decide +kernel
theorem dX10_between_6 : decode cX10_between 6 = .ok (.iload_n 1, 1) := by decide +kernel
theorem dX10_between_7 : decode cX10_between 7 = .ok (.i2l, 1) := by decide +kernel
theorem dX10_between_8 : decode cX10_between 8 = .ok (.iload_n 2, 1) := by decide +kernel
theorem dX10_between_9 : decode cX10_between 9 = .ok (.i2l, 1) := by decide +kernel
theorem dX10_between_10 : decode cX10_between 10 = .ok (.invokevirtual 259, 3) := by decide +kernel
theorem dX10_between_13 : decode cX10_between 13 = .ok (.ifCond .ne 6, 3) := by decide +kernel
theorem dX10_between_16 : decode cX10_between 16 = .ok (.bipush (-2), 2) := by decide +kernel
theorem dX10_between_18 : decode cX10_between 18 = .ok (.ireturn, 1) := by decide +kernel
theorem dX10_between_19 : decode cX10_between 19 = .ok (.iload_n 3, 1) := by decide +kernel
theorem dX10_between_20 : decode cX10_between 20 = .ok (.tableswitch 49 0 2 #[28, 35, 42], 28) := by decide +kernel
theorem dX10_between_48 : decode cX10_between 48 = .ok (.aload_n 0, 1) := by decide +kernel
theorem dX10_between_49 : decode cX10_between 49 = .ok (.iload_n 1, 1) := by decide +kernel
theorem dX10_between_50 : decode cX10_between 50 = .ok (.iload_n 2, 1) := by decide +kernel
theorem dX10_between_51 : decode cX10_between 51 = .ok (.invokevirtual 263, 3) := by decide +kernel
theorem dX10_between_54 : decode cX10_between 54 = .ok (.ireturn, 1) := by decide +kernel
theorem dX10_between_55 : decode cX10_between 55 = .ok (.aload_n 0, 1) := by decide +kernel
theorem dX10_between_56 : decode cX10_between 56 = .ok (.iload_n 1, 1) := by decide +kernel
theorem dX10_between_57 : decode cX10_between 57 = .ok (.iload_n 2, 1) := by decide +kernel
theorem dX10_between_58 : decode cX10_between 58 = .ok (.invokevirtual 266, 3) := by decide +kernel
theorem dX10_between_61 : decode cX10_between 61 = .ok (.ireturn, 1) := by decide +kernel
theorem dX10_between_62 : decode cX10_between 62 = .ok (.aload_n 0, 1) := by decide +kernel
theorem dX10_between_63 : decode cX10_between 63 = .ok (.iload_n 1, 1) := by decide +kernel
theorem dX10_between_64 : decode cX10_between 64 = .ok (.iload_n 2, 1) := by decide +kernel
theorem dX10_between_65 : decode cX10_between 65 = .ok (.invokevirtual 246, 3) := by decide +kernel
theorem dX10_between_68 : decode cX10_between 68 = .ok (.ireturn, 1) := by decide +kernel
theorem dX10_between_69 : decode cX10_between 69 = .ok (.bipush (-2), 2) := by decide +kernel
theorem dX10_between_71 : decode cX10_between 71 = .ok (.ireturn, 1) := by decide +kernel
theorem dX10_laysGaps_0 : decode cX10_laysGaps 0 = .ok (.iconst 0, 1) := by decide +kernel
theorem dX10_laysGaps_1 : decode cX10_laysGaps 1 = .ok (.istore_n 1, 1) := by decide +kernel
theorem dX10_laysGaps_2 : decode cX10_laysGaps 2 = .ok (.iload_n 1, 1) := by decide +kernel
theorem dX10_laysGaps_3 : decode cX10_laysGaps 3 = .ok (.ldc 36, 2) := by decide +kernel
theorem dX10_laysGaps_5 : decode cX10_laysGaps 5 = .ok (.if_icmp .ge 23, 3) := by decide +kernel
theorem dX10_laysGaps_8 : decode cX10_laysGaps 8 = .ok (.aload_n 0, 1) := by decide +kernel
theorem dX10_laysGaps_9 : decode cX10_laysGaps 9 = .ok (.getfield 269, 3) := by decide +kernel
theorem dX10_laysGaps_12 : decode cX10_laysGaps 12 = .ok (.ifCond .ne 16, 3) := by decide +kernel
theorem dX10_laysGaps_15 : decode cX10_laysGaps 15 = .ok (.aload_n 0, 1) := by decide +kernel
theorem dX10_laysGaps_16 : decode cX10_laysGaps 16 = .ok (.getfield 37, 3) := by decide +kernel
theorem dX10_laysGaps_19 : decode cX10_laysGaps 19 = .ok (.iload_n 1, 1) := by decide +kernel
theorem dX10_laysGaps_20 : decode cX10_laysGaps 20 = .ok (.iconst 0, 1) := by decide +kernel
theorem dX10_laysGaps_21 : decode cX10_laysGaps 21 = .ok (.iastore, 1) := by decide +kernel
theorem dX10_laysGaps_22 : decode cX10_laysGaps 22 = .ok (.iinc 1 1, 3) := by decide +kernel
theorem dX10_laysGaps_25 : decode cX10_laysGaps 25 = .ok (.goto (-23), 3) := by decide +kernel
theorem dX10_laysGaps_28 : decode cX10_laysGaps 28 = .ok (.iconst 0, 1) := by decide +kernel
theorem dX10_laysGaps_29 : decode cX10_laysGaps 29 = .ok (.istore_n 1, 1) := by decide +kernel
theorem dX10_laysGaps_30 : decode cX10_laysGaps 30 = .ok (.iload_n 1, 1) := by decide +kernel
theorem dX10_laysGaps_31 : decode cX10_laysGaps 31 = .ok (.bipush 36, 2) := by decide +kernel
theorem dX10_laysGaps_33 : decode cX10_laysGaps 33 = .ok (.if_icmp .ge 48, 3) := by decide +kernel
theorem dX10_laysGaps_36 : decode cX10_laysGaps 36 = .ok (.aload_n 0, 1) := by decide +kernel
theorem dX10_laysGaps_37 : decode cX10_laysGaps 37 = .ok (.getfield 49, 3) := by decide +kernel
theorem dX10_laysGaps_40 : decode cX10_laysGaps 40 = .ok (.iload_n 1, 1) := by decide +kernel
theorem dX10_laysGaps_41 : decode cX10_laysGaps 41 = .ok (.aload_n 0, 1) := by decide +kernel
theorem dX10_laysGaps_42 : decode cX10_laysGaps 42 = .ok (.iload_n 1, 1) := by decide +kernel
theorem dX10_laysGaps_43 : decode cX10_laysGaps 43 = .ok (.bipush 6, 2) := by decide +kernel
theorem dX10_laysGaps_45 : decode cX10_laysGaps 45 = .ok (.idiv, 1) := by decide +kernel
theorem dX10_laysGaps_46 : decode cX10_laysGaps 46 = .ok (.i2l, 1) := by decide +kernel
theorem dX10_laysGaps_47 : decode cX10_laysGaps 47 = .ok (.iload_n 1, 1) := by decide +kernel
theorem dX10_laysGaps_48 : decode cX10_laysGaps 48 = .ok (.bipush 6, 2) := by decide +kernel
theorem dX10_laysGaps_50 : decode cX10_laysGaps 50 = .ok (.irem, 1) := by decide +kernel
theorem dX10_laysGaps_51 : decode cX10_laysGaps 51 = .ok (.i2l, 1) := by decide +kernel
theorem dX10_laysGaps_52 : decode cX10_laysGaps 52 = .ok (.invokevirtual 259, 3) := by decide +kernel
theorem dX10_laysGaps_55 : decode cX10_laysGaps 55 = .ok (.ifCond .eq 18, 3) := by decide +kernel
theorem dX10_laysGaps_58 : decode cX10_laysGaps 58 = .ok (.aload_n 0, 1) := by decide +kernel
theorem dX10_laysGaps_59 : decode cX10_laysGaps 59 = .ok (.iload_n 1, 1) := by decide +kernel
theorem dX10_laysGaps_60 : decode cX10_laysGaps 60 = .ok (.bipush 6, 2) := by decide +kernel
theorem dX10_laysGaps_62 : decode cX10_laysGaps 62 = .ok (.idiv, 1) := by decide +kernel
theorem dX10_laysGaps_63 : decode cX10_laysGaps 63 = .ok (.iload_n 1, 1) := by decide +kernel
theorem dX10_laysGaps_64 : decode cX10_laysGaps 64 = .ok (.bipush 6, 2) := by decide +kernel
theorem dX10_laysGaps_66 : decode cX10_laysGaps 66 = .ok (.irem, 1) := by decide +kernel
theorem dX10_laysGaps_67 : decode cX10_laysGaps 67 = .ok (.invokevirtual 263, 3) := by decide +kernel
theorem dX10_laysGaps_70 : decode cX10_laysGaps 70 = .ok (.goto 4, 3) := by decide +kernel
theorem dX10_laysGaps_73 : decode cX10_laysGaps 73 = .ok (.iconst 0, 1) := by decide +kernel
theorem dX10_laysGaps_74 : decode cX10_laysGaps 74 = .ok (.iastore, 1) := by decide +kernel
theorem dX10_laysGaps_75 : decode cX10_laysGaps 75 = .ok (.iinc 1 1, 3) := by decide +kernel
theorem dX10_laysGaps_78 : decode cX10_laysGaps 78 = .ok (.goto (-48), 3) := by decide +kernel
theorem dX10_laysGaps_81 : decode cX10_laysGaps 81 = .ok (.return_, 1) := by decide +kernel
theorem dX10_laysTold_0 : decode cX10_laysTold 0 = .ok (.aload_n 0, 1) := by decide +kernel
theorem dX10_laysTold_1 : decode cX10_laysTold 1 = .ok (.iconst 0, 1) := by decide +kernel
theorem dX10_laysTold_2 : decode cX10_laysTold 2 = .ok (.putfield 273, 3) := by decide +kernel
theorem dX10_laysTold_5 : decode cX10_laysTold 5 = .ok (.iconst 0, 1) := by decide +kernel
theorem dX10_laysTold_6 : decode cX10_laysTold 6 = .ok (.istore_n 2, 1) := by decide +kernel
theorem dX10_laysTold_7 : decode cX10_laysTold 7 = .ok (.iload_n 2, 1) := by decide +kernel
theorem dX10_laysTold_8 : decode cX10_laysTold 8 = .ok (.aload_n 0, 1) := by decide +kernel
theorem dX10_laysTold_9 : decode cX10_laysTold 9 = .ok (.getfield 13, 3) := by decide +kernel
theorem dX10_laysTold_12 : decode cX10_laysTold 12 = .ok (.bipush 31, 2) := by decide +kernel
theorem dX10_laysTold_14 : decode cX10_laysTold 14 = .ok (.iaload, 1) := by decide +kernel
theorem dX10_laysTold_15 : decode cX10_laysTold 15 = .ok (.if_icmp .ge 59, 3) := by decide +kernel
theorem dX10_laysTold_18 : decode cX10_laysTold 18 = .ok (.iload_n 1, 1) := by decide +kernel
theorem dX10_laysTold_19 : decode cX10_laysTold 19 = .ok (.i2l, 1) := by decide +kernel
theorem dX10_laysTold_20 : decode cX10_laysTold 20 = .ok (.iload_n 2, 1) := by decide +kernel
theorem dX10_laysTold_21 : decode cX10_laysTold 21 = .ok (.invokestatic 276, 3) := by decide +kernel
theorem dX10_laysTold_24 : decode cX10_laysTold 24 = .ok (.ifCond .eq 44, 3) := by decide +kernel
theorem dX10_laysTold_27 : decode cX10_laysTold 27 = .ok (.aload_n 0, 1) := by decide +kernel
theorem dX10_laysTold_28 : decode cX10_laysTold 28 = .ok (.aload_n 0, 1) := by decide +kernel
theorem dX10_laysTold_29 : decode cX10_laysTold 29 = .ok (.getfield 13, 3) := by decide +kernel
theorem dX10_laysTold_32 : decode cX10_laysTold 32 = .ok (.bipush 32, 2) := by decide +kernel
theorem dX10_laysTold_34 : decode cX10_laysTold 34 = .ok (.iconst 4, 1) := by decide +kernel
theorem dX10_laysTold_35 : decode cX10_laysTold 35 = .ok (.iload_n 2, 1) := by decide +kernel
theorem dX10_laysTold_36 : decode cX10_laysTold 36 = .ok (.imul, 1) := by decide +kernel
theorem dX10_laysTold_37 : decode cX10_laysTold 37 = .ok (.iadd, 1) := by decide +kernel
theorem dX10_laysTold_38 : decode cX10_laysTold 38 = .ok (.iaload, 1) := by decide +kernel
theorem dX10_laysTold_39 : decode cX10_laysTold 39 = .ok (.aload_n 0, 1) := by decide +kernel
theorem dX10_laysTold_40 : decode cX10_laysTold 40 = .ok (.getfield 13, 3) := by decide +kernel
theorem dX10_laysTold_43 : decode cX10_laysTold 43 = .ok (.bipush 32, 2) := by decide +kernel
theorem dX10_laysTold_45 : decode cX10_laysTold 45 = .ok (.iconst 4, 1) := by decide +kernel
theorem dX10_laysTold_46 : decode cX10_laysTold 46 = .ok (.iload_n 2, 1) := by decide +kernel
theorem dX10_laysTold_47 : decode cX10_laysTold 47 = .ok (.imul, 1) := by decide +kernel
theorem dX10_laysTold_48 : decode cX10_laysTold 48 = .ok (.iadd, 1) := by decide +kernel
theorem dX10_laysTold_49 : decode cX10_laysTold 49 = .ok (.iconst 1, 1) := by decide +kernel
theorem dX10_laysTold_50 : decode cX10_laysTold 50 = .ok (.iadd, 1) := by decide +kernel
theorem dX10_laysTold_51 : decode cX10_laysTold 51 = .ok (.iaload, 1) := by decide +kernel
theorem dX10_laysTold_52 : decode cX10_laysTold 52 = .ok (.aload_n 0, 1) := by decide +kernel
theorem dX10_laysTold_53 : decode cX10_laysTold 53 = .ok (.getfield 13, 3) := by decide +kernel
theorem dX10_laysTold_56 : decode cX10_laysTold 56 = .ok (.bipush 32, 2) := by decide +kernel
theorem dX10_laysTold_58 : decode cX10_laysTold 58 = .ok (.iconst 4, 1) := by decide +kernel
theorem dX10_laysTold_59 : decode cX10_laysTold 59 = .ok (.iload_n 2, 1) := by decide +kernel
theorem dX10_laysTold_60 : decode cX10_laysTold 60 = .ok (.imul, 1) := by decide +kernel
theorem dX10_laysTold_61 : decode cX10_laysTold 61 = .ok (.iadd, 1) := by decide +kernel
theorem dX10_laysTold_62 : decode cX10_laysTold 62 = .ok (.iconst 2, 1) := by decide +kernel
theorem dX10_laysTold_63 : decode cX10_laysTold 63 = .ok (.iadd, 1) := by decide +kernel
theorem dX10_laysTold_64 : decode cX10_laysTold 64 = .ok (.iaload, 1) := by decide +kernel
theorem dX10_laysTold_65 : decode cX10_laysTold 65 = .ok (.invokevirtual 280, 3) := by decide +kernel
theorem dX10_laysTold_68 : decode cX10_laysTold 68 = .ok (.iinc 2 1, 3) := by decide +kernel
theorem dX10_laysTold_71 : decode cX10_laysTold 71 = .ok (.goto (-64), 3) := by decide +kernel
theorem dX10_laysTold_74 : decode cX10_laysTold 74 = .ok (.return_, 1) := by decide +kernel
theorem dX10_tellsToo_0 : decode cX10_tellsToo 0 = .ok (.aload_n 0, 1) := by decide +kernel
theorem dX10_tellsToo_1 : decode cX10_tellsToo 1 = .ok (.getfield 40, 3) := by decide +kernel
theorem dX10_tellsToo_4 : decode cX10_tellsToo 4 = .ok (.aload_n 0, 1) := by decide +kernel
theorem dX10_tellsToo_5 : decode cX10_tellsToo 5 = .ok (.getfield 273, 3) := by decide +kernel
theorem dX10_tellsToo_8 : decode cX10_tellsToo 8 = .ok (.iload_n 1, 1) := by decide +kernel
theorem dX10_tellsToo_9 : decode cX10_tellsToo 9 = .ok (.iastore, 1) := by decide +kernel
theorem dX10_tellsToo_10 : decode cX10_tellsToo 10 = .ok (.aload_n 0, 1) := by decide +kernel
theorem dX10_tellsToo_11 : decode cX10_tellsToo 11 = .ok (.getfield 43, 3) := by decide +kernel
theorem dX10_tellsToo_14 : decode cX10_tellsToo 14 = .ok (.aload_n 0, 1) := by decide +kernel
theorem dX10_tellsToo_15 : decode cX10_tellsToo 15 = .ok (.getfield 273, 3) := by decide +kernel
theorem dX10_tellsToo_18 : decode cX10_tellsToo 18 = .ok (.iload_n 2, 1) := by decide +kernel
theorem dX10_tellsToo_19 : decode cX10_tellsToo 19 = .ok (.iastore, 1) := by decide +kernel
theorem dX10_tellsToo_20 : decode cX10_tellsToo 20 = .ok (.aload_n 0, 1) := by decide +kernel
theorem dX10_tellsToo_21 : decode cX10_tellsToo 21 = .ok (.getfield 46, 3) := by decide +kernel
theorem dX10_tellsToo_24 : decode cX10_tellsToo 24 = .ok (.aload_n 0, 1) := by decide +kernel
theorem dX10_tellsToo_25 : decode cX10_tellsToo 25 = .ok (.getfield 273, 3) := by decide +kernel
theorem dX10_tellsToo_28 : decode cX10_tellsToo 28 = .ok (.iload_n 3, 1) := by decide +kernel
theorem dX10_tellsToo_29 : decode cX10_tellsToo 29 = .ok (.iastore, 1) := by decide +kernel
theorem dX10_tellsToo_30 : decode cX10_tellsToo 30 = .ok (.aload_n 0, 1) := by decide +kernel
theorem dX10_tellsToo_31 : decode cX10_tellsToo 31 = .ok (.dup, 1) := by decide +kernel
theorem dX10_tellsToo_32 : decode cX10_tellsToo 32 = .ok (.getfield 273, 3) := by decide +kernel
theorem dX10_tellsToo_35 : decode cX10_tellsToo 35 = .ok (.iconst 1, 1) := by decide +kernel
theorem dX10_tellsToo_36 : decode cX10_tellsToo 36 = .ok (.iadd, 1) := by decide +kernel
theorem dX10_tellsToo_37 : decode cX10_tellsToo 37 = .ok (.putfield 273, 3) := by decide +kernel
theorem dX10_tellsToo_40 : decode cX10_tellsToo 40 = .ok (.return_, 1) := by decide +kernel
theorem dX10_says_0 : decode cX10_says 0 = .ok (.iload_n 3, 1) := by decide +kernel
theorem dX10_says_1 : decode cX10_says 1 = .ok (.aload_n 0, 1) := by decide +kernel
theorem dX10_says_2 : decode cX10_says 2 = .ok (.getfield 49, 3) := by decide +kernel
theorem dX10_says_5 : decode cX10_says 5 = .ok (.bipush 6, 2) := by decide +kernel
theorem dX10_says_7 : decode cX10_says 7 = .ok (.iload_n 1, 1) := by decide +kernel
theorem dX10_says_8 : decode cX10_says 8 = .ok (.imul, 1) := by decide +kernel
theorem dX10_says_9 : decode cX10_says 9 = .ok (.iload_n 2, 1) := by decide +kernel
theorem dX10_says_10 : decode cX10_says 10 = .ok (.iadd, 1) := by decide +kernel
theorem dX10_says_11 : decode cX10_says 11 = .ok (.iaload, 1) := by decide +kernel
theorem dX10_says_12 : decode cX10_says 12 = .ok (.iadd, 1) := by decide +kernel
theorem dX10_says_13 : decode cX10_says 13 = .ok (.istore 4, 2) := by decide +kernel
theorem dX10_says_15 : decode cX10_says 15 = .ok (.iload 4, 2) := by decide +kernel
theorem dX10_says_17 : decode cX10_says 17 = .ok (.bipush 100, 2) := by decide +kernel
theorem dX10_says_19 : decode cX10_says 19 = .ok (.if_icmp .lt 4, 3) := by decide +kernel
theorem dX10_says_22 : decode cX10_says 22 = .ok (.return_, 1) := by decide +kernel
theorem dX10_says_23 : decode cX10_says 23 = .ok (.aload_n 0, 1) := by decide +kernel
theorem dX10_says_24 : decode cX10_says 24 = .ok (.getfield 58, 3) := by decide +kernel
theorem dX10_says_27 : decode cX10_says 27 = .ok (.aload_n 0, 1) := by decide +kernel
theorem dX10_says_28 : decode cX10_says 28 = .ok (.getfield 284, 3) := by decide +kernel
theorem dX10_says_31 : decode cX10_says 31 = .ok (.iload_n 1, 1) := by decide +kernel
theorem dX10_says_32 : decode cX10_says 32 = .ok (.iastore, 1) := by decide +kernel
theorem dX10_says_33 : decode cX10_says 33 = .ok (.aload_n 0, 1) := by decide +kernel
theorem dX10_says_34 : decode cX10_says 34 = .ok (.getfield 61, 3) := by decide +kernel
theorem dX10_says_37 : decode cX10_says 37 = .ok (.aload_n 0, 1) := by decide +kernel
theorem dX10_says_38 : decode cX10_says 38 = .ok (.getfield 284, 3) := by decide +kernel
theorem dX10_says_41 : decode cX10_says 41 = .ok (.iload_n 2, 1) := by decide +kernel
theorem dX10_says_42 : decode cX10_says 42 = .ok (.iastore, 1) := by decide +kernel
theorem dX10_says_43 : decode cX10_says 43 = .ok (.aload_n 0, 1) := by decide +kernel
theorem dX10_says_44 : decode cX10_says 44 = .ok (.getfield 64, 3) := by decide +kernel
theorem dX10_says_47 : decode cX10_says 47 = .ok (.aload_n 0, 1) := by decide +kernel
theorem dX10_says_48 : decode cX10_says 48 = .ok (.getfield 284, 3) := by decide +kernel
theorem dX10_says_51 : decode cX10_says 51 = .ok (.iconst (-1), 1) := by decide +kernel
theorem dX10_says_52 : decode cX10_says 52 = .ok (.iastore, 1) := by decide +kernel
theorem dX10_says_53 : decode cX10_says 53 = .ok (.aload_n 0, 1) := by decide +kernel
theorem dX10_says_54 : decode cX10_says 54 = .ok (.getfield 52, 3) := by decide +kernel
theorem dX10_says_57 : decode cX10_says 57 = .ok (.iload 4, 2) := by decide +kernel
theorem dX10_says_59 : decode cX10_says 59 = .ok (.iaload, 1) := by decide +kernel
theorem dX10_says_60 : decode cX10_says 60 = .ok (.iconst (-1), 1) := by decide +kernel
theorem dX10_says_61 : decode cX10_says 61 = .ok (.if_icmp .ne 17, 3) := by decide +kernel
theorem dX10_says_64 : decode cX10_says 64 = .ok (.aload_n 0, 1) := by decide +kernel
theorem dX10_says_65 : decode cX10_says 65 = .ok (.getfield 52, 3) := by decide +kernel
theorem dX10_says_68 : decode cX10_says 68 = .ok (.iload 4, 2) := by decide +kernel
theorem dX10_says_70 : decode cX10_says 70 = .ok (.aload_n 0, 1) := by decide +kernel
theorem dX10_says_71 : decode cX10_says 71 = .ok (.getfield 284, 3) := by decide +kernel
theorem dX10_says_74 : decode cX10_says 74 = .ok (.iastore, 1) := by decide +kernel
theorem dX10_says_75 : decode cX10_says 75 = .ok (.goto 19, 3) := by decide +kernel
theorem dX10_says_78 : decode cX10_says 78 = .ok (.aload_n 0, 1) := by decide +kernel
theorem dX10_says_79 : decode cX10_says 79 = .ok (.getfield 64, 3) := by decide +kernel
theorem dX10_says_82 : decode cX10_says 82 = .ok (.aload_n 0, 1) := by decide +kernel
theorem dX10_says_83 : decode cX10_says 83 = .ok (.getfield 55, 3) := by decide +kernel
theorem dX10_says_86 : decode cX10_says 86 = .ok (.iload 4, 2) := by decide +kernel
theorem dX10_says_88 : decode cX10_says 88 = .ok (.iaload, 1) := by decide +kernel
theorem dX10_says_89 : decode cX10_says 89 = .ok (.aload_n 0, 1) := by decide +kernel
theorem dX10_says_90 : decode cX10_says 90 = .ok (.getfield 284, 3) := by decide +kernel
theorem dX10_says_93 : decode cX10_says 93 = .ok (.iastore, 1) := by decide +kernel
theorem dX10_says_94 : decode cX10_says 94 = .ok (.aload_n 0, 1) := by decide +kernel
theorem dX10_says_95 : decode cX10_says 95 = .ok (.getfield 55, 3) := by decide +kernel
theorem dX10_says_98 : decode cX10_says 98 = .ok (.iload 4, 2) := by decide +kernel
theorem dX10_says_100 : decode cX10_says 100 = .ok (.aload_n 0, 1) := by decide +kernel
theorem dX10_says_101 : decode cX10_says 101 = .ok (.getfield 284, 3) := by decide +kernel
theorem dX10_says_104 : decode cX10_says 104 = .ok (.iastore, 1) := by decide +kernel
theorem dX10_says_105 : decode cX10_says 105 = .ok (.aload_n 0, 1) := by decide +kernel
theorem dX10_says_106 : decode cX10_says 106 = .ok (.dup, 1) := by decide +kernel
theorem dX10_says_107 : decode cX10_says 107 = .ok (.getfield 284, 3) := by decide +kernel
theorem dX10_says_110 : decode cX10_says 110 = .ok (.iconst 1, 1) := by decide +kernel
theorem dX10_says_111 : decode cX10_says 111 = .ok (.iadd, 1) := by decide +kernel
theorem dX10_says_112 : decode cX10_says 112 = .ok (.putfield 284, 3) := by decide +kernel
theorem dX10_says_115 : decode cX10_says 115 = .ok (.return_, 1) := by decide +kernel
theorem dX10_goesDay_0 : decode cX10_goesDay 0 = .ok (.aload_n 0, 1) := by decide +kernel
theorem dX10_goesDay_1 : decode cX10_goesDay 1 = .ok (.iconst 0, 1) := by decide +kernel
theorem dX10_goesDay_2 : decode cX10_goesDay 2 = .ok (.putfield 284, 3) := by decide +kernel
theorem dX10_goesDay_5 : decode cX10_goesDay 5 = .ok (.aload_n 0, 1) := by decide +kernel
theorem dX10_goesDay_6 : decode cX10_goesDay 6 = .ok (.iconst 0, 1) := by decide +kernel
theorem dX10_goesDay_7 : decode cX10_goesDay 7 = .ok (.putfield 287, 3) := by decide +kernel
theorem dX10_goesDay_10 : decode cX10_goesDay 10 = .ok (.iconst 0, 1) := by decide +kernel
theorem dX10_goesDay_11 : decode cX10_goesDay 11 = .ok (.istore_n 1, 1) := by decide +kernel
theorem dX10_goesDay_12 : decode cX10_goesDay 12 = .ok (.iconst 0, 1) := by decide +kernel
theorem dX10_goesDay_13 : decode cX10_goesDay 13 = .ok (.istore_n 2, 1) := by decide +kernel
theorem dX10_goesDay_14 : decode cX10_goesDay 14 = .ok (.iload_n 2, 1) := by decide +kernel
theorem dX10_goesDay_15 : decode cX10_goesDay 15 = .ok (.bipush 100, 2) := by decide +kernel
theorem dX10_goesDay_17 : decode cX10_goesDay 17 = .ok (.if_icmp .ge 16, 3) := by decide +kernel
theorem dX10_goesDay_20 : decode cX10_goesDay 20 = .ok (.aload_n 0, 1) := by decide +kernel
theorem dX10_goesDay_21 : decode cX10_goesDay 21 = .ok (.getfield 52, 3) := by decide +kernel
theorem dX10_goesDay_24 : decode cX10_goesDay 24 = .ok (.iload_n 2, 1) := by decide +kernel
theorem dX10_goesDay_25 : decode cX10_goesDay 25 = .ok (.iconst (-1), 1) := by decide +kernel
theorem dX10_goesDay_26 : decode cX10_goesDay 26 = .ok (.iastore, 1) := by decide +kernel
theorem dX10_goesDay_27 : decode cX10_goesDay 27 = .ok (.iinc 2 1, 3) := by decide +kernel
theorem dX10_goesDay_30 : decode cX10_goesDay 30 = .ok (.goto (-16), 3) := by decide +kernel
theorem dX10_goesDay_33 : decode cX10_goesDay 33 = .ok (.iconst 0, 1) := by decide +kernel
theorem dX10_goesDay_34 : decode cX10_goesDay 34 = .ok (.istore_n 2, 1) := by decide +kernel
theorem dX10_goesDay_35 : decode cX10_goesDay 35 = .ok (.iload_n 2, 1) := by decide +kernel
theorem dX10_goesDay_36 : decode cX10_goesDay 36 = .ok (.bipush 6, 2) := by decide +kernel
theorem dX10_goesDay_38 : decode cX10_goesDay 38 = .ok (.if_icmp .ge 16, 3) := by decide +kernel
theorem dX10_goesDay_41 : decode cX10_goesDay 41 = .ok (.aload_n 0, 1) := by decide +kernel
theorem dX10_goesDay_42 : decode cX10_goesDay 42 = .ok (.getfield 76, 3) := by decide +kernel
theorem dX10_goesDay_45 : decode cX10_goesDay 45 = .ok (.iload_n 2, 1) := by decide +kernel
theorem dX10_goesDay_46 : decode cX10_goesDay 46 = .ok (.iconst 0, 1) := by decide +kernel
theorem dX10_goesDay_47 : decode cX10_goesDay 47 = .ok (.iastore, 1) := by decide +kernel
theorem dX10_goesDay_48 : decode cX10_goesDay 48 = .ok (.iinc 2 1, 3) := by decide +kernel
theorem dX10_goesDay_51 : decode cX10_goesDay 51 = .ok (.goto (-16), 3) := by decide +kernel
theorem dX10_goesDay_54 : decode cX10_goesDay 54 = .ok (.iconst 0, 1) := by decide +kernel
theorem dX10_goesDay_55 : decode cX10_goesDay 55 = .ok (.istore_n 2, 1) := by decide +kernel
theorem dX10_goesDay_56 : decode cX10_goesDay 56 = .ok (.iload_n 2, 1) := by decide +kernel
theorem dX10_goesDay_57 : decode cX10_goesDay 57 = .ok (.aload_n 0, 1) := by decide +kernel
theorem dX10_goesDay_58 : decode cX10_goesDay 58 = .ok (.getfield 273, 3) := by decide +kernel
theorem dX10_goesDay_61 : decode cX10_goesDay 61 = .ok (.if_icmp .ge 16, 3) := by decide +kernel
theorem dX10_goesDay_64 : decode cX10_goesDay 64 = .ok (.aload_n 0, 1) := by decide +kernel
theorem dX10_goesDay_65 : decode cX10_goesDay 65 = .ok (.getfield 79, 3) := by decide +kernel
theorem dX10_goesDay_68 : decode cX10_goesDay 68 = .ok (.iload_n 2, 1) := by decide +kernel
theorem dX10_goesDay_69 : decode cX10_goesDay 69 = .ok (.iconst 0, 1) := by decide +kernel
theorem dX10_goesDay_70 : decode cX10_goesDay 70 = .ok (.bastore, 1) := by decide +kernel
theorem dX10_goesDay_71 : decode cX10_goesDay 71 = .ok (.iinc 2 1, 3) := by decide +kernel
theorem dX10_goesDay_74 : decode cX10_goesDay 74 = .ok (.goto (-18), 3) := by decide +kernel
theorem dX10_goesDay_77 : decode cX10_goesDay 77 = .ok (.iconst 0, 1) := by decide +kernel
theorem dX10_goesDay_78 : decode cX10_goesDay 78 = .ok (.istore_n 2, 1) := by decide +kernel
theorem dX10_goesDay_79 : decode cX10_goesDay 79 = .ok (.iload_n 2, 1) := by decide +kernel
theorem dX10_goesDay_80 : decode cX10_goesDay 80 = .ok (.bipush 100, 2) := by decide +kernel
theorem dX10_goesDay_82 : decode cX10_goesDay 82 = .ok (.if_icmp .ge 286, 3) := by decide +kernel
theorem dX10_goesDay_85 : decode cX10_goesDay 85 = .ok (.aload_n 0, 1) := by decide +kernel
theorem dX10_goesDay_86 : decode cX10_goesDay 86 = .ok (.getfield 287, 3) := by decide +kernel
theorem dX10_goesDay_89 : decode cX10_goesDay 89 = .ok (.istore_n 3, 1) := by decide +kernel
theorem dX10_goesDay_90 : decode cX10_goesDay 90 = .ok (.iconst 0, 1) := by decide +kernel
theorem dX10_goesDay_91 : decode cX10_goesDay 91 = .ok (.istore 4, 2) := by decide +kernel
theorem dX10_goesDay_93 : decode cX10_goesDay 93 = .ok (.aload_n 0, 1) := by decide +kernel
theorem dX10_goesDay_94 : decode cX10_goesDay 94 = .ok (.getfield 52, 3) := by decide +kernel
theorem dX10_goesDay_97 : decode cX10_goesDay 97 = .ok (.iload_n 2, 1) := by decide +kernel
theorem dX10_goesDay_98 : decode cX10_goesDay 98 = .ok (.iaload, 1) := by decide +kernel
theorem dX10_goesDay_99 : decode cX10_goesDay 99 = .ok (.istore 5, 2) := by decide +kernel
theorem dX10_goesDay_101 : decode cX10_goesDay 101 = .ok (.iload 5, 2) := by decide +kernel
theorem dX10_goesDay_103 : decode cX10_goesDay 103 = .ok (.iconst (-1), 1) := by decide +kernel
theorem dX10_goesDay_104 : decode cX10_goesDay 104 = .ok (.if_icmp .eq 81, 3) := by decide +kernel
theorem dX10_goesDay_107 : decode cX10_goesDay 107 = .ok (.aload_n 0, 1) := by decide +kernel
theorem dX10_goesDay_108 : decode cX10_goesDay 108 = .ok (.getfield 67, 3) := by decide +kernel
theorem dX10_goesDay_111 : decode cX10_goesDay 111 = .ok (.aload_n 0, 1) := by decide +kernel
theorem dX10_goesDay_112 : decode cX10_goesDay 112 = .ok (.getfield 287, 3) := by decide +kernel
theorem dX10_goesDay_115 : decode cX10_goesDay 115 = .ok (.aload_n 0, 1) := by decide +kernel
theorem dX10_goesDay_116 : decode cX10_goesDay 116 = .ok (.getfield 61, 3) := by decide +kernel
theorem dX10_goesDay_119 : decode cX10_goesDay 119 = .ok (.iload 5, 2) := by decide +kernel
theorem dX10_goesDay_121 : decode cX10_goesDay 121 = .ok (.iaload, 1) := by decide +kernel
theorem dX10_goesDay_122 : decode cX10_goesDay 122 = .ok (.iastore, 1) := by decide +kernel
theorem dX10_goesDay_123 : decode cX10_goesDay 123 = .ok (.aload_n 0, 1) := by decide +kernel
theorem dX10_goesDay_124 : decode cX10_goesDay 124 = .ok (.getfield 73, 3) := by decide +kernel
theorem dX10_goesDay_127 : decode cX10_goesDay 127 = .ok (.aload_n 0, 1) := by decide +kernel
theorem dX10_goesDay_128 : decode cX10_goesDay 128 = .ok (.getfield 287, 3) := by decide +kernel
theorem dX10_goesDay_131 : decode cX10_goesDay 131 = .ok (.aload_n 0, 1) := by decide +kernel
theorem dX10_goesDay_132 : decode cX10_goesDay 132 = .ok (.getfield 58, 3) := by decide +kernel
theorem dX10_goesDay_135 : decode cX10_goesDay 135 = .ok (.iload 5, 2) := by decide +kernel
theorem dX10_goesDay_137 : decode cX10_goesDay 137 = .ok (.iaload, 1) := by decide +kernel
theorem dX10_goesDay_138 : decode cX10_goesDay 138 = .ok (.iastore, 1) := by decide +kernel
theorem dX10_goesDay_139 : decode cX10_goesDay 139 = .ok (.aload_n 0, 1) := by decide +kernel
theorem dX10_goesDay_140 : decode cX10_goesDay 140 = .ok (.getfield 70, 3) := by decide +kernel
theorem dX10_goesDay_143 : decode cX10_goesDay 143 = .ok (.aload_n 0, 1) := by decide +kernel
theorem dX10_goesDay_144 : decode cX10_goesDay 144 = .ok (.getfield 287, 3) := by decide +kernel
theorem dX10_goesDay_147 : decode cX10_goesDay 147 = .ok (.iload_n 2, 1) := by decide +kernel
theorem dX10_goesDay_148 : decode cX10_goesDay 148 = .ok (.iastore, 1) := by decide +kernel
theorem dX10_goesDay_149 : decode cX10_goesDay 149 = .ok (.aload_n 0, 1) := by decide +kernel
theorem dX10_goesDay_150 : decode cX10_goesDay 150 = .ok (.dup, 1) := by decide +kernel
theorem dX10_goesDay_151 : decode cX10_goesDay 151 = .ok (.getfield 287, 3) := by decide +kernel
theorem dX10_goesDay_154 : decode cX10_goesDay 154 = .ok (.iconst 1, 1) := by decide +kernel
theorem dX10_goesDay_155 : decode cX10_goesDay 155 = .ok (.iadd, 1) := by decide +kernel
theorem dX10_goesDay_156 : decode cX10_goesDay 156 = .ok (.putfield 287, 3) := by decide +kernel
theorem dX10_goesDay_159 : decode cX10_goesDay 159 = .ok (.iload 4, 2) := by decide +kernel
theorem dX10_goesDay_161 : decode cX10_goesDay 161 = .ok (.iconst 1, 1) := by decide +kernel
theorem dX10_goesDay_162 : decode cX10_goesDay 162 = .ok (.aload_n 0, 1) := by decide +kernel
theorem dX10_goesDay_163 : decode cX10_goesDay 163 = .ok (.getfield 61, 3) := by decide +kernel
theorem dX10_goesDay_166 : decode cX10_goesDay 166 = .ok (.iload 5, 2) := by decide +kernel
theorem dX10_goesDay_168 : decode cX10_goesDay 168 = .ok (.iaload, 1) := by decide +kernel
theorem dX10_goesDay_169 : decode cX10_goesDay 169 = .ok (.ishl, 1) := by decide +kernel
theorem dX10_goesDay_170 : decode cX10_goesDay 170 = .ok (.ior, 1) := by decide +kernel
theorem dX10_goesDay_171 : decode cX10_goesDay 171 = .ok (.istore 4, 2) := by decide +kernel
theorem dX10_goesDay_173 : decode cX10_goesDay 173 = .ok (.aload_n 0, 1) := by decide +kernel
theorem dX10_goesDay_174 : decode cX10_goesDay 174 = .ok (.getfield 64, 3) := by decide +kernel

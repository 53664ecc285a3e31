theorem dX7_readNaming_12 : decode cX7_readNaming 12 = .ok (.if_icmp .lt 9, 3) := by decide +kernel
theorem dX7_readNaming_15 : decode cX7_readNaming 15 = .ok (.aload_n 0, 1) := by decide +kernel
theorem dX7_readNaming_16 : decode cX7_readNaming 16 = .ok (.iconst 4, 1) := by decide +kernel
theorem dX7_readNaming_17 : decode cX7_readNaming 17 = .ok (.invokevirtual 99, 3) := by decide +kernel
theorem dX7_readNaming_20 : decode cX7_readNaming 20 = .ok (.return_, 1) := by decide +kernel
theorem dX7_readNaming_21 : decode cX7_readNaming 21 = .ok (.aload_n 0, 1) := by decide +kernel
theorem dX7_readNaming_22 : decode cX7_readNaming 22 = .ok (.invokevirtual 96, 3) := by decide +kernel
theorem dX7_readNaming_25 : decode cX7_readNaming 25 = .ok (.aload_n 0, 1) := by decide +kernel
theorem dX7_readNaming_26 : decode cX7_readNaming 26 = .ok (.iconst 0, 1) := by decide +kernel
theorem dX7_readNaming_27 : decode cX7_readNaming 27 = .ok (.aload_n 0, 1) := by decide +kernel
theorem dX7_readNaming_28 : decode cX7_readNaming 28 = .ok (.getfield 29, 3) := by decide +kernel
theorem dX7_readNaming_31 : decode cX7_readNaming 31 = .ok (.getfield 135, 3) := by decide +kernel
theorem dX7_readNaming_34 : decode cX7_readNaming 34 = .ok (.iconst 1, 1) := by decide +kernel
theorem dX7_readNaming_35 : decode cX7_readNaming 35 = .ok (.isub, 1) := by decide +kernel
theorem dX7_readNaming_36 : decode cX7_readNaming 36 = .ok (.invokevirtual 105, 3) := by decide +kernel
theorem dX7_readNaming_39 : decode cX7_readNaming 39 = .ok (.istore_n 1, 1) := by decide +kernel
theorem dX7_readNaming_40 : decode cX7_readNaming 40 = .ok (.aload_n 0, 1) := by decide +kernel
theorem dX7_readNaming_41 : decode cX7_readNaming 41 = .ok (.bipush 50, 2) := by decide +kernel
theorem dX7_readNaming_43 : decode cX7_readNaming 43 = .ok (.invokevirtual 93, 3) := by decide +kernel
theorem dX7_readNaming_46 : decode cX7_readNaming 46 = .ok (.ifCond .eq 21, 3) := by decide +kernel
theorem dX7_readNaming_49 : decode cX7_readNaming 49 = .ok (.aload_n 0, 1) := by decide +kernel
theorem dX7_readNaming_50 : decode cX7_readNaming 50 = .ok (.getfield 22, 3) := by decide +kernel
theorem dX7_readNaming_53 : decode cX7_readNaming 53 = .ok (.aload_n 0, 1) := by decide +kernel
theorem dX7_readNaming_54 : decode cX7_readNaming 54 = .ok (.getfield 42, 3) := by decide +kernel
theorem dX7_readNaming_57 : decode cX7_readNaming 57 = .ok (.iaload, 1) := by decide +kernel
theorem dX7_readNaming_58 : decode cX7_readNaming 58 = .ok (.iload_n 1, 1) := by decide +kernel
theorem dX7_readNaming_59 : decode cX7_readNaming 59 = .ok (.if_icmp .ne 8, 3) := by decide +kernel
theorem dX7_readNaming_62 : decode cX7_readNaming 62 = .ok (.aload_n 0, 1) := by decide +kernel
theorem dX7_readNaming_63 : decode cX7_readNaming 63 = .ok (.iconst 3, 1) := by decide +kernel
theorem dX7_readNaming_64 : decode cX7_readNaming 64 = .ok (.invokevirtual 99, 3) := by decide +kernel
theorem dX7_readNaming_67 : decode cX7_readNaming 67 = .ok (.aload_n 0, 1) := by decide +kernel
theorem dX7_readNaming_68 : decode cX7_readNaming 68 = .ok (.iconst 0, 1) := by decide +kernel
theorem dX7_readNaming_69 : decode cX7_readNaming 69 = .ok (.aload_n 0, 1) := by decide +kernel
theorem dX7_readNaming_70 : decode cX7_readNaming 70 = .ok (.getfield 29, 3) := by decide +kernel
theorem dX7_readNaming_73 : decode cX7_readNaming 73 = .ok (.getfield 135, 3) := by decide +kernel
theorem dX7_readNaming_76 : decode cX7_readNaming 76 = .ok (.iconst 1, 1) := by decide +kernel
theorem dX7_readNaming_77 : decode cX7_readNaming 77 = .ok (.isub, 1) := by decide +kernel
theorem dX7_readNaming_78 : decode cX7_readNaming 78 = .ok (.invokevirtual 105, 3) := by decide +kernel
theorem dX7_readNaming_81 : decode cX7_readNaming 81 = .ok (.istore_n 2, 1) := by decide +kernel
theorem dX7_readNaming_82 : decode cX7_readNaming 82 = .ok (.aload_n 0, 1) := by decide +kernel
theorem dX7_readNaming_83 : decode cX7_readNaming 83 = .ok (.iconst 3, 1) := by decide +kernel
theorem dX7_readNaming_84 : decode cX7_readNaming 84 = .ok (.invokevirtual 102, 3) := by decide +kernel
theorem dX7_readNaming_87 : decode cX7_readNaming 87 = .ok (.aload_n 0, 1) := by decide +kernel
theorem dX7_readNaming_88 : decode cX7_readNaming 88 = .ok (.iconst 0, 1) := by decide +kernel
theorem dX7_readNaming_89 : decode cX7_readNaming 89 = .ok (.bipush 99, 2) := by decide +kernel
theorem dX7_readNaming_91 : decode cX7_readNaming 91 = .ok (.invokevirtual 105, 3) := by decide +kernel
theorem dX7_readNaming_94 : decode cX7_readNaming 94 = .ok (.istore_n 3, 1) := by decide +kernel
theorem dX7_readNaming_95 : decode cX7_readNaming 95 = .ok (.bipush 10, 2) := by decide +kernel
theorem dX7_readNaming_97 : decode cX7_readNaming 97 = .ok (.istore 4, 2) := by decide +kernel
theorem dX7_readNaming_99 : decode cX7_readNaming 99 = .ok (.aload_n 0, 1) := by decide +kernel
theorem dX7_readNaming_100 : decode cX7_readNaming 100 = .ok (.getfield 54, 3) := by decide +kernel
theorem dX7_readNaming_103 : decode cX7_readNaming 103 = .ok (.istore 5, 2) := by decide +kernel
theorem dX7_readNaming_105 : decode cX7_readNaming 105 = .ok (.iload 5, 2) := by decide +kernel
theorem dX7_readNaming_107 : decode cX7_readNaming 107 = .ok (.ifCond .le 30, 3) := by decide +kernel
theorem dX7_readNaming_110 : decode cX7_readNaming 110 = .ok (.aload_n 0, 1) := by decide +kernel
theorem dX7_readNaming_111 : decode cX7_readNaming 111 = .ok (.iconst 4, 1) := by decide +kernel
theorem dX7_readNaming_112 : decode cX7_readNaming 112 = .ok (.invokevirtual 93, 3) := by decide +kernel
theorem dX7_readNaming_115 : decode cX7_readNaming 115 = .ok (.ifCond .eq 22, 3) := by decide +kernel
theorem dX7_readNaming_118 : decode cX7_readNaming 118 = .ok (.aload_n 0, 1) := by decide +kernel
theorem dX7_readNaming_119 : decode cX7_readNaming 119 = .ok (.invokevirtual 96, 3) := by decide +kernel
theorem dX7_readNaming_122 : decode cX7_readNaming 122 = .ok (.aload_n 0, 1) := by decide +kernel
theorem dX7_readNaming_123 : decode cX7_readNaming 123 = .ok (.iconst 0, 1) := by decide +kernel
theorem dX7_readNaming_124 : decode cX7_readNaming 124 = .ok (.bipush 10, 2) := by decide +kernel
theorem dX7_readNaming_126 : decode cX7_readNaming 126 = .ok (.invokevirtual 105, 3) := by decide +kernel
theorem dX7_readNaming_129 : decode cX7_readNaming 129 = .ok (.istore 4, 2) := by decide +kernel
theorem dX7_readNaming_131 : decode cX7_readNaming 131 = .ok (.iinc 5 (-1), 3) := by decide +kernel
theorem dX7_readNaming_134 : decode cX7_readNaming 134 = .ok (.goto (-29), 3) := by decide +kernel
theorem dX7_readNaming_137 : decode cX7_readNaming 137 = .ok (.aload_n 0, 1) := by decide +kernel
theorem dX7_readNaming_138 : decode cX7_readNaming 138 = .ok (.getfield 29, 3) := by decide +kernel
theorem dX7_readNaming_141 : decode cX7_readNaming 141 = .ok (.getfield 123, 3) := by decide +kernel
theorem dX7_readNaming_144 : decode cX7_readNaming 144 = .ok (.iload_n 1, 1) := by decide +kernel
theorem dX7_readNaming_145 : decode cX7_readNaming 145 = .ok (.iload_n 2, 1) := by decide +kernel
theorem dX7_readNaming_146 : decode cX7_readNaming 146 = .ok (.iload_n 3, 1) := by decide +kernel
theorem dX7_readNaming_147 : decode cX7_readNaming 147 = .ok (.iload 4, 2) := by decide +kernel
theorem dX7_readNaming_149 : decode cX7_readNaming 149 = .ok (.invokevirtual 157, 3) := by decide +kernel
theorem dX7_readNaming_152 : decode cX7_readNaming 152 = .ok (.return_, 1) := by decide +kernel
theorem dX7_readLaw_0 : decode cX7_readLaw 0 = .ok (.aload_n 0, 1) := by decide +kernel
theorem dX7_readLaw_1 : decode cX7_readLaw 1 = .ok (.invokevirtual 96, 3) := by decide +kernel
theorem dX7_readLaw_4 : decode cX7_readLaw 4 = .ok (.aload_n 0, 1) := by decide +kernel
theorem dX7_readLaw_5 : decode cX7_readLaw 5 = .ok (.bipush 31, 2) := by decide +kernel
theorem dX7_readLaw_7 : decode cX7_readLaw 7 = .ok (.invokevirtual 102, 3) := by decide +kernel
theorem dX7_readLaw_10 : decode cX7_readLaw 10 = .ok (.aload_n 0, 1) := by decide +kernel
theorem dX7_readLaw_11 : decode cX7_readLaw 11 = .ok (.getfield 45, 3) := by decide +kernel
theorem dX7_readLaw_14 : decode cX7_readLaw 14 = .ok (.istore_n 2, 1) := by decide +kernel
theorem dX7_readLaw_15 : decode cX7_readLaw 15 = .ok (.aload_n 0, 1) := by decide +kernel
theorem dX7_readLaw_16 : decode cX7_readLaw 16 = .ok (.iload_n 1, 1) := by decide +kernel
theorem dX7_readLaw_17 : decode cX7_readLaw 17 = .ok (.iconst 2, 1) := by decide +kernel
theorem dX7_readLaw_18 : decode cX7_readLaw 18 = .ok (.if_icmp .ne 7, 3) := by decide +kernel
theorem dX7_readLaw_21 : decode cX7_readLaw 21 = .ok (.iconst 1, 1) := by decide +kernel
theorem dX7_readLaw_22 : decode cX7_readLaw 22 = .ok (.goto 4, 3) := by decide +kernel
theorem dX7_readLaw_25 : decode cX7_readLaw 25 = .ok (.iconst 0, 1) := by decide +kernel
theorem dX7_readLaw_26 : decode cX7_readLaw 26 = .ok (.putfield 161, 3) := by decide +kernel
theorem dX7_readLaw_29 : decode cX7_readLaw 29 = .ok (.aload_n 0, 1) := by decide +kernel
theorem dX7_readLaw_30 : decode cX7_readLaw 30 = .ok (.getfield 161, 3) := by decide +kernel
theorem dX7_readLaw_33 : decode cX7_readLaw 33 = .ok (.ifCond .eq 11, 3) := by decide +kernel
theorem dX7_readLaw_36 : decode cX7_readLaw 36 = .ok (.aload_n 0, 1) := by decide +kernel
theorem dX7_readLaw_37 : decode cX7_readLaw 37 = .ok (.iconst 0, 1) := by decide +kernel
theorem dX7_readLaw_38 : decode cX7_readLaw 38 = .ok (.invokevirtual 165, 3) := by decide +kernel
theorem dX7_readLaw_41 : decode cX7_readLaw 41 = .ok (.goto 8, 3) := by decide +kernel
theorem dX7_readLaw_44 : decode cX7_readLaw 44 = .ok (.aload_n 0, 1) := by decide +kernel
theorem dX7_readLaw_45 : decode cX7_readLaw 45 = .ok (.iconst 0, 1) := by decide +kernel
theorem dX7_readLaw_46 : decode cX7_readLaw 46 = .ok (.invokevirtual 168, 3) := by decide +kernel
theorem dX7_readLaw_49 : decode cX7_readLaw 49 = .ok (.aload_n 0, 1) := by decide +kernel
theorem dX7_readLaw_50 : decode cX7_readLaw 50 = .ok (.getfield 29, 3) := by decide +kernel
theorem dX7_readLaw_53 : decode cX7_readLaw 53 = .ok (.getfield 171, 3) := by decide +kernel
theorem dX7_readLaw_56 : decode cX7_readLaw 56 = .ok (.iload_n 1, 1) := by decide +kernel
theorem dX7_readLaw_57 : decode cX7_readLaw 57 = .ok (.iload_n 2, 1) := by decide +kernel
theorem dX7_readLaw_58 : decode cX7_readLaw 58 = .ok (.iastore, 1) := by decide +kernel
theorem dX7_readLaw_59 : decode cX7_readLaw 59 = .ok (.aload_n 0, 1) := by decide +kernel
theorem dX7_readLaw_60 : decode cX7_readLaw 60 = .ok (.getfield 29, 3) := by decide +kernel
theorem dX7_readLaw_63 : decode cX7_readLaw 63 = .ok (.getfield 174, 3) := by decide +kernel
theorem dX7_readLaw_66 : decode cX7_readLaw 66 = .ok (.iload_n 1, 1) := by decide +kernel
theorem dX7_readLaw_67 : decode cX7_readLaw 67 = .ok (.aload_n 0, 1) := by decide +kernel
theorem dX7_readLaw_68 : decode cX7_readLaw 68 = .ok (.getfield 45, 3) := by decide +kernel
theorem dX7_readLaw_71 : decode cX7_readLaw 71 = .ok (.iastore, 1) := by decide +kernel
theorem dX7_readLaw_72 : decode cX7_readLaw 72 = .ok (.return_, 1) := by decide +kernel
theorem dX7_emit_0 : decode cX7_emit 0 = .ok (.aload_n 0, 1) := by decide +kernel
theorem dX7_emit_1 : decode cX7_emit 1 = .ok (.getfield 48, 3) := by decide +kernel
theorem dX7_emit_4 : decode cX7_emit 4 = .ok (.ifCond .ne 41, 3) := by decide +kernel
theorem dX7_emit_7 : decode cX7_emit 7 = .ok (.aload_n 0, 1) := by decide +kernel
theorem dX7_emit_8 : decode cX7_emit 8 = .ok (.getfield 45, 3) := by decide +kernel
theorem dX7_emit_11 : decode cX7_emit 11 = .ok (.aload_n 0, 1) := by decide +kernel
theorem dX7_emit_12 : decode cX7_emit 12 = .ok (.getfield 29, 3) := by decide +kernel
theorem dX7_emit_15 : decode cX7_emit 15 = .ok (.getfield 177, 3) := by decide +kernel
theorem dX7_emit_18 : decode cX7_emit 18 = .ok (.arraylength, 1) := by decide +kernel
theorem dX7_emit_19 : decode cX7_emit 19 = .ok (.if_icmp .ge 26, 3) := by decide +kernel
theorem dX7_emit_22 : decode cX7_emit 22 = .ok (.aload_n 0, 1) := by decide +kernel
theorem dX7_emit_23 : decode cX7_emit 23 = .ok (.getfield 29, 3) := by decide +kernel
theorem dX7_emit_26 : decode cX7_emit 26 = .ok (.getfield 177, 3) := by decide +kernel
theorem dX7_emit_29 : decode cX7_emit 29 = .ok (.aload_n 0, 1) := by decide +kernel
theorem dX7_emit_30 : decode cX7_emit 30 = .ok (.getfield 45, 3) := by decide +kernel
theorem dX7_emit_33 : decode cX7_emit 33 = .ok (.iload_n 1, 1) := by decide +kernel
theorem dX7_emit_34 : decode cX7_emit 34 = .ok (.iastore, 1) := by decide +kernel
theorem dX7_emit_35 : decode cX7_emit 35 = .ok (.aload_n 0, 1) := by decide +kernel
theorem dX7_emit_36 : decode cX7_emit 36 = .ok (.dup, 1) := by decide +kernel
theorem dX7_emit_37 : decode cX7_emit 37 = .ok (.getfield 45, 3) := by decide +kernel
theorem dX7_emit_40 : decode cX7_emit 40 = .ok (.iconst 1, 1) := by decide +kernel
theorem dX7_emit_41 : decode cX7_emit 41 = .ok (.iadd, 1) := by decide +kernel
theorem dX7_emit_42 : decode cX7_emit 42 = .ok (.putfield 45, 3) := by decide +kernel
theorem dX7_emit_45 : decode cX7_emit 45 = .ok (.return_, 1) := by decide +kernel
theorem dX7_enter_0 : decode cX7_enter 0 = .ok (.iload_n 1, 1) := by decide +kernel
theorem dX7_enter_1 : decode cX7_enter 1 = .ok (.bipush 6, 2) := by decide +kernel
theorem dX7_enter_3 : decode cX7_enter 3 = .ok (.if_icmp .lt 10, 3) := by decide +kernel
theorem dX7_enter_6 : decode cX7_enter 6 = .ok (.aload_n 0, 1) := by decide +kernel
theorem dX7_enter_7 : decode cX7_enter 7 = .ok (.iconst 4, 1) := by decide +kernel
theorem dX7_enter_8 : decode cX7_enter 8 = .ok (.invokevirtual 99, 3) := by decide +kernel
theorem dX7_enter_11 : decode cX7_enter 11 = .ok (.iconst 0, 1) := by decide +kernel
theorem dX7_enter_12 : decode cX7_enter 12 = .ok (.ireturn, 1) := by decide +kernel
theorem dX7_enter_13 : decode cX7_enter 13 = .ok (.aload_n 0, 1) := by decide +kernel
theorem dX7_enter_14 : decode cX7_enter 14 = .ok (.invokevirtual 96, 3) := by decide +kernel
theorem dX7_enter_17 : decode cX7_enter 17 = .ok (.iconst 1, 1) := by decide +kernel
theorem dX7_enter_18 : decode cX7_enter 18 = .ok (.ireturn, 1) := by decide +kernel
theorem dX7_readTruth_0 : decode cX7_readTruth 0 = .ok (.aload_n 0, 1) := by decide +kernel
theorem dX7_readTruth_1 : decode cX7_readTruth 1 = .ok (.iload_n 1, 1) := by decide +kernel
theorem dX7_readTruth_2 : decode cX7_readTruth 2 = .ok (.invokevirtual 180, 3) := by decide +kernel
theorem dX7_readTruth_5 : decode cX7_readTruth 5 = .ok (.aload_n 0, 1) := by decide +kernel
theorem dX7_readTruth_6 : decode cX7_readTruth 6 = .ok (.getfield 54, 3) := by decide +kernel
theorem dX7_readTruth_9 : decode cX7_readTruth 9 = .ok (.istore_n 2, 1) := by decide +kernel
theorem dX7_readTruth_10 : decode cX7_readTruth 10 = .ok (.iload_n 2, 1) := by decide +kernel
theorem dX7_readTruth_11 : decode cX7_readTruth 11 = .ok (.ifCond .le 34, 3) := by decide +kernel
theorem dX7_readTruth_14 : decode cX7_readTruth 14 = .ok (.aload_n 0, 1) := by decide +kernel
theorem dX7_readTruth_15 : decode cX7_readTruth 15 = .ok (.bipush 13, 2) := by decide +kernel
theorem dX7_readTruth_17 : decode cX7_readTruth 17 = .ok (.invokevirtual 93, 3) := by decide +kernel
theorem dX7_readTruth_20 : decode cX7_readTruth 20 = .ok (.ifCond .eq 25, 3) := by decide +kernel
theorem dX7_readTruth_23 : decode cX7_readTruth 23 = .ok (.aload_n 0, 1) := by decide +kernel
theorem dX7_readTruth_24 : decode cX7_readTruth 24 = .ok (.invokevirtual 96, 3) := by decide +kernel
theorem dX7_readTruth_27 : decode cX7_readTruth 27 = .ok (.aload_n 0, 1) := by decide +kernel
theorem dX7_readTruth_28 : decode cX7_readTruth 28 = .ok (.iload_n 1, 1) := by decide +kernel
theorem dX7_readTruth_29 : decode cX7_readTruth 29 = .ok (.invokevirtual 180, 3) := by decide +kernel
theorem dX7_readTruth_32 : decode cX7_readTruth 32 = .ok (.aload_n 0, 1) := by decide +kernel
theorem dX7_readTruth_33 : decode cX7_readTruth 33 = .ok (.sipush 1013, 3) := by decide +kernel
theorem dX7_readTruth_36 : decode cX7_readTruth 36 = .ok (.invokevirtual 183, 3) := by decide +kernel
theorem dX7_readTruth_39 : decode cX7_readTruth 39 = .ok (.iinc 2 (-1), 3) := by decide +kernel
theorem dX7_readTruth_42 : decode cX7_readTruth 42 = .ok (.goto (-32), 3) := by decide +kernel
theorem dX7_readTruth_45 : decode cX7_readTruth 45 = .ok (.return_, 1) := by decide +kernel
theorem dX7_readBoth_0 : decode cX7_readBoth 0 = .ok (.aload_n 0, 1) := by decide +kernel
theorem dX7_readBoth_1 : decode cX7_readBoth 1 = .ok (.iload_n 1, 1) := by decide +kernel
theorem dX7_readBoth_2 : decode cX7_readBoth 2 = .ok (.invokevirtual 186, 3) := by decide +kernel
theorem dX7_readBoth_5 : decode cX7_readBoth 5 = .ok (.aload_n 0, 1) := by decide +kernel
theorem dX7_readBoth_6 : decode cX7_readBoth 6 = .ok (.getfield 54, 3) := by decide +kernel
theorem dX7_readBoth_9 : decode cX7_readBoth 9 = .ok (.istore_n 2, 1) := by decide +kernel
theorem dX7_readBoth_10 : decode cX7_readBoth 10 = .ok (.iload_n 2, 1) := by decide +kernel
theorem dX7_readBoth_11 : decode cX7_readBoth 11 = .ok (.ifCond .le 34, 3) := by decide +kernel
theorem dX7_readBoth_14 : decode cX7_readBoth 14 = .ok (.aload_n 0, 1) := by decide +kernel
theorem dX7_readBoth_15 : decode cX7_readBoth 15 = .ok (.bipush 12, 2) := by decide +kernel
theorem dX7_readBoth_17 : decode cX7_readBoth 17 = .ok (.invokevirtual 93, 3) := by decide +kernel
theorem dX7_readBoth_20 : decode cX7_readBoth 20 = .ok (.ifCond .eq 25, 3) := by decide +kernel
theorem dX7_readBoth_23 : decode cX7_readBoth 23 = .ok (.aload_n 0, 1) := by decide +kernel
theorem dX7_readBoth_24 : decode cX7_readBoth 24 = .ok (.invokevirtual 96, 3) := by decide +kernel
theorem dX7_readBoth_27 : decode cX7_readBoth 27 = .ok (.aload_n 0, 1) := by decide +kernel
theorem dX7_readBoth_28 : decode cX7_readBoth 28 = .ok (.iload_n 1, 1) := by decide +kernel
theorem dX7_readBoth_29 : decode cX7_readBoth 29 = .ok (.invokevirtual 186, 3) := by decide +kernel
theorem dX7_readBoth_32 : decode cX7_readBoth 32 = .ok (.aload_n 0, 1) := by decide +kernel
theorem dX7_readBoth_33 : decode cX7_readBoth 33 = .ok (.sipush 1012, 3) := by decide +kernel
theorem dX7_readBoth_36 : decode cX7_readBoth 36 = .ok (.invokevirtual 183, 3) := by decide +kernel
theorem dX7_readBoth_39 : decode cX7_readBoth 39 = .ok (.iinc 2 (-1), 3) := by decide +kernel
theorem dX7_readBoth_42 : decode cX7_readBoth 42 = .ok (.goto (-32), 3) := by decide +kernel
theorem dX7_readBoth_45 : decode cX7_readBoth 45 = .ok (.return_, 1) := by decide +kernel
theorem dX7_readUnit_0 : decode cX7_readUnit 0 = .ok (.aload_n 0, 1) := by decide +kernel
theorem dX7_readUnit_1 : decode cX7_readUnit 1 = .ok (.bipush 14, 2) := by decide +kernel
theorem dX7_readUnit_3 : decode cX7_readUnit 3 = .ok (.invokevirtual 93, 3) := by decide +kernel
theorem dX7_readUnit_6 : decode cX7_readUnit 6 = .ok (.ifCond .eq 28, 3) := by decide +kernel
theorem dX7_readUnit_9 : decode cX7_readUnit 9 = .ok (.aload_n 0, 1) := by decide +kernel
theorem dX7_readUnit_10 : decode cX7_readUnit 10 = .ok (.iload_n 1, 1) := by decide +kernel
theorem dX7_readUnit_11 : decode cX7_readUnit 11 = .ok (.invokevirtual 189, 3) := by decide +kernel
theorem dX7_readUnit_14 : decode cX7_readUnit 14 = .ok (.ifCond .eq 128, 3) := by decide +kernel
theorem dX7_readUnit_17 : decode cX7_readUnit 17 = .ok (.aload_n 0, 1) := by decide +kernel
theorem dX7_readUnit_18 : decode cX7_readUnit 18 = .ok (.iload_n 1, 1) := by decide +kernel
theorem dX7_readUnit_19 : decode cX7_readUnit 19 = .ok (.iconst 1, 1) := by decide +kernel
theorem dX7_readUnit_20 : decode cX7_readUnit 20 = .ok (.iadd, 1) := by decide +kernel
theorem dX7_readUnit_21 : decode cX7_readUnit 21 = .ok (.invokevirtual 186, 3) := by decide +kernel
theorem dX7_readUnit_24 : decode cX7_readUnit 24 = .ok (.aload_n 0, 1) := by decide +kernel
theorem dX7_readUnit_25 : decode cX7_readUnit 25 = .ok (.sipush 1014, 3) := by decide +kernel
theorem dX7_readUnit_28 : decode cX7_readUnit 28 = .ok (.invokevirtual 183, 3) := by decide +kernel
theorem dX7_readUnit_31 : decode cX7_readUnit 31 = .ok (.goto 111, 3) := by decide +kernel
theorem dX7_readUnit_34 : decode cX7_readUnit 34 = .ok (.aload_n 0, 1) := by decide +kernel
theorem dX7_readUnit_35 : decode cX7_readUnit 35 = .ok (.bipush 37, 2) := by decide +kernel
theorem dX7_readUnit_37 : decode cX7_readUnit 37 = .ok (.invokevirtual 93, 3) := by decide +kernel
theorem dX7_readUnit_40 : decode cX7_readUnit 40 = .ok (.ifCond .eq 27, 3) := by decide +kernel
theorem dX7_readUnit_43 : decode cX7_readUnit 43 = .ok (.aload_n 0, 1) := by decide +kernel
theorem dX7_readUnit_44 : decode cX7_readUnit 44 = .ok (.iload_n 1, 1) := by decide +kernel
theorem dX7_readUnit_45 : decode cX7_readUnit 45 = .ok (.invokevirtual 189, 3) := by decide +kernel
theorem dX7_readUnit_48 : decode cX7_readUnit 48 = .ok (.ifCond .eq 94, 3) := by decide +kernel
theorem dX7_readUnit_51 : decode cX7_readUnit 51 = .ok (.aload_n 0, 1) := by decide +kernel
theorem dX7_readUnit_52 : decode cX7_readUnit 52 = .ok (.iload_n 1, 1) := by decide +kernel
theorem dX7_readUnit_53 : decode cX7_readUnit 53 = .ok (.iconst 1, 1) := by decide +kernel
theorem dX7_readUnit_54 : decode cX7_readUnit 54 = .ok (.iadd, 1) := by decide +kernel
theorem dX7_readUnit_55 : decode cX7_readUnit 55 = .ok (.invokevirtual 165, 3) := by decide +kernel
theorem dX7_readUnit_58 : decode cX7_readUnit 58 = .ok (.aload_n 0, 1) := by decide +kernel
theorem dX7_readUnit_59 : decode cX7_readUnit 59 = .ok (.bipush 38, 2) := by decide +kernel
theorem dX7_readUnit_61 : decode cX7_readUnit 61 = .ok (.invokevirtual 102, 3) := by decide +kernel
theorem dX7_readUnit_64 : decode cX7_readUnit 64 = .ok (.goto 78, 3) := by decide +kernel
theorem dX7_readUnit_67 : decode cX7_readUnit 67 = .ok (.aload_n 0, 1) := by decide +kernel
theorem dX7_readUnit_68 : decode cX7_readUnit 68 = .ok (.iload_n 1, 1) := by decide +kernel
theorem dX7_readUnit_69 : decode cX7_readUnit 69 = .ok (.invokevirtual 168, 3) := by decide +kernel
theorem dX7_readUnit_72 : decode cX7_readUnit 72 = .ok (.aload_n 0, 1) := by decide +kernel
theorem dX7_readUnit_73 : decode cX7_readUnit 73 = .ok (.getfield 15, 3) := by decide +kernel
theorem dX7_readUnit_76 : decode cX7_readUnit 76 = .ok (.aload_n 0, 1) := by decide +kernel
theorem dX7_readUnit_77 : decode cX7_readUnit 77 = .ok (.getfield 42, 3) := by decide +kernel
theorem dX7_readUnit_80 : decode cX7_readUnit 80 = .ok (.iaload, 1) := by decide +kernel
theorem dX7_readUnit_81 : decode cX7_readUnit 81 = .ok (.istore_n 2, 1) := by decide +kernel
theorem dX7_readUnit_82 : decode cX7_readUnit 82 = .ok (.aload_n 0, 1) := by decide +kernel
theorem dX7_readUnit_83 : decode cX7_readUnit 83 = .ok (.bipush 39, 2) := by decide +kernel
theorem dX7_readUnit_85 : decode cX7_readUnit 85 = .ok (.invokevirtual 93, 3) := by decide +kernel
theorem dX7_readUnit_88 : decode cX7_readUnit 88 = .ok (.ifCond .ne 21, 3) := by decide +kernel
theorem dX7_readUnit_91 : decode cX7_readUnit 91 = .ok (.aload_n 0, 1) := by decide +kernel
theorem dX7_readUnit_92 : decode cX7_readUnit 92 = .ok (.bipush 40, 2) := by decide +kernel
theorem dX7_readUnit_94 : decode cX7_readUnit 94 = .ok (.invokevirtual 93, 3) := by decide +kernel
theorem dX7_readUnit_97 : decode cX7_readUnit 97 = .ok (.ifCond .ne 12, 3) := by decide +kernel
theorem dX7_readUnit_100 : decode cX7_readUnit 100 = .ok (.aload_n 0, 1) := by decide +kernel
theorem dX7_readUnit_101 : decode cX7_readUnit 101 = .ok (.bipush 41, 2) := by decide +kernel
theorem dX7_readUnit_103 : decode cX7_readUnit 103 = .ok (.invokevirtual 93, 3) := by decide +kernel
theorem dX7_readUnit_106 : decode cX7_readUnit 106 = .ok (.ifCond .eq 10, 3) := by decide +kernel
theorem dX7_readUnit_109 : decode cX7_readUnit 109 = .ok (.aload_n 0, 1) := by decide +kernel
theorem dX7_readUnit_110 : decode cX7_readUnit 110 = .ok (.invokevirtual 96, 3) := by decide +kernel
theorem dX7_readUnit_113 : decode cX7_readUnit 113 = .ok (.goto 8, 3) := by decide +kernel
theorem dX7_readUnit_116 : decode cX7_readUnit 116 = .ok (.aload_n 0, 1) := by decide +kernel
theorem dX7_readUnit_117 : decode cX7_readUnit 117 = .ok (.iconst 2, 1) := by decide +kernel
theorem dX7_readUnit_118 : decode cX7_readUnit 118 = .ok (.invokevirtual 99, 3) := by decide +kernel
theorem dX7_readUnit_121 : decode cX7_readUnit 121 = .ok (.aload_n 0, 1) := by decide +kernel
theorem dX7_readUnit_122 : decode cX7_readUnit 122 = .ok (.getfield 48, 3) := by decide +kernel
theorem dX7_readUnit_125 : decode cX7_readUnit 125 = .ok (.ifCond .ne 17, 3) := by decide +kernel
theorem dX7_readUnit_128 : decode cX7_readUnit 128 = .ok (.aload_n 0, 1) := by decide +kernel
theorem dX7_readUnit_129 : decode cX7_readUnit 129 = .ok (.iload_n 1, 1) := by decide +kernel
theorem dX7_readUnit_130 : decode cX7_readUnit 130 = .ok (.invokevirtual 168, 3) := by decide +kernel
theorem dX7_readUnit_133 : decode cX7_readUnit 133 = .ok (.aload_n 0, 1) := by decide +kernel
theorem dX7_readUnit_134 : decode cX7_readUnit 134 = .ok (.sipush 1000, 3) := by decide +kernel
theorem dX7_readUnit_137 : decode cX7_readUnit 137 = .ok (.iload_n 2, 1) := by decide +kernel
theorem dX7_readUnit_138 : decode cX7_readUnit 138 = .ok (.iadd, 1) := by decide +kernel
theorem dX7_readUnit_139 : decode cX7_readUnit 139 = .ok (.invokevirtual 183, 3) := by decide +kernel
theorem dX7_readUnit_142 : decode cX7_readUnit 142 = .ok (.return_, 1) := by decide +kernel
theorem dX7_readSum_0 : decode cX7_readSum 0 = .ok (.aload_n 0, 1) := by decide +kernel
theorem dX7_readSum_1 : decode cX7_readSum 1 = .ok (.iload_n 1, 1) := by decide +kernel
theorem dX7_readSum_2 : decode cX7_readSum 2 = .ok (.invokevirtual 192, 3) := by decide +kernel
theorem dX7_readSum_5 : decode cX7_readSum 5 = .ok (.aload_n 0, 1) := by decide +kernel
theorem dX7_readSum_6 : decode cX7_readSum 6 = .ok (.getfield 54, 3) := by decide +kernel
theorem dX7_readSum_9 : decode cX7_readSum 9 = .ok (.istore_n 2, 1) := by decide +kernel
theorem dX7_readSum_10 : decode cX7_readSum 10 = .ok (.iload_n 2, 1) := by decide +kernel
theorem dX7_readSum_11 : decode cX7_readSum 11 = .ok (.ifCond .le 55, 3) := by decide +kernel
theorem dX7_readSum_14 : decode cX7_readSum 14 = .ok (.aload_n 0, 1) := by decide +kernel
theorem dX7_readSum_15 : decode cX7_readSum 15 = .ok (.bipush 32, 2) := by decide +kernel
theorem dX7_readSum_17 : decode cX7_readSum 17 = .ok (.invokevirtual 93, 3) := by decide +kernel
theorem dX7_readSum_20 : decode cX7_readSum 20 = .ok (.ifCond .ne 12, 3) := by decide +kernel
theorem dX7_readSum_23 : decode cX7_readSum 23 = .ok (.aload_n 0, 1) := by decide +kernel
theorem dX7_readSum_24 : decode cX7_readSum 24 = .ok (.bipush 33, 2) := by decide +kernel
theorem dX7_readSum_26 : decode cX7_readSum 26 = .ok (.invokevirtual 93, 3) := by decide +kernel
theorem dX7_readSum_29 : decode cX7_readSum 29 = .ok (.ifCond .eq 37, 3) := by decide +kernel
theorem dX7_readSum_32 : decode cX7_readSum 32 = .ok (.aload_n 0, 1) := by decide +kernel
theorem dX7_readSum_33 : decode cX7_readSum 33 = .ok (.getfield 15, 3) := by decide +kernel
theorem dX7_readSum_36 : decode cX7_readSum 36 = .ok (.aload_n 0, 1) := by decide +kernel
theorem dX7_readSum_37 : decode cX7_readSum 37 = .ok (.getfield 42, 3) := by decide +kernel
theorem dX7_readSum_40 : decode cX7_readSum 40 = .ok (.iaload, 1) := by decide +kernel
theorem dX7_readSum_41 : decode cX7_readSum 41 = .ok (.istore_n 3, 1) := by decide +kernel
theorem dX7_readSum_42 : decode cX7_readSum 42 = .ok (.aload_n 0, 1) := by decide +kernel
theorem dX7_readSum_43 : decode cX7_readSum 43 = .ok (.invokevirtual 96, 3) := by decide +kernel
theorem dX7_readSum_46 : decode cX7_readSum 46 = .ok (.aload_n 0, 1) := by decide +kernel
theorem dX7_readSum_47 : decode cX7_readSum 47 = .ok (.iload_n 1, 1) := by decide +kernel
theorem dX7_readSum_48 : decode cX7_readSum 48 = .ok (.invokevirtual 192, 3) := by decide +kernel
theorem dX7_readSum_51 : decode cX7_readSum 51 = .ok (.aload_n 0, 1) := by decide +kernel
theorem dX7_readSum_52 : decode cX7_readSum 52 = .ok (.sipush 1000, 3) := by decide +kernel
theorem dX7_readSum_55 : decode cX7_readSum 55 = .ok (.iload_n 3, 1) := by decide +kernel
theorem dX7_readSum_56 : decode cX7_readSum 56 = .ok (.iadd, 1) := by decide +kernel
theorem dX7_readSum_57 : decode cX7_readSum 57 = .ok (.invokevirtual 183, 3) := by decide +kernel
theorem dX7_readSum_60 : decode cX7_readSum 60 = .ok (.iinc 2 (-1), 3) := by decide +kernel
theorem dX7_readSum_63 : decode cX7_readSum 63 = .ok (.goto (-53), 3) := by decide +kernel
theorem dX7_readSum_66 : decode cX7_readSum 66 = .ok (.return_, 1) := by decide +kernel
theorem dX7_readTerm_0 : decode cX7_readTerm 0 = .ok (.aload_n 0, 1) := by decide +kernel
theorem dX7_readTerm_1 : decode cX7_readTerm 1 = .ok (.iload_n 1, 1) := by decide +kernel
theorem dX7_readTerm_2 : decode cX7_readTerm 2 = .ok (.invokevirtual 195, 3) := by decide +kernel
theorem dX7_readTerm_5 : decode cX7_readTerm 5 = .ok (.aload_n 0, 1) := by decide +kernel
theorem dX7_readTerm_6 : decode cX7_readTerm 6 = .ok (.getfield 54, 3) := by decide +kernel
theorem dX7_readTerm_9 : decode cX7_readTerm 9 = .ok (.istore_n 2, 1) := by decide +kernel
theorem dX7_readTerm_10 : decode cX7_readTerm 10 = .ok (.iload_n 2, 1) := by decide +kernel
theorem dX7_readTerm_11 : decode cX7_readTerm 11 = .ok (.ifCond .le 34, 3) := by decide +kernel
theorem dX7_readTerm_14 : decode cX7_readTerm 14 = .ok (.aload_n 0, 1) := by decide +kernel
theorem dX7_readTerm_15 : decode cX7_readTerm 15 = .ok (.bipush 34, 2) := by decide +kernel
theorem dX7_readTerm_17 : decode cX7_readTerm 17 = .ok (.invokevirtual 93, 3) := by decide +kernel
theorem dX7_readTerm_20 : decode cX7_readTerm 20 = .ok (.ifCond .eq 25, 3) := by decide +kernel
theorem dX7_readTerm_23 : decode cX7_readTerm 23 = .ok (.aload_n 0, 1) := by decide +kernel
theorem dX7_readTerm_24 : decode cX7_readTerm 24 = .ok (.invokevirtual 96, 3) := by decide +kernel
theorem dX7_readTerm_27 : decode cX7_readTerm 27 = .ok (.aload_n 0, 1) := by decide +kernel
theorem dX7_readTerm_28 : decode cX7_readTerm 28 = .ok (.iload_n 1, 1) := by decide +kernel
theorem dX7_readTerm_29 : decode cX7_readTerm 29 = .ok (.invokevirtual 195, 3) := by decide +kernel
theorem dX7_readTerm_32 : decode cX7_readTerm 32 = .ok (.aload_n 0, 1) := by decide +kernel
theorem dX7_readTerm_33 : decode cX7_readTerm 33 = .ok (.sipush 1034, 3) := by decide +kernel
theorem dX7_readTerm_36 : decode cX7_readTerm 36 = .ok (.invokevirtual 183, 3) := by decide +kernel
theorem dX7_readTerm_39 : decode cX7_readTerm 39 = .ok (.iinc 2 (-1), 3) := by decide +kernel
theorem dX7_readTerm_42 : decode cX7_readTerm 42 = .ok (.goto (-32), 3) := by decide +kernel
theorem dX7_readTerm_45 : decode cX7_readTerm 45 = .ok (.return_, 1) := by decide +kernel
theorem dX7_readAtom_0 : decode cX7_readAtom 0 = .ok (.aload_n 0, 1) := by decide +kernel
theorem dX7_readAtom_1 : decode cX7_readAtom 1 = .ok (.getfield 15, 3) := by decide +kernel
theorem dX7_readAtom_4 : decode cX7_readAtom 4 = .ok (.aload_n 0, 1) := by decide +kernel
theorem dX7_readAtom_5 : decode cX7_readAtom 5 = .ok (.getfield 42, 3) := by decide +kernel
theorem dX7_readAtom_8 : decode cX7_readAtom 8 = .ok (.iaload, 1) := by decide +kernel
theorem dX7_readAtom_9 : decode cX7_readAtom 9 = .ok (.istore_n 2, 1) := by decide +kernel
theorem dX7_readAtom_10 : decode cX7_readAtom 10 = .ok (.aload_n 0, 1) := by decide +kernel
theorem dX7_readAtom_11 : decode cX7_readAtom 11 = .ok (.bipush 35, 2) := by decide +kernel
theorem dX7_readAtom_13 : decode cX7_readAtom 13 = .ok (.invokevirtual 93, 3) := by decide +kernel
theorem dX7_readAtom_16 : decode cX7_readAtom 16 = .ok (.ifCond .eq 27, 3) := by decide +kernel
theorem dX7_readAtom_19 : decode cX7_readAtom 19 = .ok (.aload_n 0, 1) := by decide +kernel
theorem dX7_readAtom_20 : decode cX7_readAtom 20 = .ok (.iload_n 1, 1) := by decide +kernel
theorem dX7_readAtom_21 : decode cX7_readAtom 21 = .ok (.invokevirtual 189, 3) := by decide +kernel
theorem dX7_readAtom_24 : decode cX7_readAtom 24 = .ok (.ifCond .eq 117, 3) := by decide +kernel
theorem dX7_readAtom_27 : decode cX7_readAtom 27 = .ok (.aload_n 0, 1) := by decide +kernel
theorem dX7_readAtom_28 : decode cX7_readAtom 28 = .ok (.iload_n 1, 1) := by decide +kernel
theorem dX7_readAtom_29 : decode cX7_readAtom 29 = .ok (.iconst 1, 1) := by decide +kernel
theorem dX7_readAtom_30 : decode cX7_readAtom 30 = .ok (.iadd, 1) := by decide +kernel
theorem dX7_readAtom_31 : decode cX7_readAtom 31 = .ok (.invokevirtual 168, 3) := by decide +kernel
theorem dX7_readAtom_34 : decode cX7_readAtom 34 = .ok (.aload_n 0, 1) := by decide +kernel
theorem dX7_readAtom_35 : decode cX7_readAtom 35 = .ok (.bipush 36, 2) := by decide +kernel
theorem dX7_readAtom_37 : decode cX7_readAtom 37 = .ok (.invokevirtual 102, 3) := by decide +kernel
theorem dX7_readAtom_40 : decode cX7_readAtom 40 = .ok (.goto 101, 3) := by decide +kernel
theorem dX7_readAtom_43 : decode cX7_readAtom 43 = .ok (.aload_n 0, 1) := by decide +kernel
theorem dX7_readAtom_44 : decode cX7_readAtom 44 = .ok (.bipush 8, 2) := by decide +kernel
theorem dX7_readAtom_46 : decode cX7_readAtom 46 = .ok (.invokevirtual 93, 3) := by decide +kernel
theorem dX7_readAtom_49 : decode cX7_readAtom 49 = .ok (.ifCond .eq 21, 3) := by decide +kernel
theorem dX7_readAtom_52 : decode cX7_readAtom 52 = .ok (.aload_n 0, 1) := by decide +kernel
theorem dX7_readAtom_53 : decode cX7_readAtom 53 = .ok (.iload_n 1, 1) := by decide +kernel
theorem dX7_readAtom_54 : decode cX7_readAtom 54 = .ok (.invokevirtual 189, 3) := by decide +kernel
theorem dX7_readAtom_57 : decode cX7_readAtom 57 = .ok (.ifCond .eq 84, 3) := by decide +kernel
theorem dX7_readAtom_60 : decode cX7_readAtom 60 = .ok (.aload_n 0, 1) := by decide +kernel
theorem dX7_readAtom_61 : decode cX7_readAtom 61 = .ok (.iload_n 1, 1) := by decide +kernel
theorem dX7_readAtom_62 : decode cX7_readAtom 62 = .ok (.iconst 1, 1) := by decide +kernel
theorem dX7_readAtom_63 : decode cX7_readAtom 63 = .ok (.iadd, 1) := by decide +kernel
theorem dX7_readAtom_64 : decode cX7_readAtom 64 = .ok (.invokevirtual 198, 3) := by decide +kernel
theorem dX7_readAtom_67 : decode cX7_readAtom 67 = .ok (.goto 74, 3) := by decide +kernel
theorem dX7_readAtom_70 : decode cX7_readAtom 70 = .ok (.iload_n 2, 1) := by decide +kernel
theorem dX7_readAtom_71 : decode cX7_readAtom 71 = .ok (.bipush 50, 2) := by decide +kernel
theorem dX7_readAtom_73 : decode cX7_readAtom 73 = .ok (.if_icmp .ne 23, 3) := by decide +kernel
theorem dX7_readAtom_76 : decode cX7_readAtom 76 = .ok (.aload_n 0, 1) := by decide +kernel
theorem dX7_readAtom_77 : decode cX7_readAtom 77 = .ok (.aload_n 0, 1) := by decide +kernel
theorem dX7_readAtom_78 : decode cX7_readAtom 78 = .ok (.getfield 22, 3) := by decide +kernel
theorem dX7_readAtom_81 : decode cX7_readAtom 81 = .ok (.aload_n 0, 1) := by decide +kernel
theorem dX7_readAtom_82 : decode cX7_readAtom 82 = .ok (.getfield 42, 3) := by decide +kernel
theorem dX7_readAtom_85 : decode cX7_readAtom 85 = .ok (.iaload, 1) := by decide +kernel
theorem dX7_readAtom_86 : decode cX7_readAtom 86 = .ok (.invokevirtual 183, 3) := by decide +kernel
theorem dX7_readAtom_89 : decode cX7_readAtom 89 = .ok (.aload_n 0, 1) := by decide +kernel
theorem dX7_readAtom_90 : decode cX7_readAtom 90 = .ok (.invokevirtual 96, 3) := by decide +kernel
theorem dX7_readAtom_93 : decode cX7_readAtom 93 = .ok (.goto 48, 3) := by decide +kernel
theorem dX7_readAtom_96 : decode cX7_readAtom 96 = .ok (.iload_n 2, 1) := by decide +kernel
theorem dX7_readAtom_97 : decode cX7_readAtom 97 = .ok (.bipush 15, 2) := by decide +kernel
theorem dX7_readAtom_99 : decode cX7_readAtom 99 = .ok (.if_icmp .lt 37, 3) := by decide +kernel
theorem dX7_readAtom_102 : decode cX7_readAtom 102 = .ok (.iload_n 2, 1) := by decide +kernel
theorem dX7_readAtom_103 : decode cX7_readAtom 103 = .ok (.aload_n 0, 1) := by decide +kernel
theorem dX7_readAtom_104 : decode cX7_readAtom 104 = .ok (.getfield 161, 3) := by decide +kernel
theorem dX7_readAtom_107 : decode cX7_readAtom 107 = .ok (.ifCond .eq 8, 3) := by decide +kernel
theorem dX7_readAtom_110 : decode cX7_readAtom 110 = .ok (.bipush 23, 2) := by decide +kernel
theorem dX7_readAtom_112 : decode cX7_readAtom 112 = .ok (.goto 5, 3) := by decide +kernel
theorem dX7_readAtom_115 : decode cX7_readAtom 115 = .ok (.bipush 21, 2) := by decide +kernel
theorem dX7_readAtom_117 : decode cX7_readAtom 117 = .ok (.if_icmp .gt 19, 3) := by decide +kernel
theorem dX7_readAtom_120 : decode cX7_readAtom 120 = .ok (.aload_n 0, 1) := by decide +kernel
theorem dX7_readAtom_121 : decode cX7_readAtom 121 = .ok (.sipush 1000, 3) := by decide +kernel
theorem dX7_readAtom_124 : decode cX7_readAtom 124 = .ok (.iload_n 2, 1) := by decide +kernel
theorem dX7_readAtom_125 : decode cX7_readAtom 125 = .ok (.iadd, 1) := by decide +kernel
theorem dX7_readAtom_126 : decode cX7_readAtom 126 = .ok (.invokevirtual 183, 3) := by decide +kernel
theorem dX7_readAtom_129 : decode cX7_readAtom 129 = .ok (.aload_n 0, 1) := by decide +kernel
theorem dX7_readAtom_130 : decode cX7_readAtom 130 = .ok (.invokevirtual 96, 3) := by decide +kernel
theorem dX7_readAtom_133 : decode cX7_readAtom 133 = .ok (.goto 8, 3) := by decide +kernel
theorem dX7_readAtom_136 : decode cX7_readAtom 136 = .ok (.aload_n 0, 1) := by decide +kernel
theorem dX7_readAtom_137 : decode cX7_readAtom 137 = .ok (.iconst 2, 1) := by decide +kernel
theorem dX7_readAtom_138 : decode cX7_readAtom 138 = .ok (.invokevirtual 99, 3) := by decide +kernel
theorem dX7_readAtom_141 : decode cX7_readAtom 141 = .ok (.return_, 1) := by decide +kernel
theorem dX7_readChoice_0 : decode cX7_readChoice 0 = .ok (.aload_n 0, 1) := by decide +kernel
theorem dX7_readChoice_1 : decode cX7_readChoice 1 = .ok (.iload_n 1, 1) := by decide +kernel
theorem dX7_readChoice_2 : decode cX7_readChoice 2 = .ok (.invokevirtual 165, 3) := by decide +kernel
theorem dX7_readChoice_5 : decode cX7_readChoice 5 = .ok (.aload_n 0, 1) := by decide +kernel
theorem dX7_readChoice_6 : decode cX7_readChoice 6 = .ok (.bipush 9, 2) := by decide +kernel
theorem dX7_readChoice_8 : decode cX7_readChoice 8 = .ok (.invokevirtual 102, 3) := by decide +kernel
theorem dX7_readChoice_11 : decode cX7_readChoice 11 = .ok (.aload_n 0, 1) := by decide +kernel
theorem dX7_readChoice_12 : decode cX7_readChoice 12 = .ok (.getfield 48, 3) := by decide +kernel
theorem dX7_readChoice_15 : decode cX7_readChoice 15 = .ok (.ifCond .ne 8, 3) := by decide +kernel
theorem dX7_readChoice_18 : decode cX7_readChoice 18 = .ok (.aload_n 0, 1) := by decide +kernel
theorem dX7_readChoice_19 : decode cX7_readChoice 19 = .ok (.iload_n 1, 1) := by decide +kernel
theorem dX7_readChoice_20 : decode cX7_readChoice 20 = .ok (.invokevirtual 168, 3) := by decide +kernel
theorem dX7_readChoice_23 : decode cX7_readChoice 23 = .ok (.aload_n 0, 1) := by decide +kernel
theorem dX7_readChoice_24 : decode cX7_readChoice 24 = .ok (.bipush 10, 2) := by decide +kernel
theorem dX7_readChoice_26 : decode cX7_readChoice 26 = .ok (.invokevirtual 102, 3) := by decide +kernel
theorem dX7_readChoice_29 : decode cX7_readChoice 29 = .ok (.aload_n 0, 1) := by decide +kernel
theorem dX7_readChoice_30 : decode cX7_readChoice 30 = .ok (.getfield 48, 3) := by decide +kernel
theorem dX7_readChoice_33 : decode cX7_readChoice 33 = .ok (.ifCond .ne 8, 3) := by decide +kernel
theorem dX7_readChoice_36 : decode cX7_readChoice 36 = .ok (.aload_n 0, 1) := by decide +kernel
theorem dX7_readChoice_37 : decode cX7_readChoice 37 = .ok (.iload_n 1, 1) := by decide +kernel
theorem dX7_readChoice_38 : decode cX7_readChoice 38 = .ok (.invokevirtual 168, 3) := by decide +kernel
theorem dX7_readChoice_41 : decode cX7_readChoice 41 = .ok (.aload_n 0, 1) := by decide +kernel
theorem dX7_readChoice_42 : decode cX7_readChoice 42 = .ok (.bipush 11, 2) := by decide +kernel
theorem dX7_readChoice_44 : decode cX7_readChoice 44 = .ok (.invokevirtual 102, 3) := by decide +kernel
theorem dX7_readChoice_47 : decode cX7_readChoice 47 = .ok (.aload_n 0, 1) := by decide +kernel
theorem dX7_readChoice_48 : decode cX7_readChoice 48 = .ok (.sipush 1008, 3) := by decide +kernel
theorem dX7_readChoice_51 : decode cX7_readChoice 51 = .ok (.invokevirtual 183, 3) := by decide +kernel
theorem dX7_readChoice_54 : decode cX7_readChoice 54 = .ok (.return_, 1) := by decide +kernel
theorem dX8_init_0 : decode cX8_init 0 = .ok (.aload_n 0, 1) := by decide +kernel
theorem dX8_init_1 : decode cX8_init 1 = .ok (.invokespecial 3, 3) := by decide +kernel
theorem dX8_init_4 : decode cX8_init 4 = .ok (.aload_n 0, 1) := by decide +kernel
theorem dX8_init_5 : decode cX8_init 5 = .ok (.bipush 40, 2) := by decide +kernel
theorem dX8_init_7 : decode cX8_init 7 = .ok (.newarray .long, 2) := by decide +kernel
theorem dX8_init_9 : decode cX8_init 9 = .ok (.putfield 9, 3) := by decide +kernel
theorem dX8_init_12 : decode cX8_init 12 = .ok (.return_, 1) := by decide +kernel
theorem dX8_lay_0 : decode cX8_lay 0 = .ok (.aload_n 0, 1) := by decide +kernel
theorem dX8_lay_1 : decode cX8_lay 1 = .ok (.iconst 1, 1) := by decide +kernel
theorem dX8_lay_2 : decode cX8_lay 2 = .ok (.putfield 15, 3) := by decide +kernel
theorem dX8_lay_5 : decode cX8_lay 5 = .ok (.aload_n 0, 1) := by decide +kernel
theorem dX8_lay_6 : decode cX8_lay 6 = .ok (.iload_n 1, 1) := by decide +kernel
theorem dX8_lay_7 : decode cX8_lay 7 = .ok (.putfield 19, 3) := by decide +kernel
theorem dX8_lay_10 : decode cX8_lay 10 = .ok (.aload_n 0, 1) := by decide +kernel
theorem dX8_lay_11 : decode cX8_lay 11 = .ok (.iload_n 2, 1) := by decide +kernel
theorem dX8_lay_12 : decode cX8_lay 12 = .ok (.putfield 23, 3) := by decide +kernel
theorem dX8_lay_15 : decode cX8_lay 15 = .ok (.aload_n 0, 1) := by decide +kernel
theorem dX8_lay_16 : decode cX8_lay 16 = .ok (.getfield 9, 3) := by decide +kernel
theorem dX8_lay_19 : decode cX8_lay 19 = .ok (.lconst 0, 1) := by decide +kernel
theorem dX8_lay_20 : decode cX8_lay 20 = .ok (.invokestatic 26, 3) := by decide +kernel
theorem dX8_lay_23 : decode cX8_lay 23 = .ok (.return_, 1) := by decide +kernel
theorem dX8_put_0 : decode cX8_put 0 = .ok (.iload_n 1, 1) := by decide +kernel
theorem dX8_put_1 : decode cX8_put 1 = .ok (.ifCond .lt 11, 3) := by decide +kernel
theorem dX8_put_4 : decode cX8_put 4 = .ok (.iload_n 1, 1) := by decide +kernel
theorem dX8_put_5 : decode cX8_put 5 = .ok (.aload_n 0, 1) := by decide +kernel
theorem dX8_put_6 : decode cX8_put 6 = .ok (.getfield 23, 3) := by decide +kernel
theorem dX8_put_9 : decode cX8_put 9 = .ok (.if_icmp .lt 7, 3) := by decide +kernel
theorem dX8_put_12 : decode cX8_put 12 = .ok (.ldc2_w 32, 3) := by decide +kernel
theorem dX8_put_15 : decode cX8_put 15 = .ok (.lreturn, 1) := by decide +kernel
theorem dX8_put_16 : decode cX8_put 16 = .ok (.aload_n 0, 1) := by decide +kernel
theorem dX8_put_17 : decode cX8_put 17 = .ok (.getfield 19, 3) := by decide +kernel
theorem dX8_put_20 : decode cX8_put 20 = .ok (.tableswitch 66 0 2 #[28, 41, 54], 28) := by decide +kernel
theorem dX8_put_48 : decode cX8_put 48 = .ok (.aload_n 0, 1) := by decide +kernel
theorem dX8_put_49 : decode cX8_put 49 = .ok (.getfield 9, 3) := by decide +kernel
theorem dX8_put_52 : decode cX8_put 52 = .ok (.iload_n 1, 1) := by decide +kernel
theorem dX8_put_53 : decode cX8_put 53 = .ok (.lload_n 2, 1) := by decide +kernel
theorem dX8_put_54 : decode cX8_put 54 = .ok (.l2i, 1) := by decide +kernel
theorem dX8_put_55 : decode cX8_put 55 = .ok (.i2b, 1) := by decide +kernel
theorem dX8_put_56 : decode cX8_put 56 = .ok (.i2l, 1) := by decide +kernel
theorem dX8_put_57 : decode cX8_put 57 = .ok (.lastore, 1) := by decide +kernel
theorem dX8_put_58 : decode cX8_put 58 = .ok (.goto 35, 3) := by decide +kernel
theorem dX8_put_61 : decode cX8_put 61 = .ok (.aload_n 0, 1) := by decide +kernel
theorem dX8_put_62 : decode cX8_put 62 = .ok (.getfield 9, 3) := by decide +kernel
theorem dX8_put_65 : decode cX8_put 65 = .ok (.iload_n 1, 1) := by decide +kernel
theorem dX8_put_66 : decode cX8_put 66 = .ok (.lload_n 2, 1) := by decide +kernel
theorem dX8_put_67 : decode cX8_put 67 = .ok (.l2i, 1) := by decide +kernel
theorem dX8_put_68 : decode cX8_put 68 = .ok (.i2s, 1) := by decide +kernel
theorem dX8_put_69 : decode cX8_put 69 = .ok (.i2l, 1) := by decide +kernel
theorem dX8_put_70 : decode cX8_put 70 = .ok (.lastore, 1) := by decide +kernel
theorem dX8_put_71 : decode cX8_put 71 = .ok (.goto 22, 3) := by decide +kernel
theorem dX8_put_74 : decode cX8_put 74 = .ok (.aload_n 0, 1) := by decide +kernel
theorem dX8_put_75 : decode cX8_put 75 = .ok (.getfield 9, 3) := by decide +kernel
theorem dX8_put_78 : decode cX8_put 78 = .ok (.iload_n 1, 1) := by decide +kernel
theorem dX8_put_79 : decode cX8_put 79 = .ok (.lload_n 2, 1) := by decide +kernel
theorem dX8_put_80 : decode cX8_put 80 = .ok (.l2i, 1) := by decide +kernel
theorem dX8_put_81 : decode cX8_put 81 = .ok (.i2l, 1) := by decide +kernel
theorem dX8_put_82 : decode cX8_put 82 = .ok (.lastore, 1) := by decide +kernel
theorem dX8_put_83 : decode cX8_put 83 = .ok (.goto 10, 3) := by decide +kernel
theorem dX8_put_86 : decode cX8_put 86 = .ok (.aload_n 0, 1) := by decide +kernel
theorem dX8_put_87 : decode cX8_put 87 = .ok (.getfield 9, 3) := by decide +kernel
theorem dX8_put_90 : decode cX8_put 90 = .ok (.iload_n 1, 1) := by decide +kernel
theorem dX8_put_91 : decode cX8_put 91 = .ok (.lload_n 2, 1) := by decide +kernel
theorem dX8_put_92 : decode cX8_put 92 = .ok (.lastore, 1) := by decide +kernel
theorem dX8_put_93 : decode cX8_put 93 = .ok (.aload_n 0, 1) := by decide +kernel
theorem dX8_put_94 : decode cX8_put 94 = .ok (.getfield 9, 3) := by decide +kernel
theorem dX8_put_97 : decode cX8_put 97 = .ok (.iload_n 1, 1) := by decide +kernel
theorem dX8_put_98 : decode cX8_put 98 = .ok (.laload, 1) := by decide +kernel
theorem dX8_put_99 : decode cX8_put 99 = .ok (.lreturn, 1) := by decide +kernel
theorem dX9_init_0 : decode cX9_init 0 = .ok (.aload_n 0, 1) := by decide +kernel
theorem dX9_init_1 : decode cX9_init 1 = .ok (.invokespecial 1, 3) := by decide +kernel
theorem dX9_init_4 : decode cX9_init 4 = .ok (.aload_n 0, 1) := by decide +kernel
theorem dX9_init_5 : decode cX9_init 5 = .ok (.sipush 900, 3) := by decide +kernel
theorem dX9_init_8 : decode cX9_init 8 = .ok (.newarray .byte, 2) := by decide +kernel
theorem dX9_init_10 : decode cX9_init 10 = .ok (.putfield 9, 3) := by decide +kernel
theorem dX9_init_13 : decode cX9_init 13 = .ok (.aload_n 0, 1) := by decide +kernel
theorem dX9_init_14 : decode cX9_init 14 = .ok (.new 13, 3) := by decide +kernel
theorem dX9_init_17 : decode cX9_init 17 = .ok (.dup, 1) := by decide +kernel
theorem dX9_init_18 : decode cX9_init 18 = .ok (.invokespecial 15, 3) := by decide +kernel
theorem dX9_init_21 : decode cX9_init 21 = .ok (.putfield 16, 3) := by decide +kernel
theorem dX9_init_24 : decode cX9_init 24 = .ok (.aload_n 0, 1) := by decide +kernel
theorem dX9_init_25 : decode cX9_init 25 = .ok (.new 13, 3) := by decide +kernel
theorem dX9_init_28 : decode cX9_init 28 = .ok (.dup, 1) := by decide +kernel
theorem dX9_init_29 : decode cX9_init 29 = .ok (.invokespecial 15, 3) := by decide +kernel
theorem dX9_init_32 : decode cX9_init 32 = .ok (.putfield 20, 3) := by decide +kernel
theorem dX9_init_35 : decode cX9_init 35 = .ok (.aload_n 0, 1) := by decide +kernel
theorem dX9_init_36 : decode cX9_init 36 = .ok (.new 23, 3) := by decide +kernel
theorem dX9_init_39 : decode cX9_init 39 = .ok (.dup, 1) := by decide +kernel
theorem dX9_init_40 : decode cX9_init 40 = .ok (.invokespecial 25, 3) := by decide +kernel
theorem dX9_init_43 : decode cX9_init 43 = .ok (.putfield 26, 3) := by decide +kernel
theorem dX9_init_46 : decode cX9_init 46 = .ok (.aload_n 0, 1) := by decide +kernel
theorem dX9_init_47 : decode cX9_init 47 = .ok (.iconst 2, 1) := by decide +kernel
theorem dX9_init_48 : decode cX9_init 48 = .ok (.anewarray 13, 3) := by decide +kernel
theorem dX9_init_51 : decode cX9_init 51 = .ok (.putfield 30, 3) := by decide +kernel
theorem dX9_init_54 : decode cX9_init 54 = .ok (.aload_n 0, 1) := by decide +kernel
theorem dX9_init_55 : decode cX9_init 55 = .ok (.iconst 2, 1) := by decide +kernel
theorem dX9_init_56 : decode cX9_init 56 = .ok (.newarray .boolean, 2) := by decide +kernel
theorem dX9_init_58 : decode cX9_init 58 = .ok (.putfield 34, 3) := by decide +kernel
theorem dX9_init_61 : decode cX9_init 61 = .ok (.aload_n 0, 1) := by decide +kernel
theorem dX9_init_62 : decode cX9_init 62 = .ok (.new 38, 3) := by decide +kernel
theorem dX9_init_65 : decode cX9_init 65 = .ok (.dup, 1) := by decide +kernel
theorem dX9_init_66 : decode cX9_init 66 = .ok (.invokespecial 40, 3) := by decide +kernel
theorem dX9_init_69 : decode cX9_init 69 = .ok (.putfield 41, 3) := by decide +kernel
theorem dX9_init_72 : decode cX9_init 72 = .ok (.aload_n 0, 1) := by decide +kernel
theorem dX9_init_73 : decode cX9_init 73 = .ok (.iconst 4, 1) := by decide +kernel
theorem dX9_init_74 : decode cX9_init 74 = .ok (.anewarray 45, 3) := by decide +kernel
theorem dX9_init_77 : decode cX9_init 77 = .ok (.putfield 47, 3) := by decide +kernel
theorem dX9_init_80 : decode cX9_init 80 = .ok (.aload_n 0, 1) := by decide +kernel
theorem dX9_init_81 : decode cX9_init 81 = .ok (.new 51, 3) := by decide +kernel
theorem dX9_init_84 : decode cX9_init 84 = .ok (.dup, 1) := by decide +kernel
theorem dX9_init_85 : decode cX9_init 85 = .ok (.invokespecial 53, 3) := by decide +kernel
theorem dX9_init_88 : decode cX9_init 88 = .ok (.putfield 54, 3) := by decide +kernel
theorem dX9_init_91 : decode cX9_init 91 = .ok (.aload_n 0, 1) := by decide +kernel
theorem dX9_init_92 : decode cX9_init 92 = .ok (.new 58, 3) := by decide +kernel
theorem dX9_init_95 : decode cX9_init 95 = .ok (.dup, 1) := by decide +kernel
theorem dX9_init_96 : decode cX9_init 96 = .ok (.invokespecial 60, 3) := by decide +kernel
theorem dX9_init_99 : decode cX9_init 99 = .ok (.putfield 61, 3) := by decide +kernel
theorem dX9_init_102 : decode cX9_init 102 = .ok (.aload_n 0, 1) := by decide +kernel
theorem dX9_init_103 : decode cX9_init 103 = .ok (.new 65, 3) := by decide +kernel
theorem dX9_init_106 : decode cX9_init 106 = .ok (.dup, 1) := by decide +kernel
theorem dX9_init_107 : decode cX9_init 107 = .ok (.invokespecial 67, 3) := by decide +kernel
theorem dX9_init_110 : decode cX9_init 110 = .ok (.putfield 68, 3) := by decide +kernel
theorem dX9_init_113 : decode cX9_init 113 = .ok (.aload_n 0, 1) := by decide +kernel
theorem dX9_init_114 : decode cX9_init 114 = .ok (.new 72, 3) := by decide +kernel
theorem dX9_init_117 : decode cX9_init 117 = .ok (.dup, 1) := by decide +kernel
theorem dX9_init_118 : decode cX9_init 118 = .ok (.invokespecial 74, 3) := by decide +kernel
theorem dX9_init_121 : decode cX9_init 121 = .ok (.putfield 75, 3) := by decide +kernel
theorem dX9_init_124 : decode cX9_init 124 = .ok (.aload_n 0, 1) := by decide +kernel
theorem dX9_init_125 : decode cX9_init 125 = .ok (.new 79, 3) := by decide +kernel
theorem dX9_init_128 : decode cX9_init 128 = .ok (.dup, 1) := by decide +kernel
theorem dX9_init_129 : decode cX9_init 129 = .ok (.invokespecial 81, 3) := by decide +kernel
theorem dX9_init_132 : decode cX9_init 132 = .ok (.putfield 82, 3) := by decide +kernel
theorem dX9_init_135 : decode cX9_init 135 = .ok (.aload_n 0, 1) := by decide +kernel
theorem dX9_init_136 : decode cX9_init 136 = .ok (.new 51, 3) := by decide +kernel
theorem dX9_init_139 : decode cX9_init 139 = .ok (.dup, 1) := by decide +kernel
theorem dX9_init_140 : decode cX9_init 140 = .ok (.invokespecial 53, 3) := by decide +kernel
theorem dX9_init_143 : decode cX9_init 143 = .ok (.putfield 86, 3) := by decide +kernel
theorem dX9_init_146 : decode cX9_init 146 = .ok (.aload_n 0, 1) := by decide +kernel
theorem dX9_init_147 : decode cX9_init 147 = .ok (.new 58, 3) := by decide +kernel
theorem dX9_init_150 : decode cX9_init 150 = .ok (.dup, 1) := by decide +kernel
theorem dX9_init_151 : decode cX9_init 151 = .ok (.invokespecial 60, 3) := by decide +kernel
theorem dX9_init_154 : decode cX9_init 154 = .ok (.putfield 89, 3) := by decide +kernel
theorem dX9_init_157 : decode cX9_init 157 = .ok (.aload_n 0, 1) := by decide +kernel
theorem dX9_init_158 : decode cX9_init 158 = .ok (.bipush 64, 2) := by decide +kernel
theorem dX9_init_160 : decode cX9_init 160 = .ok (.newarray .int, 2) := by decide +kernel
theorem dX9_init_162 : decode cX9_init 162 = .ok (.putfield 92, 3) := by decide +kernel
theorem dX9_init_165 : decode cX9_init 165 = .ok (.aload_n 0, 1) := by decide +kernel
theorem dX9_init_166 : decode cX9_init 166 = .ok (.bipush 21, 2) := by decide +kernel
theorem dX9_init_168 : decode cX9_init 168 = .ok (.newarray .int, 2) := by decide +kernel
theorem dX9_init_170 : decode cX9_init 170 = .ok (.putfield 96, 3) := by decide +kernel
theorem dX9_init_173 : decode cX9_init 173 = .ok (.iconst 0, 1) := by decide +kernel
theorem dX9_init_174 : decode cX9_init 174 = .ok (.istore_n 1, 1) := by decide +kernel
theorem dX9_init_175 : decode cX9_init 175 = .ok (.iload_n 1, 1) := by decide +kernel
theorem dX9_init_176 : decode cX9_init 176 = .ok (.iconst 2, 1) := by decide +kernel
theorem dX9_init_177 : decode cX9_init 177 = .ok (.if_icmp .ge 22, 3) := by decide +kernel
theorem dX9_init_180 : decode cX9_init 180 = .ok (.aload_n 0, 1) := by decide +kernel
theorem dX9_init_181 : decode cX9_init 181 = .ok (.getfield 30, 3) := by decide +kernel
theorem dX9_init_184 : decode cX9_init 184 = .ok (.iload_n 1, 1) := by decide +kernel
theorem dX9_init_185 : decode cX9_init 185 = .ok (.new 13, 3) := by decide +kernel
theorem dX9_init_188 : decode cX9_init 188 = .ok (.dup, 1) := by decide +kernel
theorem dX9_init_189 : decode cX9_init 189 = .ok (.invokespecial 15, 3) := by decide +kernel
theorem dX9_init_192 : decode cX9_init 192 = .ok (.aastore, 1) := by decide +kernel
theorem dX9_init_193 : decode cX9_init 193 = .ok (.iinc 1 1, 3) := by decide +kernel
theorem dX9_init_196 : decode cX9_init 196 = .ok (.goto (-21), 3) := by decide +kernel
theorem dX9_init_199 : decode cX9_init 199 = .ok (.iconst 0, 1) := by decide +kernel
theorem dX9_init_200 : decode cX9_init 200 = .ok (.istore_n 1, 1) := by decide +kernel
theorem dX9_init_201 : decode cX9_init 201 = .ok (.iload_n 1, 1) := by decide +kernel
theorem dX9_init_202 : decode cX9_init 202 = .ok (.iconst 4, 1) := by decide +kernel
theorem dX9_init_203 : decode cX9_init 203 = .ok (.if_icmp .ge 22, 3) := by decide +kernel
theorem dX9_init_206 : decode cX9_init 206 = .ok (.aload_n 0, 1) := by decide +kernel
theorem dX9_init_207 : decode cX9_init 207 = .ok (.getfield 47, 3) := by decide +kernel
theorem dX9_init_210 : decode cX9_init 210 = .ok (.iload_n 1, 1) := by decide +kernel
theorem dX9_init_211 : decode cX9_init 211 = .ok (.new 45, 3) := by decide +kernel
theorem dX9_init_214 : decode cX9_init 214 = .ok (.dup, 1) := by decide +kernel
theorem dX9_init_215 : decode cX9_init 215 = .ok (.invokespecial 99, 3) := by decide +kernel
theorem dX9_init_218 : decode cX9_init 218 = .ok (.aastore, 1) := by decide +kernel
theorem dX9_init_219 : decode cX9_init 219 = .ok (.iinc 1 1, 3) := by decide +kernel
theorem dX9_init_222 : decode cX9_init 222 = .ok (.goto (-21), 3) := by decide +kernel
theorem dX9_init_225 : decode cX9_init 225 = .ok (.return_, 1) := by decide +kernel
theorem dX9_feed_0 : decode cX9_feed 0 = .ok (.aload_n 0, 1) := by decide +kernel
theorem dX9_feed_1 : decode cX9_feed 1 = .ok (.getfield 100, 3) := by decide +kernel
theorem dX9_feed_4 : decode cX9_feed 4 = .ok (.bipush 20, 2) := by decide +kernel
theorem dX9_feed_6 : decode cX9_feed 6 = .ok (.iadd, 1) := by decide +kernel
theorem dX9_feed_7 : decode cX9_feed 7 = .ok (.sipush 900, 3) := by decide +kernel
theorem dX9_feed_10 : decode cX9_feed 10 = .ok (.if_icmp .le 6, 3) := by decide +kernel
theorem dX9_feed_13 : decode cX9_feed 13 = .ok (.bipush (-5), 2) := by decide +kernel
theorem dX9_feed_15 : decode cX9_feed 15 = .ok (.ireturn, 1) := by decide +kernel
theorem dX9_feed_16 : decode cX9_feed 16 = .ok (.aload_n 0, 1) := by decide +kernel
theorem dX9_feed_17 : decode cX9_feed 17 = .ok (.iload_n 1, 1) := by decide +kernel
theorem dX9_feed_18 : decode cX9_feed 18 = .ok (.invokevirtual 104, 3) := by decide +kernel
theorem dX9_feed_21 : decode cX9_feed 21 = .ok (.aload_n 0, 1) := by decide +kernel
theorem dX9_feed_22 : decode cX9_feed 22 = .ok (.iload_n 2, 1) := by decide +kernel
theorem dX9_feed_23 : decode cX9_feed 23 = .ok (.invokevirtual 104, 3) := by decide +kernel
theorem dX9_feed_26 : decode cX9_feed 26 = .ok (.aload_n 0, 1) := by decide +kernel
theorem dX9_feed_27 : decode cX9_feed 27 = .ok (.iload_n 3, 1) := by decide +kernel
theorem dX9_feed_28 : decode cX9_feed 28 = .ok (.invokevirtual 104, 3) := by decide +kernel
theorem dX9_feed_31 : decode cX9_feed 31 = .ok (.aload_n 0, 1) := by decide +kernel
theorem dX9_feed_32 : decode cX9_feed 32 = .ok (.iload 4, 2) := by decide +kernel
theorem dX9_feed_34 : decode cX9_feed 34 = .ok (.invokevirtual 104, 3) := by decide +kernel
theorem dX9_feed_37 : decode cX9_feed 37 = .ok (.aload_n 0, 1) := by decide +kernel
theorem dX9_feed_38 : decode cX9_feed 38 = .ok (.iload 5, 2) := by decide +kernel
theorem dX9_feed_40 : decode cX9_feed 40 = .ok (.invokevirtual 104, 3) := by decide +kernel
theorem dX9_feed_43 : decode cX9_feed 43 = .ok (.aload_n 0, 1) := by decide +kernel
theorem dX9_feed_44 : decode cX9_feed 44 = .ok (.getfield 100, 3) := by decide +kernel
theorem dX9_feed_47 : decode cX9_feed 47 = .ok (.ireturn, 1) := by decide +kernel
theorem dX9_hill_0 : decode cX9_hill 0 = .ok (.iload_n 1, 1) := by decide +kernel
theorem dX9_hill_1 : decode cX9_hill 1 = .ok (.ifCond .lt 11, 3) := by decide +kernel
theorem dX9_hill_4 : decode cX9_hill 4 = .ok (.iload_n 1, 1) := by decide +kernel
theorem dX9_hill_5 : decode cX9_hill 5 = .ok (.aload_n 0, 1) := by decide +kernel
theorem dX9_hill_6 : decode cX9_hill 6 = .ok (.getfield 100, 3) := by decide +kernel
theorem dX9_hill_9 : decode cX9_hill 9 = .ok (.if_icmp .le 6, 3) := by decide +kernel
theorem dX9_hill_12 : decode cX9_hill 12 = .ok (.bipush (-3), 2) := by decide +kernel
theorem dX9_hill_14 : decode cX9_hill 14 = .ok (.ireturn, 1) := by decide +kernel
theorem dX9_hill_15 : decode cX9_hill 15 = .ok (.aload_n 0, 1) := by decide +kernel
theorem dX9_hill_16 : decode cX9_hill 16 = .ok (.iconst 0, 1) := by decide +kernel
theorem dX9_hill_17 : decode cX9_hill 17 = .ok (.putfield 100, 3) := by decide +kernel
theorem dX9_hill_20 : decode cX9_hill 20 = .ok (.aload_n 0, 1) := by decide +kernel
theorem dX9_hill_21 : decode cX9_hill 21 = .ok (.getfield 26, 3) := by decide +kernel
theorem dX9_hill_24 : decode cX9_hill 24 = .ok (.aload_n 0, 1) := by decide +kernel
theorem dX9_hill_25 : decode cX9_hill 25 = .ok (.getfield 9, 3) := by decide +kernel
theorem dX9_hill_28 : decode cX9_hill 28 = .ok (.iload_n 1, 1) := by decide +kernel
theorem dX9_hill_29 : decode cX9_hill 29 = .ok (.aload_n 0, 1) := by decide +kernel
theorem dX9_hill_30 : decode cX9_hill 30 = .ok (.getfield 20, 3) := by decide +kernel
theorem dX9_hill_33 : decode cX9_hill 33 = .ok (.invokevirtual 108, 3) := by decide +kernel
theorem dX9_hill_36 : decode cX9_hill 36 = .ok (.ifCond .ne 14, 3) := by decide +kernel
theorem dX9_hill_39 : decode cX9_hill 39 = .ok (.bipush (-30), 2) := by decide +kernel
theorem dX9_hill_41 : decode cX9_hill 41 = .ok (.aload_n 0, 1) := by decide +kernel
theorem dX9_hill_42 : decode cX9_hill 42 = .ok (.getfield 26, 3) := by decide +kernel
theorem dX9_hill_45 : decode cX9_hill 45 = .ok (.getfield 112, 3) := by decide +kernel
theorem dX9_hill_48 : decode cX9_hill 48 = .ok (.isub, 1) := by decide +kernel
theorem dX9_hill_49 : decode cX9_hill 49 = .ok (.ireturn, 1) := by decide +kernel
theorem dX9_hill_50 : decode cX9_hill 50 = .ok (.aload_n 0, 1) := by decide +kernel
theorem dX9_hill_51 : decode cX9_hill 51 = .ok (.getfield 20, 3) := by decide +kernel
theorem dX9_hill_54 : decode cX9_hill 54 = .ok (.astore_n 2, 1) := by decide +kernel
theorem dX9_hill_55 : decode cX9_hill 55 = .ok (.aload_n 0, 1) := by decide +kernel
theorem dX9_hill_56 : decode cX9_hill 56 = .ok (.aload_n 0, 1) := by decide +kernel
theorem dX9_hill_57 : decode cX9_hill 57 = .ok (.getfield 16, 3) := by decide +kernel
theorem dX9_hill_60 : decode cX9_hill 60 = .ok (.putfield 20, 3) := by decide +kernel
theorem dX9_hill_63 : decode cX9_hill 63 = .ok (.aload_n 0, 1) := by decide +kernel
theorem dX9_hill_64 : decode cX9_hill 64 = .ok (.aload_n 2, 1) := by decide +kernel
theorem dX9_hill_65 : decode cX9_hill 65 = .ok (.putfield 16, 3) := by decide +kernel
theorem dX9_hill_68 : decode cX9_hill 68 = .ok (.aload_n 0, 1) := by decide +kernel
theorem dX9_hill_69 : decode cX9_hill 69 = .ok (.getfield 41, 3) := by decide +kernel
theorem dX9_hill_72 : decode cX9_hill 72 = .ok (.invokevirtual 115, 3) := by decide +kernel
theorem dX9_hill_75 : decode cX9_hill 75 = .ok (.aload_n 0, 1) := by decide +kernel
theorem dX9_hill_76 : decode cX9_hill 76 = .ok (.invokevirtual 118, 3) := by decide +kernel
theorem dX9_hill_79 : decode cX9_hill 79 = .ok (.aload_n 0, 1) := by decide +kernel
theorem dX9_hill_80 : decode cX9_hill 80 = .ok (.getfield 16, 3) := by decide +kernel
theorem dX9_hill_83 : decode cX9_hill 83 = .ok (.getfield 121, 3) := by decide +kernel
theorem dX9_hill_86 : decode cX9_hill 86 = .ok (.ireturn, 1) := by decide +kernel
theorem dX9_fault_0 : decode cX9_fault 0 = .ok (.iload_n 1, 1) := by decide +kernel
theorem dX9_fault_1 : decode cX9_fault 1 = .ok (.ifCond .ne 11, 3) := by decide +kernel
theorem dX9_fault_4 : decode cX9_fault 4 = .ok (.aload_n 0, 1) := by decide +kernel
theorem dX9_fault_5 : decode cX9_fault 5 = .ok (.getfield 26, 3) := by decide +kernel
theorem dX9_fault_8 : decode cX9_fault 8 = .ok (.getfield 112, 3) := by decide +kernel
theorem dX9_fault_11 : decode cX9_fault 11 = .ok (.ireturn, 1) := by decide +kernel
theorem dX9_fault_12 : decode cX9_fault 12 = .ok (.iload_n 1, 1) := by decide +kernel
theorem dX9_fault_13 : decode cX9_fault 13 = .ok (.iconst 1, 1) := by decide +kernel
theorem dX9_fault_14 : decode cX9_fault 14 = .ok (.if_icmp .ne 13, 3) := by decide +kernel
theorem dX9_fault_17 : decode cX9_fault 17 = .ok (.aload_n 0, 1) := by decide +kernel
theorem dX9_fault_18 : decode cX9_fault 18 = .ok (.getfield 26, 3) := by decide +kernel
theorem dX9_fault_21 : decode cX9_fault 21 = .ok (.getfield 124, 3) := by decide +kernel
theorem dX9_fault_24 : decode cX9_fault 24 = .ok (.goto 4, 3) := by decide +kernel
theorem dX9_fault_27 : decode cX9_fault 27 = .ok (.iconst (-1), 1) := by decide +kernel
theorem dX9_fault_28 : decode cX9_fault 28 = .ok (.ireturn, 1) := by decide +kernel
theorem dX9_person_0 : decode cX9_person 0 = .ok (.aload_n 0, 1) := by decide +kernel
theorem dX9_person_1 : decode cX9_person 1 = .ok (.iload_n 1, 1) := by decide +kernel
theorem dX9_person_2 : decode cX9_person 2 = .ok (.invokevirtual 127, 3) := by decide +kernel
theorem dX9_person_5 : decode cX9_person 5 = .ok (.ifCond .ne 6, 3) := by decide +kernel
theorem dX9_person_8 : decode cX9_person 8 = .ok (.bipush (-2), 2) := by decide +kernel
theorem dX9_person_10 : decode cX9_person 10 = .ok (.ireturn, 1) := by decide +kernel
theorem dX9_person_11 : decode cX9_person 11 = .ok (.iload_n 2, 1) := by decide +kernel
theorem dX9_person_12 : decode cX9_person 12 = .ok (.tableswitch 75 0 3 #[32, 45, 55, 65], 32) := by decide +kernel
theorem dX9_person_44 : decode cX9_person 44 = .ok (.aload_n 0, 1) := by decide +kernel
theorem dX9_person_45 : decode cX9_person 45 = .ok (.getfield 16, 3) := by decide +kernel
theorem dX9_person_48 : decode cX9_person 48 = .ok (.getfield 131, 3) := by decide +kernel
theorem dX9_person_51 : decode cX9_person 51 = .ok (.getfield 134, 3) := by decide +kernel
theorem dX9_person_54 : decode cX9_person 54 = .ok (.iload_n 1, 1) := by decide +kernel
theorem dX9_person_55 : decode cX9_person 55 = .ok (.iaload, 1) := by decide +kernel
theorem dX9_person_56 : decode cX9_person 56 = .ok (.ireturn, 1) := by decide +kernel
theorem dX9_person_57 : decode cX9_person 57 = .ok (.aload_n 0, 1) := by decide +kernel
theorem dX9_person_58 : decode cX9_person 58 = .ok (.getfield 16, 3) := by decide +kernel
theorem dX9_person_61 : decode cX9_person 61 = .ok (.getfield 137, 3) := by decide +kernel
theorem dX9_person_64 : decode cX9_person 64 = .ok (.iload_n 1, 1) := by decide +kernel
theorem dX9_person_65 : decode cX9_person 65 = .ok (.iaload, 1) := by decide +kernel
theorem dX9_person_66 : decode cX9_person 66 = .ok (.ireturn, 1) := by decide +kernel
theorem dX9_person_67 : decode cX9_person 67 = .ok (.aload_n 0, 1) := by decide +kernel
theorem dX9_person_68 : decode cX9_person 68 = .ok (.getfield 16, 3) := by decide +kernel
theorem dX9_person_71 : decode cX9_person 71 = .ok (.getfield 140, 3) := by decide +kernel
theorem dX9_person_74 : decode cX9_person 74 = .ok (.iload_n 1, 1) := by decide +kernel
theorem dX9_person_75 : decode cX9_person 75 = .ok (.iaload, 1) := by decide +kernel
theorem dX9_person_76 : decode cX9_person 76 = .ok (.ireturn, 1) := by decide +kernel
theorem dX9_person_77 : decode cX9_person 77 = .ok (.aload_n 0, 1) := by decide +kernel
theorem dX9_person_78 : decode cX9_person 78 = .ok (.getfield 16, 3) := by decide +kernel
theorem dX9_person_81 : decode cX9_person 81 = .ok (.getfield 143, 3) := by decide +kernel
theorem dX9_person_84 : decode cX9_person 84 = .ok (.iload_n 1, 1) := by decide +kernel
theorem dX9_person_85 : decode cX9_person 85 = .ok (.iaload, 1) := by decide +kernel
theorem dX9_person_86 : decode cX9_person 86 = .ok (.ireturn, 1) := by decide +kernel
theorem dX9_person_87 : decode cX9_person 87 = .ok (.bipush (-2), 2) := by decide +kernel
theorem dX9_person_89 : decode cX9_person 89 = .ok (.ireturn, 1) := by decide +kernel
theorem dX9_naming_0 : decode cX9_naming 0 = .ok (.aload_n 0, 1) := by decide +kernel
theorem dX9_naming_1 : decode cX9_naming 1 = .ok (.getfield 16, 3) := by decide +kernel
theorem dX9_naming_4 : decode cX9_naming 4 = .ok (.getfield 131, 3) := by decide +kernel
theorem dX9_naming_7 : decode cX9_naming 7 = .ok (.astore_n 3, 1) := by decide +kernel
theorem dX9_naming_8 : decode cX9_naming 8 = .ok (.iload_n 1, 1) := by decide +kernel
theorem dX9_naming_9 : decode cX9_naming 9 = .ok (.ifCond .lt 11, 3) := by decide +kernel
theorem dX9_naming_12 : decode cX9_naming 12 = .ok (.iload_n 1, 1) := by decide +kernel
theorem dX9_naming_13 : decode cX9_naming 13 = .ok (.aload_n 3, 1) := by decide +kernel
theorem dX9_naming_14 : decode cX9_naming 14 = .ok (.getfield 146, 3) := by decide +kernel
theorem dX9_naming_17 : decode cX9_naming 17 = .ok (.if_icmp .lt 6, 3) := by decide +kernel
theorem dX9_naming_20 : decode cX9_naming 20 = .ok (.bipush (-2), 2) := by decide +kernel
theorem dX9_naming_22 : decode cX9_naming 22 = .ok (.ireturn, 1) := by decide +kernel
theorem dX9_naming_23 : decode cX9_naming 23 = .ok (.iload_n 2, 1) := by decide +kernel
theorem dX9_naming_24 : decode cX9_naming 24 = .ok (.tableswitch 78 0 4 #[36, 43, 50, 57, 64], 36) := by decide +kernel
theorem dX9_naming_60 : decode cX9_naming 60 = .ok (.aload_n 3, 1) := by decide +kernel
theorem dX9_naming_61 : decode cX9_naming 61 = .ok (.getfield 149, 3) := by decide +kernel
theorem dX9_naming_64 : decode cX9_naming 64 = .ok (.iload_n 1, 1) := by decide +kernel
theorem dX9_naming_65 : decode cX9_naming 65 = .ok (.iaload, 1) := by decide +kernel
theorem dX9_naming_66 : decode cX9_naming 66 = .ok (.ireturn, 1) := by decide +kernel
theorem dX9_naming_67 : decode cX9_naming 67 = .ok (.aload_n 3, 1) := by decide +kernel
theorem dX9_naming_68 : decode cX9_naming 68 = .ok (.getfield 152, 3) := by decide +kernel
theorem dX9_naming_71 : decode cX9_naming 71 = .ok (.iload_n 1, 1) := by decide +kernel
theorem dX9_naming_72 : decode cX9_naming 72 = .ok (.iaload, 1) := by decide +kernel
theorem dX9_naming_73 : decode cX9_naming 73 = .ok (.ireturn, 1) := by decide +kernel
theorem dX9_naming_74 : decode cX9_naming 74 = .ok (.aload_n 3, 1) := by decide +kernel
theorem dX9_naming_75 : decode cX9_naming 75 = .ok (.getfield 155, 3) := by decide +kernel
theorem dX9_naming_78 : decode cX9_naming 78 = .ok (.iload_n 1, 1) := by decide +kernel
theorem dX9_naming_79 : decode cX9_naming 79 = .ok (.iaload, 1) := by decide +kernel
theorem dX9_naming_80 : decode cX9_naming 80 = .ok (.ireturn, 1) := by decide +kernel
theorem dX9_naming_81 : decode cX9_naming 81 = .ok (.aload_n 3, 1) := by decide +kernel
theorem dX9_naming_82 : decode cX9_naming 82 = .ok (.getfield 158, 3) := by decide +kernel
theorem dX9_naming_85 : decode cX9_naming 85 = .ok (.iload_n 1, 1) := by decide +kernel
theorem dX9_naming_86 : decode cX9_naming 86 = .ok (.iaload, 1) := by decide +kernel
theorem dX9_naming_87 : decode cX9_naming 87 = .ok (.ireturn, 1) := by decide +kernel
theorem dX9_naming_88 : decode cX9_naming 88 = .ok (.aload_n 0, 1) := by decide +kernel
theorem dX9_naming_89 : decode cX9_naming 89 = .ok (.invokevirtual 161, 3) := by decide +kernel
theorem dX9_naming_92 : decode cX9_naming 92 = .ok (.aload_n 0, 1) := by decide +kernel
theorem dX9_naming_93 : decode cX9_naming 93 = .ok (.getfield 61, 3) := by decide +kernel
theorem dX9_naming_96 : decode cX9_naming 96 = .ok (.getfield 164, 3) := by decide +kernel
theorem dX9_naming_99 : decode cX9_naming 99 = .ok (.iload_n 1, 1) := by decide +kernel
theorem dX9_naming_100 : decode cX9_naming 100 = .ok (.iaload, 1) := by decide +kernel
theorem dX9_naming_101 : decode cX9_naming 101 = .ok (.ireturn, 1) := by decide +kernel
theorem dX9_naming_102 : decode cX9_naming 102 = .ok (.bipush (-2), 2) := by decide +kernel
theorem dX9_naming_104 : decode cX9_naming 104 = .ok (.ireturn, 1) := by decide +kernel
theorem dX9_between_0 : decode cX9_between 0 = .ok (.aload_n 0, 1) := by decide +kernel
theorem dX9_between_1 : decode cX9_between 1 = .ok (.iload_n 1, 1) := by decide +kernel
theorem dX9_between_2 : decode cX9_between 2 = .ok (.invokevirtual 127, 3) := by decide +kernel
theorem dX9_between_5 : decode cX9_between 5 = .ok (.ifCond .eq 16, 3) := by decide +kernel
theorem dX9_between_8 : decode cX9_between 8 = .ok (.aload_n 0, 1) := by decide +kernel
theorem dX9_between_9 : decode cX9_between 9 = .ok (.iload_n 2, 1) := by decide +kernel
theorem dX9_between_10 : decode cX9_between 10 = .ok (.invokevirtual 127, 3) := by decide +kernel
theorem dX9_between_13 : decode cX9_between 13 = .ok (.ifCond .eq 8, 3) := by decide +kernel
theorem dX9_between_16 : decode cX9_between 16 = .ok (.iload_n 1, 1) := by decide +kernel
theorem dX9_between_17 : decode cX9_between 17 = .ok (.iload_n 2, 1) := by decide +kernel
theorem dX9_between_18 : decode cX9_between 18 = .ok (.if_icmp .ne 6, 3) := by decide +kernel
theorem dX9_between_21 : decode cX9_between 21 = .ok (.bipush (-2), 2) := by decide +kernel
theorem dX9_between_23 : decode cX9_between 23 = .ok (.ireturn, 1) := by decide +kernel
theorem dX9_between_24 : decode cX9_between 24 = .ok (.aload_n 0, 1) := by decide +kernel
theorem dX9_between_25 : decode cX9_between 25 = .ok (.invokevirtual 161, 3) := by decide +kernel
theorem dX9_between_28 : decode cX9_between 28 = .ok (.iload_n 1, 1) := by decide +kernel
theorem dX9_between_29 : decode cX9_between 29 = .ok (.bipush 6, 2) := by decide +kernel
theorem dX9_between_31 : decode cX9_between 31 = .ok (.imul, 1) := by decide +kernel
theorem dX9_between_32 : decode cX9_between 32 = .ok (.iload_n 2, 1) := by decide +kernel
theorem dX9_between_33 : decode cX9_between 33 = .ok (.iadd, 1) := by decide +kernel
theorem dX9_between_34 : decode cX9_between 34 = .ok (.istore 4, 2) := by decide +kernel
theorem dX9_between_36 : decode cX9_between 36 = .ok (.iload_n 3, 1) := by decide +kernel
theorem dX9_between_37 : decode cX9_between 37 = .ok (.tableswitch 60 0 2 #[27, 38, 49], 27) := by decide +kernel
theorem dX9_between_64 : decode cX9_between 64 = .ok (.aload_n 0, 1) := by decide +kernel
theorem dX9_between_65 : decode cX9_between 65 = .ok (.getfield 54, 3) := by decide +kernel
theorem dX9_between_68 : decode cX9_between 68 = .ok (.getfield 167, 3) := by decide +kernel
theorem dX9_between_71 : decode cX9_between 71 = .ok (.iload 4, 2) := by decide +kernel
theorem dX9_between_73 : decode cX9_between 73 = .ok (.iaload, 1) := by decide +kernel
theorem dX9_between_74 : decode cX9_between 74 = .ok (.ireturn, 1) := by decide +kernel
theorem dX9_between_75 : decode cX9_between 75 = .ok (.aload_n 0, 1) := by decide +kernel
theorem dX9_between_76 : decode cX9_between 76 = .ok (.getfield 54, 3) := by decide +kernel
theorem dX9_between_79 : decode cX9_between 79 = .ok (.getfield 170, 3) := by decide +kernel
theorem dX9_between_82 : decode cX9_between 82 = .ok (.iload 4, 2) := by decide +kernel
theorem dX9_between_84 : decode cX9_between 84 = .ok (.iaload, 1) := by decide +kernel
theorem dX9_between_85 : decode cX9_between 85 = .ok (.ireturn, 1) := by decide +kernel
theorem dX9_between_86 : decode cX9_between 86 = .ok (.aload_n 0, 1) := by decide +kernel
theorem dX9_between_87 : decode cX9_between 87 = .ok (.getfield 54, 3) := by decide +kernel
theorem dX9_between_90 : decode cX9_between 90 = .ok (.getfield 173, 3) := by decide +kernel
theorem dX9_between_93 : decode cX9_between 93 = .ok (.iload 4, 2) := by decide +kernel
theorem dX9_between_95 : decode cX9_between 95 = .ok (.iaload, 1) := by decide +kernel
theorem dX9_between_96 : decode cX9_between 96 = .ok (.ireturn, 1) := by decide +kernel
theorem dX9_between_97 : decode cX9_between 97 = .ok (.bipush (-2), 2) := by decide +kernel
theorem dX9_between_99 : decode cX9_between 99 = .ok (.ireturn, 1) := by decide +kernel
theorem dX9_tell_0 : decode cX9_tell 0 = .ok (.aload_n 0, 1) := by decide +kernel
theorem dX9_tell_1 : decode cX9_tell 1 = .ok (.getfield 82, 3) := by decide +kernel
theorem dX9_tell_4 : decode cX9_tell 4 = .ok (.aload_n 0, 1) := by decide +kernel
theorem dX9_tell_5 : decode cX9_tell 5 = .ok (.getfield 16, 3) := by decide +kernel
theorem dX9_tell_8 : decode cX9_tell 8 = .ok (.getfield 131, 3) := by decide +kernel
theorem dX9_tell_11 : decode cX9_tell 11 = .ok (.invokevirtual 176, 3) := by decide +kernel
theorem dX9_tell_14 : decode cX9_tell 14 = .ok (.aload_n 0, 1) := by decide +kernel
theorem dX9_tell_15 : decode cX9_tell 15 = .ok (.aload_n 0, 1) := by decide +kernel
theorem dX9_tell_16 : decode cX9_tell 16 = .ok (.getfield 82, 3) := by decide +kernel
theorem dX9_tell_19 : decode cX9_tell 19 = .ok (.iload_n 1, 1) := by decide +kernel
theorem dX9_tell_20 : decode cX9_tell 20 = .ok (.iload_n 2, 1) := by decide +kernel
theorem dX9_tell_21 : decode cX9_tell 21 = .ok (.iload_n 3, 1) := by decide +kernel
theorem dX9_tell_22 : decode cX9_tell 22 = .ok (.invokevirtual 180, 3) := by decide +kernel
theorem dX9_tell_25 : decode cX9_tell 25 = .ok (.istore 4, 2) := by decide +kernel
theorem dX9_tell_27 : decode cX9_tell 27 = .ok (.iload 4, 2) := by decide +kernel
theorem dX9_tell_29 : decode cX9_tell 29 = .ok (.ifCond .eq 9, 3) := by decide +kernel
theorem dX9_tell_32 : decode cX9_tell 32 = .ok (.bipush (-10), 2) := by decide +kernel
theorem dX9_tell_34 : decode cX9_tell 34 = .ok (.iload 4, 2) := by decide +kernel
theorem dX9_tell_36 : decode cX9_tell 36 = .ok (.isub, 1) := by decide +kernel
theorem dX9_tell_37 : decode cX9_tell 37 = .ok (.ireturn, 1) := by decide +kernel
theorem dX9_tell_38 : decode cX9_tell 38 = .ok (.aload_n 0, 1) := by decide +kernel
theorem dX9_tell_39 : decode cX9_tell 39 = .ok (.invokevirtual 184, 3) := by decide +kernel
theorem dX9_tell_42 : decode cX9_tell 42 = .ok (.aload_n 0, 1) := by decide +kernel
theorem dX9_tell_43 : decode cX9_tell 43 = .ok (.getfield 16, 3) := by decide +kernel
theorem dX9_tell_46 : decode cX9_tell 46 = .ok (.getfield 131, 3) := by decide +kernel
theorem dX9_tell_49 : decode cX9_tell 49 = .ok (.getfield 146, 3) := by decide +kernel
theorem dX9_tell_52 : decode cX9_tell 52 = .ok (.ireturn, 1) := by decide +kernel
theorem dX9_drop_0 : decode cX9_drop 0 = .ok (.aload_n 0, 1) := by decide +kernel
theorem dX9_drop_1 : decode cX9_drop 1 = .ok (.getfield 82, 3) := by decide +kernel
theorem dX9_drop_4 : decode cX9_drop 4 = .ok (.aload_n 0, 1) := by decide +kernel
theorem dX9_drop_5 : decode cX9_drop 5 = .ok (.getfield 16, 3) := by decide +kernel
theorem dX9_drop_8 : decode cX9_drop 8 = .ok (.getfield 131, 3) := by decide +kernel
theorem dX9_drop_11 : decode cX9_drop 11 = .ok (.invokevirtual 176, 3) := by decide +kernel
theorem dX9_drop_14 : decode cX9_drop 14 = .ok (.aload_n 0, 1) := by decide +kernel
theorem dX9_drop_15 : decode cX9_drop 15 = .ok (.getfield 82, 3) := by decide +kernel
theorem dX9_drop_18 : decode cX9_drop 18 = .ok (.iload_n 1, 1) := by decide +kernel
theorem dX9_drop_19 : decode cX9_drop 19 = .ok (.invokestatic 187, 3) := by decide +kernel
theorem dX9_drop_22 : decode cX9_drop 22 = .ok (.istore_n 2, 1) := by decide +kernel
theorem dX9_drop_23 : decode cX9_drop 23 = .ok (.iload_n 2, 1) := by decide +kernel
theorem dX9_drop_24 : decode cX9_drop 24 = .ok (.ifCond .eq 8, 3) := by decide +kernel
theorem dX9_drop_27 : decode cX9_drop 27 = .ok (.bipush (-10), 2) := by decide +kernel
theorem dX9_drop_29 : decode cX9_drop 29 = .ok (.iload_n 2, 1) := by decide +kernel
theorem dX9_drop_30 : decode cX9_drop 30 = .ok (.isub, 1) := by decide +kernel
theorem dX9_drop_31 : decode cX9_drop 31 = .ok (.ireturn, 1) := by decide +kernel
theorem dX9_drop_32 : decode cX9_drop 32 = .ok (.aload_n 0, 1) := by decide +kernel
theorem dX9_drop_33 : decode cX9_drop 33 = .ok (.invokevirtual 184, 3) := by decide +kernel
theorem dX9_drop_36 : decode cX9_drop 36 = .ok (.aload_n 0, 1) := by decide +kernel
theorem dX9_drop_37 : decode cX9_drop 37 = .ok (.getfield 16, 3) := by decide +kernel
theorem dX9_drop_40 : decode cX9_drop 40 = .ok (.getfield 131, 3) := by decide +kernel
theorem dX9_drop_43 : decode cX9_drop 43 = .ok (.getfield 146, 3) := by decide +kernel
theorem dX9_drop_46 : decode cX9_drop 46 = .ok (.ireturn, 1) := by decide +kernel
theorem dX9_move_0 : decode cX9_move 0 = .ok (.aload_n 0, 1) := by decide +kernel
theorem dX9_move_1 : decode cX9_move 1 = .ok (.getfield 82, 3) := by decide +kernel
theorem dX9_move_4 : decode cX9_move 4 = .ok (.aload_n 0, 1) := by decide +kernel
theorem dX9_move_5 : decode cX9_move 5 = .ok (.getfield 16, 3) := by decide +kernel
theorem dX9_move_8 : decode cX9_move 8 = .ok (.getfield 131, 3) := by decide +kernel
theorem dX9_move_11 : decode cX9_move 11 = .ok (.invokevirtual 176, 3) := by decide +kernel
theorem dX9_move_14 : decode cX9_move 14 = .ok (.aload_n 0, 1) := by decide +kernel
theorem dX9_move_15 : decode cX9_move 15 = .ok (.aload_n 0, 1) := by decide +kernel
theorem dX9_move_16 : decode cX9_move 16 = .ok (.getfield 82, 3) := by decide +kernel
theorem dX9_move_19 : decode cX9_move 19 = .ok (.iload_n 1, 1) := by decide +kernel
theorem dX9_move_20 : decode cX9_move 20 = .ok (.iload_n 2, 1) := by decide +kernel
theorem dX9_move_21 : decode cX9_move 21 = .ok (.invokevirtual 191, 3) := by decide +kernel
theorem dX9_move_24 : decode cX9_move 24 = .ok (.istore_n 3, 1) := by decide +kernel
theorem dX9_move_25 : decode cX9_move 25 = .ok (.iload_n 3, 1) := by decide +kernel
theorem dX9_move_26 : decode cX9_move 26 = .ok (.ifCond .eq 8, 3) := by decide +kernel
theorem dX9_move_29 : decode cX9_move 29 = .ok (.bipush (-10), 2) := by decide +kernel
theorem dX9_move_31 : decode cX9_move 31 = .ok (.iload_n 3, 1) := by decide +kernel
theorem dX9_move_32 : decode cX9_move 32 = .ok (.isub, 1) := by decide +kernel
theorem dX9_move_33 : decode cX9_move 33 = .ok (.ireturn, 1) := by decide +kernel
theorem dX9_move_34 : decode cX9_move 34 = .ok (.aload_n 0, 1) := by decide +kernel
theorem dX9_move_35 : decode cX9_move 35 = .ok (.getfield 16, 3) := by decide +kernel
theorem dX9_move_38 : decode cX9_move 38 = .ok (.getfield 131, 3) := by decide +kernel
theorem dX9_move_41 : decode cX9_move 41 = .ok (.getfield 134, 3) := by decide +kernel
theorem dX9_move_44 : decode cX9_move 44 = .ok (.iload_n 1, 1) := by decide +kernel
theorem dX9_move_45 : decode cX9_move 45 = .ok (.iaload, 1) := by decide +kernel
theorem dX9_move_46 : decode cX9_move 46 = .ok (.istore 4, 2) := by decide +kernel
theorem dX9_move_48 : decode cX9_move 48 = .ok (.aload_n 0, 1) := by decide +kernel
theorem dX9_move_49 : decode cX9_move 49 = .ok (.invokevirtual 184, 3) := by decide +kernel
theorem dX9_move_52 : decode cX9_move 52 = .ok (.iload 4, 2) := by decide +kernel
theorem dX9_move_54 : decode cX9_move 54 = .ok (.ireturn, 1) := by decide +kernel
theorem dX9_wind_0 : decode cX9_wind 0 = .ok (.aload_n 0, 1) := by decide +kernel
theorem dX9_wind_1 : decode cX9_wind 1 = .ok (.getfield 82, 3) := by decide +kernel
theorem dX9_wind_4 : decode cX9_wind 4 = .ok (.aload_n 0, 1) := by decide +kernel
theorem dX9_wind_5 : decode cX9_wind 5 = .ok (.getfield 16, 3) := by decide +kernel
theorem dX9_wind_8 : decode cX9_wind 8 = .ok (.getfield 131, 3) := by decide +kernel
theorem dX9_wind_11 : decode cX9_wind 11 = .ok (.invokevirtual 176, 3) := by decide +kernel
theorem dX9_wind_14 : decode cX9_wind 14 = .ok (.aload_n 0, 1) := by decide +kernel
theorem dX9_wind_15 : decode cX9_wind 15 = .ok (.getfield 82, 3) := by decide +kernel
theorem dX9_wind_18 : decode cX9_wind 18 = .ok (.iload_n 1, 1) := by decide +kernel
theorem dX9_wind_19 : decode cX9_wind 19 = .ok (.invokestatic 195, 3) := by decide +kernel
theorem dX9_wind_22 : decode cX9_wind 22 = .ok (.istore_n 2, 1) := by decide +kernel
theorem dX9_wind_23 : decode cX9_wind 23 = .ok (.iload_n 2, 1) := by decide +kernel
theorem dX9_wind_24 : decode cX9_wind 24 = .ok (.ifCond .eq 8, 3) := by decide +kernel
theorem dX9_wind_27 : decode cX9_wind 27 = .ok (.bipush (-10), 2) := by decide +kernel
theorem dX9_wind_29 : decode cX9_wind 29 = .ok (.iload_n 2, 1) := by decide +kernel
theorem dX9_wind_30 : decode cX9_wind 30 = .ok (.isub, 1) := by decide +kernel
theorem dX9_wind_31 : decode cX9_wind 31 = .ok (.ireturn, 1) := by decide +kernel
theorem dX9_wind_32 : decode cX9_wind 32 = .ok (.aload_n 0, 1) := by decide +kernel
theorem dX9_wind_33 : decode cX9_wind 33 = .ok (.getfield 16, 3) := by decide +kernel
theorem dX9_wind_36 : decode cX9_wind 36 = .ok (.getfield 131, 3) := by decide +kernel
theorem dX9_wind_39 : decode cX9_wind 39 = .ok (.getfield 198, 3) := by decide +kernel
theorem dX9_wind_42 : decode cX9_wind 42 = .ok (.istore_n 3, 1) := by decide +kernel
theorem dX9_wind_43 : decode cX9_wind 43 = .ok (.aload_n 0, 1) := by decide +kernel
theorem dX9_wind_44 : decode cX9_wind 44 = .ok (.invokevirtual 184, 3) := by decide +kernel
theorem dX9_wind_47 : decode cX9_wind 47 = .ok (.iload_n 3, 1) := by decide +kernel
theorem dX9_wind_48 : decode cX9_wind 48 = .ok (.ireturn, 1) := by decide +kernel
theorem dX9_undo_0 : decode cX9_undo 0 = .ok (.iload_n 1, 1) := by decide +kernel
theorem dX9_undo_1 : decode cX9_undo 1 = .ok (.iconst 1, 1) := by decide +kernel
theorem dX9_undo_2 : decode cX9_undo 2 = .ok (.if_icmp .lt 14, 3) := by decide +kernel
theorem dX9_undo_5 : decode cX9_undo 5 = .ok (.iload_n 1, 1) := by decide +kernel
theorem dX9_undo_6 : decode cX9_undo 6 = .ok (.aload_n 0, 1) := by decide +kernel
theorem dX9_undo_7 : decode cX9_undo 7 = .ok (.getfield 41, 3) := by decide +kernel
theorem dX9_undo_10 : decode cX9_undo 10 = .ok (.getfield 201, 3) := by decide +kernel
theorem dX9_undo_13 : decode cX9_undo 13 = .ok (.if_icmp .le 6, 3) := by decide +kernel
theorem dX9_undo_16 : decode cX9_undo 16 = .ok (.bipush (-3), 2) := by decide +kernel
theorem dX9_undo_18 : decode cX9_undo 18 = .ok (.ireturn, 1) := by decide +kernel
theorem dX9_undo_19 : decode cX9_undo 19 = .ok (.aload_n 0, 1) := by decide +kernel
theorem dX9_undo_20 : decode cX9_undo 20 = .ok (.getfield 41, 3) := by decide +kernel
theorem dX9_undo_23 : decode cX9_undo 23 = .ok (.iload_n 1, 1) := by decide +kernel
theorem dX9_undo_24 : decode cX9_undo 24 = .ok (.aload_n 0, 1) := by decide +kernel
theorem dX9_undo_25 : decode cX9_undo 25 = .ok (.getfield 16, 3) := by decide +kernel
theorem dX9_undo_28 : decode cX9_undo 28 = .ok (.getfield 131, 3) := by decide +kernel
theorem dX9_undo_31 : decode cX9_undo 31 = .ok (.invokevirtual 204, 3) := by decide +kernel
theorem dX9_undo_34 : decode cX9_undo 34 = .ok (.aload_n 0, 1) := by decide +kernel
theorem dX9_undo_35 : decode cX9_undo 35 = .ok (.invokevirtual 118, 3) := by decide +kernel
theorem dX9_undo_38 : decode cX9_undo 38 = .ok (.aload_n 0, 1) := by decide +kernel
theorem dX9_undo_39 : decode cX9_undo 39 = .ok (.getfield 41, 3) := by decide +kernel
theorem dX9_undo_42 : decode cX9_undo 42 = .ok (.getfield 201, 3) := by decide +kernel
theorem dX9_undo_45 : decode cX9_undo 45 = .ok (.ireturn, 1) := by decide +kernel
theorem dX9_judge_0 : decode cX9_judge 0 = .ok (.iload_n 1, 1) := by decide +kernel
theorem dX9_judge_1 : decode cX9_judge 1 = .ok (.invokestatic 208, 3) := by decide +kernel
theorem dX9_judge_4 : decode cX9_judge 4 = .ok (.ifCond .eq 12, 3) := by decide +kernel
theorem dX9_judge_7 : decode cX9_judge 7 = .ok (.iload_n 2, 1) := by decide +kernel
theorem dX9_judge_8 : decode cX9_judge 8 = .ok (.ifCond .lt 8, 3) := by decide +kernel
theorem dX9_judge_11 : decode cX9_judge 11 = .ok (.iload_n 2, 1) := by decide +kernel
theorem dX9_judge_12 : decode cX9_judge 12 = .ok (.iconst 3, 1) := by decide +kernel
theorem dX9_judge_13 : decode cX9_judge 13 = .ok (.if_icmp .le 6, 3) := by decide +kernel
theorem dX9_judge_16 : decode cX9_judge 16 = .ok (.bipush (-2), 2) := by decide +kernel
theorem dX9_judge_18 : decode cX9_judge 18 = .ok (.ireturn, 1) := by decide +kernel
theorem dX9_judge_19 : decode cX9_judge 19 = .ok (.aload_n 0, 1) := by decide +kernel
theorem dX9_judge_20 : decode cX9_judge 20 = .ok (.getfield 47, 3) := by decide +kernel
theorem dX9_judge_23 : decode cX9_judge 23 = .ok (.iload_n 1, 1) := by decide +kernel
theorem dX9_judge_24 : decode cX9_judge 24 = .ok (.aaload, 1) := by decide +kernel
theorem dX9_judge_25 : decode cX9_judge 25 = .ok (.astore_n 3, 1) := by decide +kernel
theorem dX9_judge_26 : decode cX9_judge 26 = .ok (.aload_n 3, 1) := by decide +kernel
theorem dX9_judge_27 : decode cX9_judge 27 = .ok (.getfield 211, 3) := by decide +kernel
theorem dX9_judge_30 : decode cX9_judge 30 = .ok (.ifCond .ne 6, 3) := by decide +kernel
theorem dX9_judge_33 : decode cX9_judge 33 = .ok (.bipush (-6), 2) := by decide +kernel
theorem dX9_judge_35 : decode cX9_judge 35 = .ok (.ireturn, 1) := by decide +kernel
theorem dX9_judge_36 : decode cX9_judge 36 = .ok (.aload_n 0, 1) := by decide +kernel
theorem dX9_judge_37 : decode cX9_judge 37 = .ok (.aload_n 3, 1) := by decide +kernel
theorem dX9_judge_38 : decode cX9_judge 38 = .ok (.invokevirtual 215, 3) := by decide +kernel
theorem dX9_judge_41 : decode cX9_judge 41 = .ok (.istore 4, 2) := by decide +kernel
theorem dX9_judge_43 : decode cX9_judge 43 = .ok (.iload 4, 2) := by decide +kernel
theorem dX9_judge_45 : decode cX9_judge 45 = .ok (.aload_n 3, 1) := by decide +kernel
theorem dX9_judge_46 : decode cX9_judge 46 = .ok (.getfield 219, 3) := by decide +kernel
theorem dX9_judge_49 : decode cX9_judge 49 = .ok (.if_icmp .lt 7, 3) := by decide +kernel
theorem dX9_judge_52 : decode cX9_judge 52 = .ok (.iconst 1, 1) := by decide +kernel
theorem dX9_judge_53 : decode cX9_judge 53 = .ok (.goto 4, 3) := by decide +kernel
theorem dX9_judge_56 : decode cX9_judge 56 = .ok (.iconst 0, 1) := by decide +kernel
theorem dX9_judge_57 : decode cX9_judge 57 = .ok (.istore 5, 2) := by decide +kernel
theorem dX9_judge_59 : decode cX9_judge 59 = .ok (.iload_n 2, 1) := by decide +kernel
theorem dX9_judge_60 : decode cX9_judge 60 = .ok (.ifCond .ne 15, 3) := by decide +kernel
theorem dX9_judge_63 : decode cX9_judge 63 = .ok (.iload 5, 2) := by decide +kernel
theorem dX9_judge_65 : decode cX9_judge 65 = .ok (.ifCond .eq 7, 3) := by decide +kernel
theorem dX9_judge_68 : decode cX9_judge 68 = .ok (.iconst (-1), 1) := by decide +kernel
theorem dX9_judge_69 : decode cX9_judge 69 = .ok (.goto 5, 3) := by decide +kernel
theorem dX9_judge_72 : decode cX9_judge 72 = .ok (.iload 4, 2) := by decide +kernel
theorem dX9_judge_74 : decode cX9_judge 74 = .ok (.ireturn, 1) := by decide +kernel
theorem dX9_judge_75 : decode cX9_judge 75 = .ok (.iload_n 2, 1) := by decide +kernel
theorem dX9_judge_76 : decode cX9_judge 76 = .ok (.iconst 1, 1) := by decide +kernel
theorem dX9_judge_77 : decode cX9_judge 77 = .ok (.if_icmp .ne 28, 3) := by decide +kernel
theorem dX9_judge_80 : decode cX9_judge 80 = .ok (.iload 5, 2) := by decide +kernel
theorem dX9_judge_82 : decode cX9_judge 82 = .ok (.ifCond .eq 7, 3) := by decide +kernel
theorem dX9_judge_85 : decode cX9_judge 85 = .ok (.iconst 0, 1) := by decide +kernel
theorem dX9_judge_86 : decode cX9_judge 86 = .ok (.goto 18, 3) := by decide +kernel
theorem dX9_judge_89 : decode cX9_judge 89 = .ok (.aload_n 0, 1) := by decide +kernel
theorem dX9_judge_90 : decode cX9_judge 90 = .ok (.aload_n 0, 1) := by decide +kernel
theorem dX9_judge_91 : decode cX9_judge 91 = .ok (.getfield 82, 3) := by decide +kernel
theorem dX9_judge_94 : decode cX9_judge 94 = .ok (.aload_n 3, 1) := by decide +kernel
theorem dX9_judge_95 : decode cX9_judge 95 = .ok (.getfield 222, 3) := by decide +kernel
theorem dX9_judge_98 : decode cX9_judge 98 = .ok (.iload 4, 2) := by decide +kernel
theorem dX9_judge_100 : decode cX9_judge 100 = .ok (.laload, 1) := by decide +kernel
theorem dX9_judge_101 : decode cX9_judge 101 = .ok (.invokevirtual 226, 3) := by decide +kernel
theorem dX9_judge_104 : decode cX9_judge 104 = .ok (.ireturn, 1) := by decide +kernel
theorem dX9_judge_105 : decode cX9_judge 105 = .ok (.aload_n 0, 1) := by decide +kernel
theorem dX9_judge_106 : decode cX9_judge 106 = .ok (.getfield 86, 3) := by decide +kernel
theorem dX9_judge_109 : decode cX9_judge 109 = .ok (.aload_n 0, 1) := by decide +kernel
theorem dX9_judge_110 : decode cX9_judge 110 = .ok (.getfield 16, 3) := by decide +kernel
theorem dX9_judge_113 : decode cX9_judge 113 = .ok (.aload_n 0, 1) := by decide +kernel
theorem dX9_judge_114 : decode cX9_judge 114 = .ok (.getfield 82, 3) := by decide +kernel
theorem dX9_judge_117 : decode cX9_judge 117 = .ok (.invokevirtual 230, 3) := by decide +kernel
theorem dX9_judge_120 : decode cX9_judge 120 = .ok (.aload_n 0, 1) := by decide +kernel
theorem dX9_judge_121 : decode cX9_judge 121 = .ok (.getfield 89, 3) := by decide +kernel
theorem dX9_judge_124 : decode cX9_judge 124 = .ok (.aload_n 0, 1) := by decide +kernel
theorem dX9_judge_125 : decode cX9_judge 125 = .ok (.getfield 82, 3) := by decide +kernel
theorem dX9_judge_128 : decode cX9_judge 128 = .ok (.aload_n 0, 1) := by decide +kernel
theorem dX9_judge_129 : decode cX9_judge 129 = .ok (.getfield 86, 3) := by decide +kernel
theorem dX9_judge_132 : decode cX9_judge 132 = .ok (.bipush 99, 2) := by decide +kernel
theorem dX9_judge_134 : decode cX9_judge 134 = .ok (.iconst (-1), 1) := by decide +kernel
theorem dX9_judge_135 : decode cX9_judge 135 = .ok (.invokevirtual 234, 3) := by decide +kernel
theorem dX9_judge_138 : decode cX9_judge 138 = .ok (.pop, 1) := by decide +kernel
theorem dX9_judge_139 : decode cX9_judge 139 = .ok (.iload_n 2, 1) := by decide +kernel
theorem dX9_judge_140 : decode cX9_judge 140 = .ok (.iconst 2, 1) := by decide +kernel
theorem dX9_judge_141 : decode cX9_judge 141 = .ok (.if_icmp .ne 13, 3) := by decide +kernel
theorem dX9_judge_144 : decode cX9_judge 144 = .ok (.aload_n 0, 1) := by decide +kernel
theorem dX9_judge_145 : decode cX9_judge 145 = .ok (.getfield 89, 3) := by decide +kernel
theorem dX9_judge_148 : decode cX9_judge 148 = .ok (.getfield 238, 3) := by decide +kernel
theorem dX9_judge_151 : decode cX9_judge 151 = .ok (.goto 17, 3) := by decide +kernel
theorem dX9_judge_154 : decode cX9_judge 154 = .ok (.aload_n 0, 1) := by decide +kernel
theorem dX9_judge_155 : decode cX9_judge 155 = .ok (.getfield 89, 3) := by decide +kernel
theorem dX9_judge_158 : decode cX9_judge 158 = .ok (.aload_n 0, 1) := by decide +kernel
theorem dX9_judge_159 : decode cX9_judge 159 = .ok (.getfield 16, 3) := by decide +kernel
theorem dX9_judge_162 : decode cX9_judge 162 = .ok (.getfield 241, 3) := by decide +kernel
theorem dX9_judge_165 : decode cX9_judge 165 = .ok (.invokevirtual 244, 3) := by decide +kernel
theorem dX9_judge_168 : decode cX9_judge 168 = .ok (.ireturn, 1) := by decide +kernel
theorem dX9_perform_0 : decode cX9_perform 0 = .ok (.iload_n 1, 1) := by decide +kernel
theorem dX9_perform_1 : decode cX9_perform 1 = .ok (.invokestatic 208, 3) := by decide +kernel
theorem dX9_perform_4 : decode cX9_perform 4 = .ok (.ifCond .ne 6, 3) := by decide +kernel
theorem dX9_perform_7 : decode cX9_perform 7 = .ok (.bipush (-2), 2) := by decide +kernel
theorem dX9_perform_9 : decode cX9_perform 9 = .ok (.ireturn, 1) := by decide +kernel
theorem dX9_perform_10 : decode cX9_perform 10 = .ok (.aload_n 0, 1) := by decide +kernel
theorem dX9_perform_11 : decode cX9_perform 11 = .ok (.getfield 47, 3) := by decide +kernel
theorem dX9_perform_14 : decode cX9_perform 14 = .ok (.iload_n 1, 1) := by decide +kernel
theorem dX9_perform_15 : decode cX9_perform 15 = .ok (.aaload, 1) := by decide +kernel
theorem dX9_perform_16 : decode cX9_perform 16 = .ok (.getfield 211, 3) := by decide +kernel
theorem dX9_perform_19 : decode cX9_perform 19 = .ok (.ifCond .ne 6, 3) := by decide +kernel
theorem dX9_perform_22 : decode cX9_perform 22 = .ok (.bipush (-6), 2) := by decide +kernel
theorem dX9_perform_24 : decode cX9_perform 24 = .ok (.ireturn, 1) := by decide +kernel
theorem dX9_perform_25 : decode cX9_perform 25 = .ok (.aload_n 0, 1) := by decide +kernel
theorem dX9_perform_26 : decode cX9_perform 26 = .ok (.aload_n 0, 1) := by decide +kernel
theorem dX9_perform_27 : decode cX9_perform 27 = .ok (.getfield 47, 3) := by decide +kernel
theorem dX9_perform_30 : decode cX9_perform 30 = .ok (.iload_n 1, 1) := by decide +kernel
theorem dX9_perform_31 : decode cX9_perform 31 = .ok (.aaload, 1) := by decide +kernel
theorem dX9_perform_32 : decode cX9_perform 32 = .ok (.invokevirtual 215, 3) := by decide +kernel
theorem dX9_perform_35 : decode cX9_perform 35 = .ok (.istore_n 2, 1) := by decide +kernel
theorem dX9_perform_36 : decode cX9_perform 36 = .ok (.iload_n 2, 1) := by decide +kernel
theorem dX9_perform_37 : decode cX9_perform 37 = .ok (.ifCond .le 7, 3) := by decide +kernel
theorem dX9_perform_40 : decode cX9_perform 40 = .ok (.aload_n 0, 1) := by decide +kernel
theorem dX9_perform_41 : decode cX9_perform 41 = .ok (.invokevirtual 184, 3) := by decide +kernel
theorem dX9_perform_44 : decode cX9_perform 44 = .ok (.iload_n 2, 1) := by decide +kernel
theorem dX9_perform_45 : decode cX9_perform 45 = .ok (.ireturn, 1) := by decide +kernel
theorem dX9_week_0 : decode cX9_week 0 = .ok (.iload_n 2, 1) := by decide +kernel
theorem dX9_week_1 : decode cX9_week 1 = .ok (.iconst 1, 1) := by decide +kernel
theorem dX9_week_2 : decode cX9_week 2 = .ok (.if_icmp .lt 9, 3) := by decide +kernel
theorem dX9_week_5 : decode cX9_week 5 = .ok (.iload_n 2, 1) := by decide +kernel
theorem dX9_week_6 : decode cX9_week 6 = .ok (.bipush 40, 2) := by decide +kernel
theorem dX9_week_8 : decode cX9_week 8 = .ok (.if_icmp .le 6, 3) := by decide +kernel
theorem dX9_week_11 : decode cX9_week 11 = .ok (.bipush (-3), 2) := by decide +kernel
theorem dX9_week_13 : decode cX9_week 13 = .ok (.ireturn, 1) := by decide +kernel
theorem dX9_week_14 : decode cX9_week 14 = .ok (.aload_n 0, 1) := by decide +kernel
theorem dX9_week_15 : decode cX9_week 15 = .ok (.iload_n 1, 1) := by decide +kernel
theorem dX9_week_16 : decode cX9_week 16 = .ok (.putfield 248, 3) := by decide +kernel
theorem dX9_week_19 : decode cX9_week 19 = .ok (.aload_n 0, 1) := by decide +kernel
theorem dX9_week_20 : decode cX9_week 20 = .ok (.getfield 82, 3) := by decide +kernel
theorem dX9_week_23 : decode cX9_week 23 = .ok (.aload_n 0, 1) := by decide +kernel
theorem dX9_week_24 : decode cX9_week 24 = .ok (.getfield 16, 3) := by decide +kernel
theorem dX9_week_27 : decode cX9_week 27 = .ok (.getfield 131, 3) := by decide +kernel
theorem dX9_week_30 : decode cX9_week 30 = .ok (.invokevirtual 176, 3) := by decide +kernel
theorem dX9_week_33 : decode cX9_week 33 = .ok (.iconst 0, 1) := by decide +kernel
theorem dX9_week_34 : decode cX9_week 34 = .ok (.istore_n 3, 1) := by decide +kernel
theorem dX9_week_35 : decode cX9_week 35 = .ok (.iconst 0, 1) := by decide +kernel
theorem dX9_week_36 : decode cX9_week 36 = .ok (.istore 4, 2) := by decide +kernel
theorem dX9_week_38 : decode cX9_week 38 = .ok (.iload 4, 2) := by decide +kernel
theorem dX9_week_40 : decode cX9_week 40 = .ok (.iload_n 2, 1) := by decide +kernel
theorem dX9_week_41 : decode cX9_week 41 = .ok (.if_icmp .ge 28, 3) := by decide +kernel
theorem dX9_week_44 : decode cX9_week 44 = .ok (.aload_n 0, 1) := by decide +kernel
theorem dX9_week_45 : decode cX9_week 45 = .ok (.aload_n 0, 1) := by decide +kernel
theorem dX9_week_46 : decode cX9_week 46 = .ok (.getfield 82, 3) := by decide +kernel
theorem dX9_week_49 : decode cX9_week 49 = .ok (.aload_n 0, 1) := by decide +kernel
theorem dX9_week_50 : decode cX9_week 50 = .ok (.invokevirtual 251, 3) := by decide +kernel
theorem dX9_week_53 : decode cX9_week 53 = .ok (.i2l, 1) := by decide +kernel
theorem dX9_week_54 : decode cX9_week 54 = .ok (.invokevirtual 226, 3) := by decide +kernel
theorem dX9_week_57 : decode cX9_week 57 = .ok (.ifCond .ne 6, 3) := by decide +kernel
theorem dX9_week_60 : decode cX9_week 60 = .ok (.iinc 3 1, 3) := by decide +kernel
theorem dX9_week_63 : decode cX9_week 63 = .ok (.iinc 4 1, 3) := by decide +kernel
theorem dX9_week_66 : decode cX9_week 66 = .ok (.goto (-28), 3) := by decide +kernel
theorem dX9_week_69 : decode cX9_week 69 = .ok (.iload_n 3, 1) := by decide +kernel
theorem dX9_week_70 : decode cX9_week 70 = .ok (.ifCond .le 7, 3) := by decide +kernel
theorem dX9_week_73 : decode cX9_week 73 = .ok (.aload_n 0, 1) := by decide +kernel
theorem dX9_week_74 : decode cX9_week 74 = .ok (.invokevirtual 184, 3) := by decide +kernel
theorem dX9_week_77 : decode cX9_week 77 = .ok (.iload_n 3, 1) := by decide +kernel
theorem dX9_week_78 : decode cX9_week 78 = .ok (.ireturn, 1) := by decide +kernel
theorem dX9_hiccups_0 : decode cX9_hiccups 0 = .ok (.iload_n 1, 1) := by decide +kernel
theorem dX9_hiccups_1 : decode cX9_hiccups 1 = .ok (.iconst (-1), 1) := by decide +kernel
theorem dX9_hiccups_2 : decode cX9_hiccups 2 = .ok (.if_icmp .eq 14, 3) := by decide +kernel
theorem dX9_hiccups_5 : decode cX9_hiccups 5 = .ok (.aload_n 0, 1) := by decide +kernel
theorem dX9_hiccups_6 : decode cX9_hiccups 6 = .ok (.iload_n 1, 1) := by decide +kernel
theorem dX9_hiccups_7 : decode cX9_hiccups 7 = .ok (.invokevirtual 127, 3) := by decide +kernel
theorem dX9_hiccups_10 : decode cX9_hiccups 10 = .ok (.ifCond .ne 6, 3) := by decide +kernel
theorem dX9_hiccups_13 : decode cX9_hiccups 13 = .ok (.bipush (-2), 2) := by decide +kernel
theorem dX9_hiccups_15 : decode cX9_hiccups 15 = .ok (.ireturn, 1) := by decide +kernel
theorem dX9_hiccups_16 : decode cX9_hiccups 16 = .ok (.aload_n 0, 1) := by decide +kernel
theorem dX9_hiccups_17 : decode cX9_hiccups 17 = .ok (.invokevirtual 161, 3) := by decide +kernel
theorem dX9_hiccups_20 : decode cX9_hiccups 20 = .ok (.iload_n 1, 1) := by decide +kernel
theorem dX9_hiccups_21 : decode cX9_hiccups 21 = .ok (.iconst (-1), 1) := by decide +kernel
theorem dX9_hiccups_22 : decode cX9_hiccups 22 = .ok (.if_icmp .ne 13, 3) := by decide +kernel
theorem dX9_hiccups_25 : decode cX9_hiccups 25 = .ok (.aload_n 0, 1) := by decide +kernel
theorem dX9_hiccups_26 : decode cX9_hiccups 26 = .ok (.getfield 61, 3) := by decide +kernel
theorem dX9_hiccups_29 : decode cX9_hiccups 29 = .ok (.getfield 238, 3) := by decide +kernel
theorem dX9_hiccups_32 : decode cX9_hiccups 32 = .ok (.goto 12, 3) := by decide +kernel
theorem dX9_hiccups_35 : decode cX9_hiccups 35 = .ok (.aload_n 0, 1) := by decide +kernel
theorem dX9_hiccups_36 : decode cX9_hiccups 36 = .ok (.getfield 61, 3) := by decide +kernel
theorem dX9_hiccups_39 : decode cX9_hiccups 39 = .ok (.getfield 255, 3) := by decide +kernel
theorem dX9_hiccups_42 : decode cX9_hiccups 42 = .ok (.iload_n 1, 1) := by decide +kernel
theorem dX9_hiccups_43 : decode cX9_hiccups 43 = .ok (.iaload, 1) := by decide +kernel
theorem dX9_hiccups_44 : decode cX9_hiccups 44 = .ok (.ireturn, 1) := by decide +kernel
theorem dX9_hiccup_0 : decode cX9_hiccup 0 = .ok (.iload_n 2, 1) := by decide +kernel
theorem dX9_hiccup_1 : decode cX9_hiccup 1 = .ok (.ifCond .lt 8, 3) := by decide +kernel
theorem dX9_hiccup_4 : decode cX9_hiccup 4 = .ok (.iload_n 2, 1) := by decide +kernel
theorem dX9_hiccup_5 : decode cX9_hiccup 5 = .ok (.iconst 4, 1) := by decide +kernel
theorem dX9_hiccup_6 : decode cX9_hiccup 6 = .ok (.if_icmp .le 6, 3) := by decide +kernel
theorem dX9_hiccup_9 : decode cX9_hiccup 9 = .ok (.bipush (-2), 2) := by decide +kernel
theorem dX9_hiccup_11 : decode cX9_hiccup 11 = .ok (.ireturn, 1) := by decide +kernel
theorem dX9_hiccup_12 : decode cX9_hiccup 12 = .ok (.iload_n 1, 1) := by decide +kernel
theorem dX9_hiccup_13 : decode cX9_hiccup 13 = .ok (.ifCond .ge 6, 3) := by decide +kernel
theorem dX9_hiccup_16 : decode cX9_hiccup 16 = .ok (.bipush (-3), 2) := by decide +kernel
theorem dX9_hiccup_18 : decode cX9_hiccup 18 = .ok (.ireturn, 1) := by decide +kernel
theorem dX9_hiccup_19 : decode cX9_hiccup 19 = .ok (.aload_n 0, 1) := by decide +kernel
theorem dX9_hiccup_20 : decode cX9_hiccup 20 = .ok (.invokevirtual 161, 3) := by decide +kernel
theorem dX9_hiccup_23 : decode cX9_hiccup 23 = .ok (.iload_n 1, 1) := by decide +kernel
theorem dX9_hiccup_24 : decode cX9_hiccup 24 = .ok (.aload_n 0, 1) := by decide +kernel
theorem dX9_hiccup_25 : decode cX9_hiccup 25 = .ok (.getfield 61, 3) := by decide +kernel
theorem dX9_hiccup_28 : decode cX9_hiccup 28 = .ok (.getfield 238, 3) := by decide +kernel
theorem dX9_hiccup_31 : decode cX9_hiccup 31 = .ok (.if_icmp .lt 5, 3) := by decide +kernel
theorem dX9_hiccup_34 : decode cX9_hiccup 34 = .ok (.iconst (-1), 1) := by decide +kernel
theorem dX9_hiccup_35 : decode cX9_hiccup 35 = .ok (.ireturn, 1) := by decide +kernel
theorem dX9_hiccup_36 : decode cX9_hiccup 36 = .ok (.aload_n 0, 1) := by decide +kernel
theorem dX9_hiccup_37 : decode cX9_hiccup 37 = .ok (.getfield 61, 3) := by decide +kernel
theorem dX9_hiccup_40 : decode cX9_hiccup 40 = .ok (.getfield 258, 3) := by decide +kernel
theorem dX9_hiccup_43 : decode cX9_hiccup 43 = .ok (.iload_n 1, 1) := by decide +kernel
theorem dX9_hiccup_44 : decode cX9_hiccup 44 = .ok (.iaload, 1) := by decide +kernel
theorem dX9_hiccup_45 : decode cX9_hiccup 45 = .ok (.istore_n 3, 1) := by decide +kernel
theorem dX9_hiccup_46 : decode cX9_hiccup 46 = .ok (.iload_n 2, 1) := by decide +kernel
theorem dX9_hiccup_47 : decode cX9_hiccup 47 = .ok (.tableswitch 59 0 3 #[29, 34, 44, 49], 29) := by decide +kernel
theorem dX9_hiccup_76 : decode cX9_hiccup 76 = .ok (.iload_n 3, 1) := by decide +kernel
theorem dX9_hiccup_77 : decode cX9_hiccup 77 = .ok (.bipush 6, 2) := by decide +kernel
theorem dX9_hiccup_79 : decode cX9_hiccup 79 = .ok (.irem, 1) := by decide +kernel
theorem dX9_hiccup_80 : decode cX9_hiccup 80 = .ok (.ireturn, 1) := by decide +kernel
theorem dX9_hiccup_81 : decode cX9_hiccup 81 = .ok (.aload_n 0, 1) := by decide +kernel
theorem dX9_hiccup_82 : decode cX9_hiccup 82 = .ok (.getfield 61, 3) := by decide +kernel
theorem dX9_hiccup_85 : decode cX9_hiccup 85 = .ok (.getfield 261, 3) := by decide +kernel
theorem dX9_hiccup_88 : decode cX9_hiccup 88 = .ok (.iload_n 1, 1) := by decide +kernel
theorem dX9_hiccup_89 : decode cX9_hiccup 89 = .ok (.iaload, 1) := by decide +kernel
theorem dX9_hiccup_90 : decode cX9_hiccup 90 = .ok (.ireturn, 1) := by decide +kernel
theorem dX9_hiccup_91 : decode cX9_hiccup 91 = .ok (.iload_n 3, 1) := by decide +kernel
theorem dX9_hiccup_92 : decode cX9_hiccup 92 = .ok (.bipush 6, 2) := by decide +kernel
theorem dX9_hiccup_94 : decode cX9_hiccup 94 = .ok (.idiv, 1) := by decide +kernel
theorem dX9_hiccup_95 : decode cX9_hiccup 95 = .ok (.ireturn, 1) := by decide +kernel
theorem dX9_hiccup_96 : decode cX9_hiccup 96 = .ok (.aload_n 0, 1) := by decide +kernel
theorem dX9_hiccup_97 : decode cX9_hiccup 97 = .ok (.getfield 54, 3) := by decide +kernel
theorem dX9_hiccup_100 : decode cX9_hiccup 100 = .ok (.getfield 170, 3) := by decide +kernel
theorem dX9_hiccup_103 : decode cX9_hiccup 103 = .ok (.iload_n 3, 1) := by decide +kernel
theorem dX9_hiccup_104 : decode cX9_hiccup 104 = .ok (.iaload, 1) := by decide +kernel
theorem dX9_hiccup_105 : decode cX9_hiccup 105 = .ok (.ireturn, 1) := by decide +kernel
theorem dX9_hiccup_106 : decode cX9_hiccup 106 = .ok (.aload_n 0, 1) := by decide +kernel
theorem dX9_hiccup_107 : decode cX9_hiccup 107 = .ok (.getfield 54, 3) := by decide +kernel
theorem dX9_hiccup_110 : decode cX9_hiccup 110 = .ok (.getfield 167, 3) := by decide +kernel
theorem dX9_hiccup_113 : decode cX9_hiccup 113 = .ok (.iload_n 3, 1) := by decide +kernel
theorem dX9_hiccup_114 : decode cX9_hiccup 114 = .ok (.iaload, 1) := by decide +kernel
theorem dX9_hiccup_115 : decode cX9_hiccup 115 = .ok (.ireturn, 1) := by decide +kernel
theorem dX9_minute_0 : decode cX9_minute 0 = .ok (.aload_n 0, 1) := by decide +kernel
theorem dX9_minute_1 : decode cX9_minute 1 = .ok (.iload_n 1, 1) := by decide +kernel
theorem dX9_minute_2 : decode cX9_minute 2 = .ok (.invokevirtual 127, 3) := by decide +kernel
theorem dX9_minute_5 : decode cX9_minute 5 = .ok (.ifCond .ne 6, 3) := by decide +kernel
theorem dX9_minute_8 : decode cX9_minute 8 = .ok (.bipush (-2), 2) := by decide +kernel
theorem dX9_minute_10 : decode cX9_minute 10 = .ok (.ireturn, 1) := by decide +kernel
theorem dX9_minute_11 : decode cX9_minute 11 = .ok (.iload_n 2, 1) := by decide +kernel
theorem dX9_minute_12 : decode cX9_minute 12 = .ok (.ifCond .ge 6, 3) := by decide +kernel
theorem dX9_minute_15 : decode cX9_minute 15 = .ok (.bipush (-3), 2) := by decide +kernel
theorem dX9_minute_17 : decode cX9_minute 17 = .ok (.ireturn, 1) := by decide +kernel
theorem dX9_minute_18 : decode cX9_minute 18 = .ok (.aload_n 0, 1) := by decide +kernel
theorem dX9_minute_19 : decode cX9_minute 19 = .ok (.invokevirtual 161, 3) := by decide +kernel
theorem dX9_minute_22 : decode cX9_minute 22 = .ok (.iload_n 2, 1) := by decide +kernel
theorem dX9_minute_23 : decode cX9_minute 23 = .ok (.istore_n 3, 1) := by decide +kernel
theorem dX9_minute_24 : decode cX9_minute 24 = .ok (.iconst 0, 1) := by decide +kernel
theorem dX9_minute_25 : decode cX9_minute 25 = .ok (.istore 4, 2) := by decide +kernel
theorem dX9_minute_27 : decode cX9_minute 27 = .ok (.iload 4, 2) := by decide +kernel
theorem dX9_minute_29 : decode cX9_minute 29 = .ok (.aload_n 0, 1) := by decide +kernel
theorem dX9_minute_30 : decode cX9_minute 30 = .ok (.getfield 61, 3) := by decide +kernel
theorem dX9_minute_33 : decode cX9_minute 33 = .ok (.getfield 238, 3) := by decide +kernel
theorem dX9_minute_36 : decode cX9_minute 36 = .ok (.if_icmp .ge 44, 3) := by decide +kernel
theorem dX9_minute_39 : decode cX9_minute 39 = .ok (.aload_n 0, 1) := by decide +kernel
theorem dX9_minute_40 : decode cX9_minute 40 = .ok (.getfield 61, 3) := by decide +kernel
theorem dX9_minute_43 : decode cX9_minute 43 = .ok (.getfield 258, 3) := by decide +kernel
theorem dX9_minute_46 : decode cX9_minute 46 = .ok (.iload 4, 2) := by decide +kernel
theorem dX9_minute_48 : decode cX9_minute 48 = .ok (.iaload, 1) := by decide +kernel
theorem dX9_minute_49 : decode cX9_minute 49 = .ok (.bipush 6, 2) := by decide +kernel
theorem dX9_minute_51 : decode cX9_minute 51 = .ok (.irem, 1) := by decide +kernel
theorem dX9_minute_52 : decode cX9_minute 52 = .ok (.iload_n 1, 1) := by decide +kernel
theorem dX9_minute_53 : decode cX9_minute 53 = .ok (.if_icmp .ne 21, 3) := by decide +kernel
theorem dX9_minute_56 : decode cX9_minute 56 = .ok (.iload_n 3, 1) := by decide +kernel
theorem dX9_minute_57 : decode cX9_minute 57 = .ok (.ifCond .ne 14, 3) := by decide +kernel
theorem dX9_minute_60 : decode cX9_minute 60 = .ok (.aload_n 0, 1) := by decide +kernel
theorem dX9_minute_61 : decode cX9_minute 61 = .ok (.getfield 61, 3) := by decide +kernel
theorem dX9_minute_64 : decode cX9_minute 64 = .ok (.getfield 261, 3) := by decide +kernel
theorem dX9_minute_67 : decode cX9_minute 67 = .ok (.iload 4, 2) := by decide +kernel
theorem dX9_minute_69 : decode cX9_minute 69 = .ok (.iaload, 1) := by decide +kernel
theorem dX9_minute_70 : decode cX9_minute 70 = .ok (.ireturn, 1) := by decide +kernel
theorem dX9_minute_71 : decode cX9_minute 71 = .ok (.iinc 3 (-1), 3) := by decide +kernel
theorem dX9_minute_74 : decode cX9_minute 74 = .ok (.iinc 4 1, 3) := by decide +kernel
theorem dX9_minute_77 : decode cX9_minute 77 = .ok (.goto (-50), 3) := by decide +kernel
theorem dX9_minute_80 : decode cX9_minute 80 = .ok (.iconst (-1), 1) := by decide +kernel
theorem dX9_minute_81 : decode cX9_minute 81 = .ok (.ireturn, 1) := by decide +kernel
theorem dX9_crowd_0 : decode cX9_crowd 0 = .ok (.iload_n 1, 1) := by decide +kernel
theorem dX9_crowd_1 : decode cX9_crowd 1 = .ok (.invokestatic 264, 3) := by decide +kernel
theorem dX9_crowd_4 : decode cX9_crowd 4 = .ok (.ifCond .ne 6, 3) := by decide +kernel
theorem dX9_crowd_7 : decode cX9_crowd 7 = .ok (.bipush (-3), 2) := by decide +kernel
theorem dX9_crowd_9 : decode cX9_crowd 9 = .ok (.ireturn, 1) := by decide +kernel
theorem dX9_crowd_10 : decode cX9_crowd 10 = .ok (.aload_n 0, 1) := by decide +kernel
theorem dX9_crowd_11 : decode cX9_crowd 11 = .ok (.invokevirtual 161, 3) := by decide +kernel
theorem dX9_crowd_14 : decode cX9_crowd 14 = .ok (.iconst 0, 1) := by decide +kernel
theorem dX9_crowd_15 : decode cX9_crowd 15 = .ok (.istore_n 2, 1) := by decide +kernel
theorem dX9_crowd_16 : decode cX9_crowd 16 = .ok (.iconst 0, 1) := by decide +kernel
theorem dX9_crowd_17 : decode cX9_crowd 17 = .ok (.istore_n 3, 1) := by decide +kernel
theorem dX9_crowd_18 : decode cX9_crowd 18 = .ok (.iload_n 3, 1) := by decide +kernel
theorem dX9_crowd_19 : decode cX9_crowd 19 = .ok (.aload_n 0, 1) := by decide +kernel
theorem dX9_crowd_20 : decode cX9_crowd 20 = .ok (.getfield 61, 3) := by decide +kernel
theorem dX9_crowd_23 : decode cX9_crowd 23 = .ok (.getfield 238, 3) := by decide +kernel
theorem dX9_crowd_26 : decode cX9_crowd 26 = .ok (.if_icmp .ge 25, 3) := by decide +kernel
theorem dX9_crowd_29 : decode cX9_crowd 29 = .ok (.aload_n 0, 1) := by decide +kernel
theorem dX9_crowd_30 : decode cX9_crowd 30 = .ok (.getfield 61, 3) := by decide +kernel
theorem dX9_crowd_33 : decode cX9_crowd 33 = .ok (.getfield 261, 3) := by decide +kernel
theorem dX9_crowd_36 : decode cX9_crowd 36 = .ok (.iload_n 3, 1) := by decide +kernel
theorem dX9_crowd_37 : decode cX9_crowd 37 = .ok (.iaload, 1) := by decide +kernel
theorem dX9_crowd_38 : decode cX9_crowd 38 = .ok (.iload_n 1, 1) := by decide +kernel
theorem dX9_crowd_39 : decode cX9_crowd 39 = .ok (.if_icmp .ne 6, 3) := by decide +kernel
theorem dX9_crowd_42 : decode cX9_crowd 42 = .ok (.iinc 2 1, 3) := by decide +kernel
theorem dX9_crowd_45 : decode cX9_crowd 45 = .ok (.iinc 3 1, 3) := by decide +kernel
theorem dX9_crowd_48 : decode cX9_crowd 48 = .ok (.goto (-30), 3) := by decide +kernel
theorem dX9_crowd_51 : decode cX9_crowd 51 = .ok (.iload_n 2, 1) := by decide +kernel
theorem dX9_crowd_52 : decode cX9_crowd 52 = .ok (.ireturn, 1) := by decide +kernel
theorem dX9_worst_0 : decode cX9_worst 0 = .ok (.aload_n 0, 1) := by decide +kernel
theorem dX9_worst_1 : decode cX9_worst 1 = .ok (.invokevirtual 161, 3) := by decide +kernel
theorem dX9_worst_4 : decode cX9_worst 4 = .ok (.iconst 0, 1) := by decide +kernel
theorem dX9_worst_5 : decode cX9_worst 5 = .ok (.istore_n 1, 1) := by decide +kernel
theorem dX9_worst_6 : decode cX9_worst 6 = .ok (.iconst (-1), 1) := by decide +kernel
theorem dX9_worst_7 : decode cX9_worst 7 = .ok (.istore_n 2, 1) := by decide +kernel
theorem dX9_worst_8 : decode cX9_worst 8 = .ok (.iconst 0, 1) := by decide +kernel
theorem dX9_worst_9 : decode cX9_worst 9 = .ok (.istore_n 3, 1) := by decide +kernel
theorem dX9_worst_10 : decode cX9_worst 10 = .ok (.iconst 0, 1) := by decide +kernel
theorem dX9_worst_11 : decode cX9_worst 11 = .ok (.istore 4, 2) := by decide +kernel
theorem dX9_worst_13 : decode cX9_worst 13 = .ok (.iload 4, 2) := by decide +kernel
theorem dX9_worst_15 : decode cX9_worst 15 = .ok (.aload_n 0, 1) := by decide +kernel
theorem dX9_worst_16 : decode cX9_worst 16 = .ok (.getfield 61, 3) := by decide +kernel
theorem dX9_worst_19 : decode cX9_worst 19 = .ok (.getfield 238, 3) := by decide +kernel
theorem dX9_worst_22 : decode cX9_worst 22 = .ok (.if_icmp .ge 60, 3) := by decide +kernel
theorem dX9_worst_25 : decode cX9_worst 25 = .ok (.aload_n 0, 1) := by decide +kernel
theorem dX9_worst_26 : decode cX9_worst 26 = .ok (.getfield 61, 3) := by decide +kernel
theorem dX9_worst_29 : decode cX9_worst 29 = .ok (.getfield 261, 3) := by decide +kernel
theorem dX9_worst_32 : decode cX9_worst 32 = .ok (.iload 4, 2) := by decide +kernel
theorem dX9_worst_34 : decode cX9_worst 34 = .ok (.iaload, 1) := by decide +kernel
theorem dX9_worst_35 : decode cX9_worst 35 = .ok (.aload_n 0, 1) := by decide +kernel
theorem dX9_worst_36 : decode cX9_worst 36 = .ok (.getfield 61, 3) := by decide +kernel
theorem dX9_worst_39 : decode cX9_worst 39 = .ok (.getfield 261, 3) := by decide +kernel
theorem dX9_worst_42 : decode cX9_worst 42 = .ok (.iload_n 3, 1) := by decide +kernel
theorem dX9_worst_43 : decode cX9_worst 43 = .ok (.iaload, 1) := by decide +kernel
theorem dX9_worst_44 : decode cX9_worst 44 = .ok (.if_icmp .eq 6, 3) := by decide +kernel
theorem dX9_worst_47 : decode cX9_worst 47 = .ok (.iload 4, 2) := by decide +kernel
theorem dX9_worst_49 : decode cX9_worst 49 = .ok (.istore_n 3, 1) := by decide +kernel
theorem dX9_worst_50 : decode cX9_worst 50 = .ok (.iload 4, 2) := by decide +kernel
theorem dX9_worst_52 : decode cX9_worst 52 = .ok (.iload_n 3, 1) := by decide +kernel
theorem dX9_worst_53 : decode cX9_worst 53 = .ok (.isub, 1) := by decide +kernel
theorem dX9_worst_54 : decode cX9_worst 54 = .ok (.iload_n 1, 1) := by decide +kernel
theorem dX9_worst_55 : decode cX9_worst 55 = .ok (.if_icmp .lt 21, 3) := by decide +kernel
theorem dX9_worst_58 : decode cX9_worst 58 = .ok (.iload 4, 2) := by decide +kernel
theorem dX9_worst_60 : decode cX9_worst 60 = .ok (.iload_n 3, 1) := by decide +kernel
theorem dX9_worst_61 : decode cX9_worst 61 = .ok (.isub, 1) := by decide +kernel
theorem dX9_worst_62 : decode cX9_worst 62 = .ok (.iconst 1, 1) := by decide +kernel
theorem dX9_worst_63 : decode cX9_worst 63 = .ok (.iadd, 1) := by decide +kernel
theorem dX9_worst_64 : decode cX9_worst 64 = .ok (.istore_n 1, 1) := by decide +kernel
theorem dX9_worst_65 : decode cX9_worst 65 = .ok (.aload_n 0, 1) := by decide +kernel
theorem dX9_worst_66 : decode cX9_worst 66 = .ok (.getfield 61, 3) := by decide +kernel
theorem dX9_worst_69 : decode cX9_worst 69 = .ok (.getfield 261, 3) := by decide +kernel
theorem dX9_worst_72 : decode cX9_worst 72 = .ok (.iload 4, 2) := by decide +kernel
theorem dX9_worst_74 : decode cX9_worst 74 = .ok (.iaload, 1) := by decide +kernel
theorem dX9_worst_75 : decode cX9_worst 75 = .ok (.istore_n 2, 1) := by decide +kernel
theorem dX9_worst_76 : decode cX9_worst 76 = .ok (.iinc 4 1, 3) := by decide +kernel
theorem dX9_worst_79 : decode cX9_worst 79 = .ok (.goto (-66), 3) := by decide +kernel
theorem dX9_worst_82 : decode cX9_worst 82 = .ok (.iload_n 2, 1) := by decide +kernel
theorem dX9_worst_83 : decode cX9_worst 83 = .ok (.ireturn, 1) := by decide +kernel
theorem dX9_answers_0 : decode cX9_answers 0 = .ok (.aload_n 0, 1) := by decide +kernel
theorem dX9_answers_1 : decode cX9_answers 1 = .ok (.iload_n 1, 1) := by decide +kernel
theorem dX9_answers_2 : decode cX9_answers 2 = .ok (.invokevirtual 127, 3) := by decide +kernel
theorem dX9_answers_5 : decode cX9_answers 5 = .ok (.ifCond .ne 6, 3) := by decide +kernel
theorem dX9_answers_8 : decode cX9_answers 8 = .ok (.bipush (-2), 2) := by decide +kernel
theorem dX9_answers_10 : decode cX9_answers 10 = .ok (.ireturn, 1) := by decide +kernel
theorem dX9_answers_11 : decode cX9_answers 11 = .ok (.aload_n 0, 1) := by decide +kernel
theorem dX9_answers_12 : decode cX9_answers 12 = .ok (.invokevirtual 161, 3) := by decide +kernel
theorem dX9_answers_15 : decode cX9_answers 15 = .ok (.aload_n 0, 1) := by decide +kernel
theorem dX9_answers_16 : decode cX9_answers 16 = .ok (.getfield 61, 3) := by decide +kernel
theorem dX9_answers_19 : decode cX9_answers 19 = .ok (.getfield 267, 3) := by decide +kernel
theorem dX9_answers_22 : decode cX9_answers 22 = .ok (.iload_n 1, 1) := by decide +kernel
theorem dX9_answers_23 : decode cX9_answers 23 = .ok (.iaload, 1) := by decide +kernel
theorem dX9_answers_24 : decode cX9_answers 24 = .ok (.ireturn, 1) := by decide +kernel
theorem dX9_nobody_0 : decode cX9_nobody 0 = .ok (.aload_n 0, 1) := by decide +kernel
theorem dX9_nobody_1 : decode cX9_nobody 1 = .ok (.invokevirtual 161, 3) := by decide +kernel
theorem dX9_nobody_4 : decode cX9_nobody 4 = .ok (.aload_n 0, 1) := by decide +kernel
theorem dX9_nobody_5 : decode cX9_nobody 5 = .ok (.getfield 61, 3) := by decide +kernel
theorem dX9_nobody_8 : decode cX9_nobody 8 = .ok (.aload_n 0, 1) := by decide +kernel
theorem dX9_nobody_9 : decode cX9_nobody 9 = .ok (.getfield 16, 3) := by decide +kernel
theorem dX9_nobody_12 : decode cX9_nobody 12 = .ok (.getfield 241, 3) := by decide +kernel
theorem dX9_nobody_15 : decode cX9_nobody 15 = .ok (.invokevirtual 244, 3) := by decide +kernel
theorem dX9_nobody_18 : decode cX9_nobody 18 = .ok (.ireturn, 1) := by decide +kernel
theorem dX9_who_0 : decode cX9_who 0 = .ok (.aload_n 0, 1) := by decide +kernel
theorem dX9_who_1 : decode cX9_who 1 = .ok (.iload_n 1, 1) := by decide +kernel
theorem dX9_who_2 : decode cX9_who 2 = .ok (.invokevirtual 127, 3) := by decide +kernel
theorem dX9_who_5 : decode cX9_who 5 = .ok (.ifCond .ne 6, 3) := by decide +kernel
theorem dX9_who_8 : decode cX9_who 8 = .ok (.bipush (-2), 2) := by decide +kernel
theorem dX9_who_10 : decode cX9_who 10 = .ok (.ireturn, 1) := by decide +kernel
theorem dX9_who_11 : decode cX9_who 11 = .ok (.iload_n 2, 1) := by decide +kernel
theorem dX9_who_12 : decode cX9_who 12 = .ok (.i2l, 1) := by decide +kernel
theorem dX9_who_13 : decode cX9_who 13 = .ok (.invokestatic 270, 3) := by decide +kernel
theorem dX9_who_16 : decode cX9_who 16 = .ok (.ifCond .eq 13, 3) := by decide +kernel
theorem dX9_who_19 : decode cX9_who 19 = .ok (.iload_n 3, 1) := by decide +kernel
theorem dX9_who_20 : decode cX9_who 20 = .ok (.ifCond .lt 9, 3) := by decide +kernel
theorem dX9_who_23 : decode cX9_who 23 = .ok (.iload_n 3, 1) := by decide +kernel
theorem dX9_who_24 : decode cX9_who 24 = .ok (.bipush 9, 2) := by decide +kernel
theorem dX9_who_26 : decode cX9_who 26 = .ok (.if_icmp .le 6, 3) := by decide +kernel
theorem dX9_who_29 : decode cX9_who 29 = .ok (.bipush (-3), 2) := by decide +kernel
theorem dX9_who_31 : decode cX9_who 31 = .ok (.ireturn, 1) := by decide +kernel
theorem dX9_who_32 : decode cX9_who 32 = .ok (.aload_n 0, 1) := by decide +kernel
theorem dX9_who_33 : decode cX9_who 33 = .ok (.invokevirtual 161, 3) := by decide +kernel
theorem dX9_who_36 : decode cX9_who 36 = .ok (.iconst 0, 1) := by decide +kernel
theorem dX9_who_37 : decode cX9_who 37 = .ok (.istore 4, 2) := by decide +kernel
theorem dX9_who_39 : decode cX9_who 39 = .ok (.iconst 0, 1) := by decide +kernel
theorem dX9_who_40 : decode cX9_who 40 = .ok (.istore 5, 2) := by decide +kernel
theorem dX9_who_42 : decode cX9_who 42 = .ok (.iload 5, 2) := by decide +kernel
theorem dX9_who_44 : decode cX9_who 44 = .ok (.aload_n 0, 1) := by decide +kernel
theorem dX9_who_45 : decode cX9_who 45 = .ok (.getfield 16, 3) := by decide +kernel
theorem dX9_who_48 : decode cX9_who 48 = .ok (.getfield 241, 3) := by decide +kernel
theorem dX9_who_51 : decode cX9_who 51 = .ok (.if_icmp .ge 61, 3) := by decide +kernel
theorem dX9_who_54 : decode cX9_who 54 = .ok (.iload 5, 2) := by decide +kernel
theorem dX9_who_56 : decode cX9_who 56 = .ok (.bipush 6, 2) := by decide +kernel
theorem dX9_who_58 : decode cX9_who 58 = .ok (.imul, 1) := by decide +kernel
theorem dX9_who_59 : decode cX9_who 59 = .ok (.iload_n 1, 1) := by decide +kernel
theorem dX9_who_60 : decode cX9_who 60 = .ok (.iadd, 1) := by decide +kernel
theorem dX9_who_61 : decode cX9_who 61 = .ok (.istore 6, 2) := by decide +kernel
theorem dX9_who_63 : decode cX9_who 63 = .ok (.iload 5, 2) := by decide +kernel
theorem dX9_who_65 : decode cX9_who 65 = .ok (.iload_n 1, 1) := by decide +kernel
theorem dX9_who_66 : decode cX9_who 66 = .ok (.if_icmp .eq 40, 3) := by decide +kernel
theorem dX9_who_69 : decode cX9_who 69 = .ok (.aload_n 0, 1) := by decide +kernel
theorem dX9_who_70 : decode cX9_who 70 = .ok (.getfield 54, 3) := by decide +kernel
theorem dX9_who_73 : decode cX9_who 73 = .ok (.getfield 167, 3) := by decide +kernel
theorem dX9_who_76 : decode cX9_who 76 = .ok (.iload 6, 2) := by decide +kernel
theorem dX9_who_78 : decode cX9_who 78 = .ok (.iaload, 1) := by decide +kernel
theorem dX9_who_79 : decode cX9_who 79 = .ok (.iload_n 2, 1) := by decide +kernel
theorem dX9_who_80 : decode cX9_who 80 = .ok (.if_icmp .ne 26, 3) := by decide +kernel
theorem dX9_who_83 : decode cX9_who 83 = .ok (.aload_n 0, 1) := by decide +kernel
theorem dX9_who_84 : decode cX9_who 84 = .ok (.getfield 54, 3) := by decide +kernel
theorem dX9_who_87 : decode cX9_who 87 = .ok (.getfield 170, 3) := by decide +kernel
theorem dX9_who_90 : decode cX9_who 90 = .ok (.iload 6, 2) := by decide +kernel
theorem dX9_who_92 : decode cX9_who 92 = .ok (.iaload, 1) := by decide +kernel
theorem dX9_who_93 : decode cX9_who 93 = .ok (.iload_n 3, 1) := by decide +kernel
theorem dX9_who_94 : decode cX9_who 94 = .ok (.if_icmp .ne 12, 3) := by decide +kernel
theorem dX9_who_97 : decode cX9_who 97 = .ok (.iload 4, 2) := by decide +kernel
theorem dX9_who_99 : decode cX9_who 99 = .ok (.iconst 1, 1) := by decide +kernel
theorem dX9_who_100 : decode cX9_who 100 = .ok (.iload 5, 2) := by decide +kernel
theorem dX9_who_102 : decode cX9_who 102 = .ok (.ishl, 1) := by decide +kernel
theorem dX9_who_103 : decode cX9_who 103 = .ok (.ior, 1) := by decide +kernel
theorem dX9_who_104 : decode cX9_who 104 = .ok (.istore 4, 2) := by decide +kernel
theorem dX9_who_106 : decode cX9_who 106 = .ok (.iinc 5 1, 3) := by decide +kernel
theorem dX9_who_109 : decode cX9_who 109 = .ok (.goto (-67), 3) := by decide +kernel
theorem dX9_who_112 : decode cX9_who 112 = .ok (.iload 4, 2) := by decide +kernel
theorem dX9_who_114 : decode cX9_who 114 = .ok (.ireturn, 1) := by decide +kernel
theorem dX9_stops_0 : decode cX9_stops 0 = .ok (.aload_n 0, 1) := by decide +kernel
theorem dX9_stops_1 : decode cX9_stops 1 = .ok (.iload_n 1, 1) := by decide +kernel
theorem dX9_stops_2 : decode cX9_stops 2 = .ok (.invokevirtual 127, 3) := by decide +kernel
theorem dX9_stops_5 : decode cX9_stops 5 = .ok (.ifCond .ne 6, 3) := by decide +kernel
theorem dX9_stops_8 : decode cX9_stops 8 = .ok (.bipush (-2), 2) := by decide +kernel
theorem dX9_stops_10 : decode cX9_stops 10 = .ok (.ireturn, 1) := by decide +kernel
theorem dX9_stops_11 : decode cX9_stops 11 = .ok (.iload_n 2, 1) := by decide +kernel
theorem dX9_stops_12 : decode cX9_stops 12 = .ok (.invokestatic 264, 3) := by decide +kernel
theorem dX9_stops_15 : decode cX9_stops 15 = .ok (.ifCond .ne 6, 3) := by decide +kernel
theorem dX9_stops_18 : decode cX9_stops 18 = .ok (.bipush (-3), 2) := by decide +kernel
theorem dX9_stops_20 : decode cX9_stops 20 = .ok (.ireturn, 1) := by decide +kernel
theorem dX9_stops_21 : decode cX9_stops 21 = .ok (.aload_n 0, 1) := by decide +kernel
theorem dX9_stops_22 : decode cX9_stops 22 = .ok (.invokevirtual 161, 3) := by decide +kernel
theorem dX9_stops_25 : decode cX9_stops 25 = .ok (.aload_n 0, 1) := by decide +kernel
theorem dX9_stops_26 : decode cX9_stops 26 = .ok (.iload_n 1, 1) := by decide +kernel
theorem dX9_stops_27 : decode cX9_stops 27 = .ok (.iload_n 2, 1) := by decide +kernel
theorem dX9_stops_28 : decode cX9_stops 28 = .ok (.iconst (-1), 1) := by decide +kernel
theorem dX9_stops_29 : decode cX9_stops 29 = .ok (.invokevirtual 274, 3) := by decide +kernel
theorem dX9_stops_32 : decode cX9_stops 32 = .ok (.ireturn, 1) := by decide +kernel
theorem dX9_stopBy_0 : decode cX9_stopBy 0 = .ok (.aload_n 0, 1) := by decide +kernel
theorem dX9_stopBy_1 : decode cX9_stopBy 1 = .ok (.iload_n 1, 1) := by decide +kernel
theorem dX9_stopBy_2 : decode cX9_stopBy 2 = .ok (.invokevirtual 127, 3) := by decide +kernel
theorem dX9_stopBy_5 : decode cX9_stopBy 5 = .ok (.ifCond .ne 6, 3) := by decide +kernel
theorem dX9_stopBy_8 : decode cX9_stopBy 8 = .ok (.bipush (-2), 2) := by decide +kernel
theorem dX9_stopBy_10 : decode cX9_stopBy 10 = .ok (.ireturn, 1) := by decide +kernel
theorem dX9_stopBy_11 : decode cX9_stopBy 11 = .ok (.iload_n 2, 1) := by decide +kernel
theorem dX9_stopBy_12 : decode cX9_stopBy 12 = .ok (.invokestatic 264, 3) := by decide +kernel
theorem dX9_stopBy_15 : decode cX9_stopBy 15 = .ok (.ifCond .eq 7, 3) := by decide +kernel
theorem dX9_stopBy_18 : decode cX9_stopBy 18 = .ok (.iload_n 3, 1) := by decide +kernel
theorem dX9_stopBy_19 : decode cX9_stopBy 19 = .ok (.ifCond .ge 6, 3) := by decide +kernel
theorem dX9_stopBy_22 : decode cX9_stopBy 22 = .ok (.bipush (-3), 2) := by decide +kernel
theorem dX9_stopBy_24 : decode cX9_stopBy 24 = .ok (.ireturn, 1) := by decide +kernel
theorem dX9_stopBy_25 : decode cX9_stopBy 25 = .ok (.aload_n 0, 1) := by decide +kernel
theorem dX9_stopBy_26 : decode cX9_stopBy 26 = .ok (.invokevirtual 161, 3) := by decide +kernel
theorem dX9_stopBy_29 : decode cX9_stopBy 29 = .ok (.aload_n 0, 1) := by decide +kernel
theorem dX9_stopBy_30 : decode cX9_stopBy 30 = .ok (.iload_n 1, 1) := by decide +kernel
theorem dX9_stopBy_31 : decode cX9_stopBy 31 = .ok (.iload_n 2, 1) := by decide +kernel
theorem dX9_stopBy_32 : decode cX9_stopBy 32 = .ok (.iload_n 3, 1) := by decide +kernel
theorem dX9_stopBy_33 : decode cX9_stopBy 33 = .ok (.invokevirtual 274, 3) := by decide +kernel
theorem dX9_stopBy_36 : decode cX9_stopBy 36 = .ok (.ireturn, 1) := by decide +kernel
theorem dX9_quiet_0 : decode cX9_quiet 0 = .ok (.aload_n 0, 1) := by decide +kernel
theorem dX9_quiet_1 : decode cX9_quiet 1 = .ok (.iload_n 1, 1) := by decide +kernel
theorem dX9_quiet_2 : decode cX9_quiet 2 = .ok (.invokevirtual 127, 3) := by decide +kernel
theorem dX9_quiet_5 : decode cX9_quiet 5 = .ok (.ifCond .eq 12, 3) := by decide +kernel
theorem dX9_quiet_8 : decode cX9_quiet 8 = .ok (.iload_n 2, 1) := by decide +kernel
theorem dX9_quiet_9 : decode cX9_quiet 9 = .ok (.ifCond .lt 8, 3) := by decide +kernel
theorem dX9_quiet_12 : decode cX9_quiet 12 = .ok (.iload_n 2, 1) := by decide +kernel
theorem dX9_quiet_13 : decode cX9_quiet 13 = .ok (.iconst 1, 1) := by decide +kernel
theorem dX9_quiet_14 : decode cX9_quiet 14 = .ok (.if_icmp .le 6, 3) := by decide +kernel
theorem dX9_quiet_17 : decode cX9_quiet 17 = .ok (.bipush (-2), 2) := by decide +kernel
theorem dX9_quiet_19 : decode cX9_quiet 19 = .ok (.ireturn, 1) := by decide +kernel
theorem dX9_quiet_20 : decode cX9_quiet 20 = .ok (.aload_n 0, 1) := by decide +kernel
theorem dX9_quiet_21 : decode cX9_quiet 21 = .ok (.getfield 82, 3) := by decide +kernel
theorem dX9_quiet_24 : decode cX9_quiet 24 = .ok (.aload_n 0, 1) := by decide +kernel
theorem dX9_quiet_25 : decode cX9_quiet 25 = .ok (.getfield 16, 3) := by decide +kernel
theorem dX9_quiet_28 : decode cX9_quiet 28 = .ok (.getfield 131, 3) := by decide +kernel
theorem dX9_quiet_31 : decode cX9_quiet 31 = .ok (.invokevirtual 176, 3) := by decide +kernel
theorem dX9_quiet_34 : decode cX9_quiet 34 = .ok (.iconst 0, 1) := by decide +kernel
theorem dX9_quiet_35 : decode cX9_quiet 35 = .ok (.istore_n 3, 1) := by decide +kernel
theorem dX9_quiet_36 : decode cX9_quiet 36 = .ok (.sipush 513, 3) := by decide +kernel
theorem dX9_quiet_39 : decode cX9_quiet 39 = .ok (.istore 4, 2) := by decide +kernel
theorem dX9_quiet_41 : decode cX9_quiet 41 = .ok (.iconst 0, 1) := by decide +kernel
theorem dX9_quiet_42 : decode cX9_quiet 42 = .ok (.istore 5, 2) := by decide +kernel
theorem dX9_quiet_44 : decode cX9_quiet 44 = .ok (.iload 5, 2) := by decide +kernel
theorem dX9_quiet_46 : decode cX9_quiet 46 = .ok (.aload_n 0, 1) := by decide +kernel
theorem dX9_quiet_47 : decode cX9_quiet 47 = .ok (.getfield 16, 3) := by decide +kernel
theorem dX9_quiet_50 : decode cX9_quiet 50 = .ok (.invokevirtual 278, 3) := by decide +kernel
theorem dX9_quiet_53 : decode cX9_quiet 53 = .ok (.if_icmp .ge 82, 3) := by decide +kernel
theorem dX9_quiet_56 : decode cX9_quiet 56 = .ok (.aload_n 0, 1) := by decide +kernel
theorem dX9_quiet_57 : decode cX9_quiet 57 = .ok (.getfield 82, 3) := by decide +kernel
theorem dX9_quiet_60 : decode cX9_quiet 60 = .ok (.getfield 134, 3) := by decide +kernel
theorem dX9_quiet_63 : decode cX9_quiet 63 = .ok (.iload_n 1, 1) := by decide +kernel
theorem dX9_quiet_64 : decode cX9_quiet 64 = .ok (.iload 5, 2) := by decide +kernel
theorem dX9_quiet_66 : decode cX9_quiet 66 = .ok (.iastore, 1) := by decide +kernel
theorem dX9_quiet_67 : decode cX9_quiet 67 = .ok (.aload_n 0, 1) := by decide +kernel
theorem dX9_quiet_68 : decode cX9_quiet 68 = .ok (.getfield 86, 3) := by decide +kernel
theorem dX9_quiet_71 : decode cX9_quiet 71 = .ok (.aload_n 0, 1) := by decide +kernel
theorem dX9_quiet_72 : decode cX9_quiet 72 = .ok (.getfield 16, 3) := by decide +kernel
theorem dX9_quiet_75 : decode cX9_quiet 75 = .ok (.aload_n 0, 1) := by decide +kernel
theorem dX9_quiet_76 : decode cX9_quiet 76 = .ok (.getfield 82, 3) := by decide +kernel
theorem dX9_quiet_79 : decode cX9_quiet 79 = .ok (.invokevirtual 230, 3) := by decide +kernel
theorem dX9_quiet_82 : decode cX9_quiet 82 = .ok (.aload_n 0, 1) := by decide +kernel
theorem dX9_quiet_83 : decode cX9_quiet 83 = .ok (.getfield 89, 3) := by decide +kernel
theorem dX9_quiet_86 : decode cX9_quiet 86 = .ok (.aload_n 0, 1) := by decide +kernel
theorem dX9_quiet_87 : decode cX9_quiet 87 = .ok (.getfield 82, 3) := by decide +kernel
theorem dX9_quiet_90 : decode cX9_quiet 90 = .ok (.aload_n 0, 1) := by decide +kernel
theorem dX9_quiet_91 : decode cX9_quiet 91 = .ok (.getfield 86, 3) := by decide +kernel
theorem dX9_quiet_94 : decode cX9_quiet 94 = .ok (.bipush 99, 2) := by decide +kernel
theorem dX9_quiet_96 : decode cX9_quiet 96 = .ok (.iconst (-1), 1) := by decide +kernel
theorem dX9_quiet_97 : decode cX9_quiet 97 = .ok (.invokevirtual 234, 3) := by decide +kernel
theorem dX9_quiet_100 : decode cX9_quiet 100 = .ok (.pop, 1) := by decide +kernel
theorem dX9_quiet_101 : decode cX9_quiet 101 = .ok (.aload_n 0, 1) := by decide +kernel
theorem dX9_quiet_102 : decode cX9_quiet 102 = .ok (.getfield 89, 3) := by decide +kernel
theorem dX9_quiet_105 : decode cX9_quiet 105 = .ok (.getfield 255, 3) := by decide +kernel
theorem dX9_quiet_108 : decode cX9_quiet 108 = .ok (.iload_n 1, 1) := by decide +kernel
theorem dX9_quiet_109 : decode cX9_quiet 109 = .ok (.iaload, 1) := by decide +kernel
theorem dX9_quiet_110 : decode cX9_quiet 110 = .ok (.iload 4, 2) := by decide +kernel
theorem dX9_quiet_112 : decode cX9_quiet 112 = .ok (.if_icmp .ge 17, 3) := by decide +kernel
theorem dX9_quiet_115 : decode cX9_quiet 115 = .ok (.aload_n 0, 1) := by decide +kernel
theorem dX9_quiet_116 : decode cX9_quiet 116 = .ok (.getfield 89, 3) := by decide +kernel
theorem dX9_quiet_119 : decode cX9_quiet 119 = .ok (.getfield 255, 3) := by decide +kernel
theorem dX9_quiet_122 : decode cX9_quiet 122 = .ok (.iload_n 1, 1) := by decide +kernel
theorem dX9_quiet_123 : decode cX9_quiet 123 = .ok (.iaload, 1) := by decide +kernel
theorem dX9_quiet_124 : decode cX9_quiet 124 = .ok (.istore 4, 2) := by decide +kernel
theorem dX9_quiet_126 : decode cX9_quiet 126 = .ok (.iload 5, 2) := by decide +kernel
theorem dX9_quiet_128 : decode cX9_quiet 128 = .ok (.istore_n 3, 1) := by decide +kernel
theorem dX9_quiet_129 : decode cX9_quiet 129 = .ok (.iinc 5 1, 3) := by decide +kernel
theorem dX9_quiet_132 : decode cX9_quiet 132 = .ok (.goto (-88), 3) := by decide +kernel
theorem dX9_quiet_135 : decode cX9_quiet 135 = .ok (.iload_n 2, 1) := by decide +kernel
theorem dX9_quiet_136 : decode cX9_quiet 136 = .ok (.ifCond .ne 7, 3) := by decide +kernel
theorem dX9_quiet_139 : decode cX9_quiet 139 = .ok (.iload_n 3, 1) := by decide +kernel
theorem dX9_quiet_140 : decode cX9_quiet 140 = .ok (.goto 5, 3) := by decide +kernel
theorem dX9_quiet_143 : decode cX9_quiet 143 = .ok (.iload 4, 2) := by decide +kernel
theorem dX9_quiet_145 : decode cX9_quiet 145 = .ok (.ireturn, 1) := by decide +kernel
theorem dX9_atOnce_0 : decode cX9_atOnce 0 = .ok (.aload_n 0, 1) := by decide +kernel
theorem dX9_atOnce_1 : decode cX9_atOnce 1 = .ok (.iload_n 1, 1) := by decide +kernel
theorem dX9_atOnce_2 : decode cX9_atOnce 2 = .ok (.invokevirtual 127, 3) := by decide +kernel
theorem dX9_atOnce_5 : decode cX9_atOnce 5 = .ok (.ifCond .ne 6, 3) := by decide +kernel
theorem dX9_atOnce_8 : decode cX9_atOnce 8 = .ok (.bipush (-2), 2) := by decide +kernel
theorem dX9_atOnce_10 : decode cX9_atOnce 10 = .ok (.ireturn, 1) := by decide +kernel
theorem dX9_atOnce_11 : decode cX9_atOnce 11 = .ok (.iload_n 2, 1) := by decide +kernel
theorem dX9_atOnce_12 : decode cX9_atOnce 12 = .ok (.ifCond .lt 16, 3) := by decide +kernel
theorem dX9_atOnce_15 : decode cX9_atOnce 15 = .ok (.iload_n 2, 1) := by decide +kernel
theorem dX9_atOnce_16 : decode cX9_atOnce 16 = .ok (.iconst 1, 1) := by decide +kernel
theorem dX9_atOnce_17 : decode cX9_atOnce 17 = .ok (.aload_n 0, 1) := by decide +kernel
theorem dX9_atOnce_18 : decode cX9_atOnce 18 = .ok (.getfield 16, 3) := by decide +kernel
theorem dX9_atOnce_21 : decode cX9_atOnce 21 = .ok (.getfield 241, 3) := by decide +kernel
theorem dX9_atOnce_24 : decode cX9_atOnce 24 = .ok (.ishl, 1) := by decide +kernel
theorem dX9_atOnce_25 : decode cX9_atOnce 25 = .ok (.if_icmp .lt 6, 3) := by decide +kernel
theorem dX9_atOnce_28 : decode cX9_atOnce 28 = .ok (.bipush (-3), 2) := by decide +kernel
theorem dX9_atOnce_30 : decode cX9_atOnce 30 = .ok (.ireturn, 1) := by decide +kernel
theorem dX9_atOnce_31 : decode cX9_atOnce 31 = .ok (.iload_n 2, 1) := by decide +kernel
theorem dX9_atOnce_32 : decode cX9_atOnce 32 = .ok (.iconst 1, 1) := by decide +kernel
theorem dX9_atOnce_33 : decode cX9_atOnce 33 = .ok (.iload_n 1, 1) := by decide +kernel
theorem dX9_atOnce_34 : decode cX9_atOnce 34 = .ok (.ishl, 1) := by decide +kernel
theorem dX9_atOnce_35 : decode cX9_atOnce 35 = .ok (.iconst (-1), 1) := by decide +kernel
theorem dX9_atOnce_36 : decode cX9_atOnce 36 = .ok (.ixor, 1) := by decide +kernel
theorem dX9_atOnce_37 : decode cX9_atOnce 37 = .ok (.iand, 1) := by decide +kernel
theorem dX9_atOnce_38 : decode cX9_atOnce 38 = .ok (.istore_n 3, 1) := by decide +kernel
theorem dX9_atOnce_39 : decode cX9_atOnce 39 = .ok (.iload_n 3, 1) := by decide +kernel
theorem dX9_atOnce_40 : decode cX9_atOnce 40 = .ok (.ifCond .ne 5, 3) := by decide +kernel
theorem dX9_atOnce_43 : decode cX9_atOnce 43 = .ok (.iconst 0, 1) := by decide +kernel
theorem dX9_atOnce_44 : decode cX9_atOnce 44 = .ok (.ireturn, 1) := by decide +kernel
theorem dX9_atOnce_45 : decode cX9_atOnce 45 = .ok (.aload_n 0, 1) := by decide +kernel
theorem dX9_atOnce_46 : decode cX9_atOnce 46 = .ok (.invokevirtual 281, 3) := by decide +kernel
theorem dX9_atOnce_49 : decode cX9_atOnce 49 = .ok (.iconst 0, 1) := by decide +kernel
theorem dX9_atOnce_50 : decode cX9_atOnce 50 = .ok (.istore 4, 2) := by decide +kernel
theorem dX9_atOnce_52 : decode cX9_atOnce 52 = .ok (.iconst 0, 1) := by decide +kernel
theorem dX9_atOnce_53 : decode cX9_atOnce 53 = .ok (.istore 5, 2) := by decide +kernel
theorem dX9_atOnce_55 : decode cX9_atOnce 55 = .ok (.iload 5, 2) := by decide +kernel
theorem dX9_atOnce_57 : decode cX9_atOnce 57 = .ok (.aload_n 0, 1) := by decide +kernel
theorem dX9_atOnce_58 : decode cX9_atOnce 58 = .ok (.getfield 16, 3) := by decide +kernel
theorem dX9_atOnce_61 : decode cX9_atOnce 61 = .ok (.invokevirtual 278, 3) := by decide +kernel
theorem dX9_atOnce_64 : decode cX9_atOnce 64 = .ok (.if_icmp .ge 32, 3) := by decide +kernel
theorem dX9_atOnce_67 : decode cX9_atOnce 67 = .ok (.aload_n 0, 1) := by decide +kernel
theorem dX9_atOnce_68 : decode cX9_atOnce 68 = .ok (.getfield 82, 3) := by decide +kernel
theorem dX9_atOnce_71 : decode cX9_atOnce 71 = .ok (.getfield 134, 3) := by decide +kernel
theorem dX9_atOnce_74 : decode cX9_atOnce 74 = .ok (.iload_n 1, 1) := by decide +kernel
theorem dX9_atOnce_75 : decode cX9_atOnce 75 = .ok (.iload 5, 2) := by decide +kernel
theorem dX9_atOnce_77 : decode cX9_atOnce 77 = .ok (.iastore, 1) := by decide +kernel
theorem dX9_atOnce_78 : decode cX9_atOnce 78 = .ok (.aload_n 0, 1) := by decide +kernel
theorem dX9_atOnce_79 : decode cX9_atOnce 79 = .ok (.iload_n 1, 1) := by decide +kernel
theorem dX9_atOnce_80 : decode cX9_atOnce 80 = .ok (.iload_n 3, 1) := by decide +kernel
theorem dX9_atOnce_81 : decode cX9_atOnce 81 = .ok (.invokevirtual 284, 3) := by decide +kernel
theorem dX9_atOnce_84 : decode cX9_atOnce 84 = .ok (.ifCond .eq 6, 3) := by decide +kernel
theorem dX9_atOnce_87 : decode cX9_atOnce 87 = .ok (.iinc 4 1, 3) := by decide +kernel
theorem dX9_atOnce_90 : decode cX9_atOnce 90 = .ok (.iinc 5 1, 3) := by decide +kernel
theorem dX9_atOnce_93 : decode cX9_atOnce 93 = .ok (.goto (-38), 3) := by decide +kernel
theorem dX9_atOnce_96 : decode cX9_atOnce 96 = .ok (.iload 4, 2) := by decide +kernel
theorem dX9_atOnce_98 : decode cX9_atOnce 98 = .ok (.ireturn, 1) := by decide +kernel
theorem dX9_silence_0 : decode cX9_silence 0 = .ok (.aload_n 0, 1) := by decide +kernel
theorem dX9_silence_1 : decode cX9_silence 1 = .ok (.iload_n 1, 1) := by decide +kernel
theorem dX9_silence_2 : decode cX9_silence 2 = .ok (.invokevirtual 127, 3) := by decide +kernel
theorem dX9_silence_5 : decode cX9_silence 5 = .ok (.ifCond .eq 12, 3) := by decide +kernel
theorem dX9_silence_8 : decode cX9_silence 8 = .ok (.iload_n 2, 1) := by decide +kernel
theorem dX9_silence_9 : decode cX9_silence 9 = .ok (.ifCond .lt 8, 3) := by decide +kernel
theorem dX9_silence_12 : decode cX9_silence 12 = .ok (.iload_n 2, 1) := by decide +kernel
theorem dX9_silence_13 : decode cX9_silence 13 = .ok (.iconst 2, 1) := by decide +kernel
theorem dX9_silence_14 : decode cX9_silence 14 = .ok (.if_icmp .le 6, 3) := by decide +kernel
theorem dX9_silence_17 : decode cX9_silence 17 = .ok (.bipush (-2), 2) := by decide +kernel
theorem dX9_silence_19 : decode cX9_silence 19 = .ok (.ireturn, 1) := by decide +kernel
theorem dX9_silence_20 : decode cX9_silence 20 = .ok (.aload_n 0, 1) := by decide +kernel
theorem dX9_silence_21 : decode cX9_silence 21 = .ok (.invokevirtual 161, 3) := by decide +kernel
theorem dX9_silence_24 : decode cX9_silence 24 = .ok (.aload_n 0, 1) := by decide +kernel
theorem dX9_silence_25 : decode cX9_silence 25 = .ok (.getfield 75, 3) := by decide +kernel
theorem dX9_silence_28 : decode cX9_silence 28 = .ok (.getfield 288, 3) := by decide +kernel
theorem dX9_silence_31 : decode cX9_silence 31 = .ok (.iload_n 1, 1) := by decide +kernel
theorem dX9_silence_32 : decode cX9_silence 32 = .ok (.if_icmp .eq 41, 3) := by decide +kernel
theorem dX9_silence_35 : decode cX9_silence 35 = .ok (.aload_n 0, 1) := by decide +kernel
theorem dX9_silence_36 : decode cX9_silence 36 = .ok (.getfield 75, 3) := by decide +kernel
theorem dX9_silence_39 : decode cX9_silence 39 = .ok (.iload_n 1, 1) := by decide +kernel
theorem dX9_silence_40 : decode cX9_silence 40 = .ok (.aload_n 0, 1) := by decide +kernel
theorem dX9_silence_41 : decode cX9_silence 41 = .ok (.getfield 16, 3) := by decide +kernel
theorem dX9_silence_44 : decode cX9_silence 44 = .ok (.aload_n 0, 1) := by decide +kernel
theorem dX9_silence_45 : decode cX9_silence 45 = .ok (.getfield 54, 3) := by decide +kernel
theorem dX9_silence_48 : decode cX9_silence 48 = .ok (.aload_n 0, 1) := by decide +kernel
theorem dX9_silence_49 : decode cX9_silence 49 = .ok (.getfield 82, 3) := by decide +kernel
theorem dX9_silence_52 : decode cX9_silence 52 = .ok (.aload_n 0, 1) := by decide +kernel
theorem dX9_silence_53 : decode cX9_silence 53 = .ok (.getfield 89, 3) := by decide +kernel
theorem dX9_silence_56 : decode cX9_silence 56 = .ok (.invokevirtual 291, 3) := by decide +kernel
theorem dX9_silence_59 : decode cX9_silence 59 = .ok (.aload_n 0, 1) := by decide +kernel
theorem dX9_silence_60 : decode cX9_silence 60 = .ok (.getfield 75, 3) := by decide +kernel
theorem dX9_silence_63 : decode cX9_silence 63 = .ok (.invokevirtual 295, 3) := by decide +kernel
theorem dX9_silence_66 : decode cX9_silence 66 = .ok (.aload_n 0, 1) := by decide +kernel
theorem dX9_silence_67 : decode cX9_silence 67 = .ok (.getfield 75, 3) := by decide +kernel
theorem dX9_silence_70 : decode cX9_silence 70 = .ok (.invokevirtual 298, 3) := by decide +kernel
theorem dX9_silence_73 : decode cX9_silence 73 = .ok (.iload_n 2, 1) := by decide +kernel
theorem dX9_silence_74 : decode cX9_silence 74 = .ok (.ifCond .ne 11, 3) := by decide +kernel
theorem dX9_silence_77 : decode cX9_silence 77 = .ok (.aload_n 0, 1) := by decide +kernel
theorem dX9_silence_78 : decode cX9_silence 78 = .ok (.getfield 75, 3) := by decide +kernel
theorem dX9_silence_81 : decode cX9_silence 81 = .ok (.getfield 301, 3) := by decide +kernel
theorem dX9_silence_84 : decode cX9_silence 84 = .ok (.ireturn, 1) := by decide +kernel
theorem dX9_silence_85 : decode cX9_silence 85 = .ok (.iload_n 2, 1) := by decide +kernel
theorem dX9_silence_86 : decode cX9_silence 86 = .ok (.iconst 1, 1) := by decide +kernel
theorem dX9_silence_87 : decode cX9_silence 87 = .ok (.if_icmp .ne 13, 3) := by decide +kernel
theorem dX9_silence_90 : decode cX9_silence 90 = .ok (.aload_n 0, 1) := by decide +kernel
theorem dX9_silence_91 : decode cX9_silence 91 = .ok (.getfield 75, 3) := by decide +kernel
theorem dX9_silence_94 : decode cX9_silence 94 = .ok (.getfield 304, 3) := by decide +kernel
theorem dX9_silence_97 : decode cX9_silence 97 = .ok (.goto 10, 3) := by decide +kernel
theorem dX9_silence_100 : decode cX9_silence 100 = .ok (.aload_n 0, 1) := by decide +kernel
theorem dX9_silence_101 : decode cX9_silence 101 = .ok (.getfield 75, 3) := by decide +kernel
theorem dX9_silence_104 : decode cX9_silence 104 = .ok (.getfield 307, 3) := by decide +kernel
theorem dX9_silence_107 : decode cX9_silence 107 = .ok (.ireturn, 1) := by decide +kernel
theorem dX9_heard_0 : decode cX9_heard 0 = .ok (.aload_n 0, 1) := by decide +kernel
theorem dX9_heard_1 : decode cX9_heard 1 = .ok (.iload_n 1, 1) := by decide +kernel
theorem dX9_heard_2 : decode cX9_heard 2 = .ok (.iload_n 2, 1) := by decide +kernel
theorem dX9_heard_3 : decode cX9_heard 3 = .ok (.invokevirtual 310, 3) := by decide +kernel
theorem dX9_heard_6 : decode cX9_heard 6 = .ok (.istore_n 3, 1) := by decide +kernel
theorem dX9_heard_7 : decode cX9_heard 7 = .ok (.iload_n 3, 1) := by decide +kernel
theorem dX9_heard_8 : decode cX9_heard 8 = .ok (.ifCond .eq 7, 3) := by decide +kernel
theorem dX9_heard_11 : decode cX9_heard 11 = .ok (.iload_n 3, 1) := by decide +kernel
theorem dX9_heard_12 : decode cX9_heard 12 = .ok (.goto 14, 3) := by decide +kernel
theorem dX9_heard_15 : decode cX9_heard 15 = .ok (.aload_n 0, 1) := by decide +kernel
theorem dX9_heard_16 : decode cX9_heard 16 = .ok (.aload_n 0, 1) := by decide +kernel
theorem dX9_heard_17 : decode cX9_heard 17 = .ok (.getfield 47, 3) := by decide +kernel
theorem dX9_heard_20 : decode cX9_heard 20 = .ok (.iload_n 1, 1) := by decide +kernel
theorem dX9_heard_21 : decode cX9_heard 21 = .ok (.aaload, 1) := by decide +kernel
theorem dX9_heard_22 : decode cX9_heard 22 = .ok (.iload_n 2, 1) := by decide +kernel
theorem dX9_heard_23 : decode cX9_heard 23 = .ok (.invokevirtual 314, 3) := by decide +kernel
theorem dX9_heard_26 : decode cX9_heard 26 = .ok (.ireturn, 1) := by decide +kernel
theorem dX9_heardAt_0 : decode cX9_heardAt 0 = .ok (.aload_n 0, 1) := by decide +kernel
theorem dX9_heardAt_1 : decode cX9_heardAt 1 = .ok (.iload_n 1, 1) := by decide +kernel
theorem dX9_heardAt_2 : decode cX9_heardAt 2 = .ok (.iload_n 2, 1) := by decide +kernel
theorem dX9_heardAt_3 : decode cX9_heardAt 3 = .ok (.invokevirtual 310, 3) := by decide +kernel
theorem dX9_heardAt_6 : decode cX9_heardAt 6 = .ok (.istore 4, 2) := by decide +kernel
theorem dX9_heardAt_8 : decode cX9_heardAt 8 = .ok (.iload 4, 2) := by decide +kernel
theorem dX9_heardAt_10 : decode cX9_heardAt 10 = .ok (.ifCond .eq 6, 3) := by decide +kernel
theorem dX9_heardAt_13 : decode cX9_heardAt 13 = .ok (.iload 4, 2) := by decide +kernel
theorem dX9_heardAt_15 : decode cX9_heardAt 15 = .ok (.ireturn, 1) := by decide +kernel
theorem dX9_heardAt_16 : decode cX9_heardAt 16 = .ok (.iload_n 3, 1) := by decide +kernel
theorem dX9_heardAt_17 : decode cX9_heardAt 17 = .ok (.ifCond .ge 6, 3) := by decide +kernel
theorem dX9_heardAt_20 : decode cX9_heardAt 20 = .ok (.bipush (-3), 2) := by decide +kernel
theorem dX9_heardAt_22 : decode cX9_heardAt 22 = .ok (.ireturn, 1) := by decide +kernel
theorem dX9_heardAt_23 : decode cX9_heardAt 23 = .ok (.aload_n 0, 1) := by decide +kernel
theorem dX9_heardAt_24 : decode cX9_heardAt 24 = .ok (.aload_n 0, 1) := by decide +kernel
theorem dX9_heardAt_25 : decode cX9_heardAt 25 = .ok (.getfield 47, 3) := by decide +kernel
theorem dX9_heardAt_28 : decode cX9_heardAt 28 = .ok (.iload_n 1, 1) := by decide +kernel
theorem dX9_heardAt_29 : decode cX9_heardAt 29 = .ok (.aaload, 1) := by decide +kernel
theorem dX9_heardAt_30 : decode cX9_heardAt 30 = .ok (.iload_n 2, 1) := by decide +kernel
theorem dX9_heardAt_31 : decode cX9_heardAt 31 = .ok (.invokevirtual 314, 3) := by decide +kernel
theorem dX9_heardAt_34 : decode cX9_heardAt 34 = .ok (.istore 5, 2) := by decide +kernel
theorem dX9_heardAt_36 : decode cX9_heardAt 36 = .ok (.iload_n 3, 1) := by decide +kernel
theorem dX9_heardAt_37 : decode cX9_heardAt 37 = .ok (.iload 5, 2) := by decide +kernel
theorem dX9_heardAt_39 : decode cX9_heardAt 39 = .ok (.if_icmp .ge 12, 3) := by decide +kernel
theorem dX9_heardAt_42 : decode cX9_heardAt 42 = .ok (.aload_n 0, 1) := by decide +kernel
theorem dX9_heardAt_43 : decode cX9_heardAt 43 = .ok (.getfield 92, 3) := by decide +kernel
theorem dX9_heardAt_46 : decode cX9_heardAt 46 = .ok (.iload_n 3, 1) := by decide +kernel
theorem dX9_heardAt_47 : decode cX9_heardAt 47 = .ok (.iaload, 1) := by decide +kernel
theorem dX9_heardAt_48 : decode cX9_heardAt 48 = .ok (.goto 4, 3) := by decide +kernel
theorem dX9_heardAt_51 : decode cX9_heardAt 51 = .ok (.iconst (-1), 1) := by decide +kernel
theorem dX9_heardAt_52 : decode cX9_heardAt 52 = .ok (.ireturn, 1) := by decide +kernel
theorem dX9_attempt_0 : decode cX9_attempt 0 = .ok (.aload_n 0, 1) := by decide +kernel
theorem dX9_attempt_1 : decode cX9_attempt 1 = .ok (.iload_n 1, 1) := by decide +kernel
theorem dX9_attempt_2 : decode cX9_attempt 2 = .ok (.iload_n 2, 1) := by decide +kernel
theorem dX9_attempt_3 : decode cX9_attempt 3 = .ok (.invokevirtual 310, 3) := by decide +kernel
theorem dX9_attempt_6 : decode cX9_attempt 6 = .ok (.istore_n 3, 1) := by decide +kernel
theorem dX9_attempt_7 : decode cX9_attempt 7 = .ok (.iload_n 3, 1) := by decide +kernel
theorem dX9_attempt_8 : decode cX9_attempt 8 = .ok (.ifCond .eq 5, 3) := by decide +kernel
theorem dX9_attempt_11 : decode cX9_attempt 11 = .ok (.iload_n 3, 1) := by decide +kernel
theorem dX9_attempt_12 : decode cX9_attempt 12 = .ok (.ireturn, 1) := by decide +kernel
theorem dX9_attempt_13 : decode cX9_attempt 13 = .ok (.aload_n 0, 1) := by decide +kernel
theorem dX9_attempt_14 : decode cX9_attempt 14 = .ok (.aload_n 0, 1) := by decide +kernel
theorem dX9_attempt_15 : decode cX9_attempt 15 = .ok (.getfield 47, 3) := by decide +kernel
theorem dX9_attempt_18 : decode cX9_attempt 18 = .ok (.iload_n 1, 1) := by decide +kernel
theorem dX9_attempt_19 : decode cX9_attempt 19 = .ok (.aaload, 1) := by decide +kernel
theorem dX9_attempt_20 : decode cX9_attempt 20 = .ok (.iload_n 2, 1) := by decide +kernel
theorem dX9_attempt_21 : decode cX9_attempt 21 = .ok (.invokevirtual 314, 3) := by decide +kernel
theorem dX9_attempt_24 : decode cX9_attempt 24 = .ok (.istore 4, 2) := by decide +kernel
theorem dX9_attempt_26 : decode cX9_attempt 26 = .ok (.iconst (-1), 1) := by decide +kernel
theorem dX9_attempt_27 : decode cX9_attempt 27 = .ok (.istore 5, 2) := by decide +kernel
theorem dX9_attempt_29 : decode cX9_attempt 29 = .ok (.bipush 65, 2) := by decide +kernel
theorem dX9_attempt_31 : decode cX9_attempt 31 = .ok (.istore 6, 2) := by decide +kernel
theorem dX9_attempt_33 : decode cX9_attempt 33 = .ok (.iconst 0, 1) := by decide +kernel
theorem dX9_attempt_34 : decode cX9_attempt 34 = .ok (.istore 7, 2) := by decide +kernel
theorem dX9_attempt_36 : decode cX9_attempt 36 = .ok (.iload 7, 2) := by decide +kernel
theorem dX9_attempt_38 : decode cX9_attempt 38 = .ok (.aload_n 0, 1) := by decide +kernel
theorem dX9_attempt_39 : decode cX9_attempt 39 = .ok (.getfield 16, 3) := by decide +kernel
theorem dX9_attempt_42 : decode cX9_attempt 42 = .ok (.getfield 241, 3) := by decide +kernel
theorem dX9_attempt_45 : decode cX9_attempt 45 = .ok (.if_icmp .ge 46, 3) := by decide +kernel
theorem dX9_attempt_48 : decode cX9_attempt 48 = .ok (.iload 4, 2) := by decide +kernel
theorem dX9_attempt_50 : decode cX9_attempt 50 = .ok (.ifCond .le 41, 3) := by decide +kernel
theorem dX9_attempt_53 : decode cX9_attempt 53 = .ok (.iload 7, 2) := by decide +kernel
theorem dX9_attempt_55 : decode cX9_attempt 55 = .ok (.iload_n 2, 1) := by decide +kernel
theorem dX9_attempt_56 : decode cX9_attempt 56 = .ok (.if_icmp .eq 29, 3) := by decide +kernel
theorem dX9_attempt_59 : decode cX9_attempt 59 = .ok (.aload_n 0, 1) := by decide +kernel
theorem dX9_attempt_60 : decode cX9_attempt 60 = .ok (.iload_n 2, 1) := by decide +kernel
theorem dX9_attempt_61 : decode cX9_attempt 61 = .ok (.iload 7, 2) := by decide +kernel
theorem dX9_attempt_63 : decode cX9_attempt 63 = .ok (.iload 4, 2) := by decide +kernel
theorem dX9_attempt_65 : decode cX9_attempt 65 = .ok (.invokevirtual 318, 3) := by decide +kernel
theorem dX9_attempt_68 : decode cX9_attempt 68 = .ok (.istore 8, 2) := by decide +kernel
theorem dX9_attempt_70 : decode cX9_attempt 70 = .ok (.iload 8, 2) := by decide +kernel
theorem dX9_attempt_72 : decode cX9_attempt 72 = .ok (.iload 6, 2) := by decide +kernel
theorem dX9_attempt_74 : decode cX9_attempt 74 = .ok (.if_icmp .ge 11, 3) := by decide +kernel
theorem dX9_attempt_77 : decode cX9_attempt 77 = .ok (.iload 8, 2) := by decide +kernel
theorem dX9_attempt_79 : decode cX9_attempt 79 = .ok (.istore 6, 2) := by decide +kernel
theorem dX9_attempt_81 : decode cX9_attempt 81 = .ok (.iload 7, 2) := by decide +kernel
theorem dX9_attempt_83 : decode cX9_attempt 83 = .ok (.istore 5, 2) := by decide +kernel
theorem dX9_attempt_85 : decode cX9_attempt 85 = .ok (.iinc 7 1, 3) := by decide +kernel
theorem dX9_attempt_88 : decode cX9_attempt 88 = .ok (.goto (-52), 3) := by decide +kernel
theorem dX9_attempt_91 : decode cX9_attempt 91 = .ok (.iload 5, 2) := by decide +kernel
theorem dX9_attempt_93 : decode cX9_attempt 93 = .ok (.ireturn, 1) := by decide +kernel
theorem dX9_winds_0 : decode cX9_winds 0 = .ok (.iload_n 1, 1) := by decide +kernel
theorem dX9_winds_1 : decode cX9_winds 1 = .ok (.invokestatic 208, 3) := by decide +kernel
theorem dX9_winds_4 : decode cX9_winds 4 = .ok (.ifCond .eq 11, 3) := by decide +kernel
theorem dX9_winds_7 : decode cX9_winds 7 = .ok (.aload_n 0, 1) := by decide +kernel
theorem dX9_winds_8 : decode cX9_winds 8 = .ok (.iload_n 2, 1) := by decide +kernel
theorem dX9_winds_9 : decode cX9_winds 9 = .ok (.invokevirtual 127, 3) := by decide +kernel
theorem dX9_winds_12 : decode cX9_winds 12 = .ok (.ifCond .ne 6, 3) := by decide +kernel
theorem dX9_winds_15 : decode cX9_winds 15 = .ok (.bipush (-2), 2) := by decide +kernel
theorem dX9_winds_17 : decode cX9_winds 17 = .ok (.ireturn, 1) := by decide +kernel
theorem dX9_winds_18 : decode cX9_winds 18 = .ok (.aload_n 0, 1) := by decide +kernel
theorem dX9_winds_19 : decode cX9_winds 19 = .ok (.getfield 47, 3) := by decide +kernel
theorem dX9_winds_22 : decode cX9_winds 22 = .ok (.iload_n 1, 1) := by decide +kernel
theorem dX9_winds_23 : decode cX9_winds 23 = .ok (.aaload, 1) := by decide +kernel
theorem dX9_winds_24 : decode cX9_winds 24 = .ok (.astore_n 3, 1) := by decide +kernel
theorem dX9_winds_25 : decode cX9_winds 25 = .ok (.aload_n 3, 1) := by decide +kernel
theorem dX9_winds_26 : decode cX9_winds 26 = .ok (.getfield 211, 3) := by decide +kernel
theorem dX9_winds_29 : decode cX9_winds 29 = .ok (.ifCond .ne 6, 3) := by decide +kernel
theorem dX9_winds_32 : decode cX9_winds 32 = .ok (.bipush (-6), 2) := by decide +kernel
theorem dX9_winds_34 : decode cX9_winds 34 = .ok (.ireturn, 1) := by decide +kernel
theorem dX9_winds_35 : decode cX9_winds 35 = .ok (.aload_n 3, 1) := by decide +kernel
theorem dX9_winds_36 : decode cX9_winds 36 = .ok (.getfield 219, 3) := by decide +kernel
theorem dX9_winds_39 : decode cX9_winds 39 = .ok (.iconst 1, 1) := by decide +kernel
theorem dX9_winds_40 : decode cX9_winds 40 = .ok (.if_icmp .lt 12, 3) := by decide +kernel
theorem dX9_winds_43 : decode cX9_winds 43 = .ok (.aload_n 3, 1) := by decide +kernel
theorem dX9_winds_44 : decode cX9_winds 44 = .ok (.getfield 219, 3) := by decide +kernel
theorem dX9_winds_47 : decode cX9_winds 47 = .ok (.bipush 8, 2) := by decide +kernel
theorem dX9_winds_49 : decode cX9_winds 49 = .ok (.if_icmp .le 6, 3) := by decide +kernel
theorem dX9_winds_52 : decode cX9_winds 52 = .ok (.bipush (-4), 2) := by decide +kernel
theorem dX9_winds_54 : decode cX9_winds 54 = .ok (.ireturn, 1) := by decide +kernel
theorem dX9_winds_55 : decode cX9_winds 55 = .ok (.iconst 0, 1) := by decide +kernel
theorem dX9_winds_56 : decode cX9_winds 56 = .ok (.istore 4, 2) := by decide +kernel
theorem dX9_winds_58 : decode cX9_winds 58 = .ok (.iload 4, 2) := by decide +kernel
theorem dX9_winds_60 : decode cX9_winds 60 = .ok (.aload_n 3, 1) := by decide +kernel
theorem dX9_winds_61 : decode cX9_winds 61 = .ok (.getfield 219, 3) := by decide +kernel
theorem dX9_winds_64 : decode cX9_winds 64 = .ok (.if_icmp .ge 38, 3) := by decide +kernel
theorem dX9_winds_67 : decode cX9_winds 67 = .ok (.aload_n 3, 1) := by decide +kernel
theorem dX9_winds_68 : decode cX9_winds 68 = .ok (.getfield 222, 3) := by decide +kernel
theorem dX9_winds_71 : decode cX9_winds 71 = .ok (.iload 4, 2) := by decide +kernel
theorem dX9_winds_73 : decode cX9_winds 73 = .ok (.laload, 1) := by decide +kernel
theorem dX9_winds_74 : decode cX9_winds 74 = .ok (.lconst 0, 1) := by decide +kernel
theorem dX9_winds_75 : decode cX9_winds 75 = .ok (.lcmp, 1) := by decide +kernel
theorem dX9_winds_76 : decode cX9_winds 76 = .ok (.ifCond .lt 17, 3) := by decide +kernel
theorem dX9_winds_79 : decode cX9_winds 79 = .ok (.aload_n 3, 1) := by decide +kernel
theorem dX9_winds_80 : decode cX9_winds 80 = .ok (.getfield 222, 3) := by decide +kernel
theorem dX9_winds_83 : decode cX9_winds 83 = .ok (.iload 4, 2) := by decide +kernel
theorem dX9_winds_85 : decode cX9_winds 85 = .ok (.laload, 1) := by decide +kernel
theorem dX9_winds_86 : decode cX9_winds 86 = .ok (.ldc2_w 321, 3) := by decide +kernel
theorem dX9_winds_89 : decode cX9_winds 89 = .ok (.lcmp, 1) := by decide +kernel
theorem dX9_winds_90 : decode cX9_winds 90 = .ok (.ifCond .lt 6, 3) := by decide +kernel
theorem dX9_winds_93 : decode cX9_winds 93 = .ok (.bipush (-3), 2) := by decide +kernel
theorem dX9_winds_95 : decode cX9_winds 95 = .ok (.ireturn, 1) := by decide +kernel
theorem dX9_winds_96 : decode cX9_winds 96 = .ok (.iinc 4 1, 3) := by decide +kernel
theorem dX9_winds_99 : decode cX9_winds 99 = .ok (.goto (-41), 3) := by decide +kernel
theorem dX9_winds_102 : decode cX9_winds 102 = .ok (.aload_n 0, 1) := by decide +kernel
theorem dX9_winds_103 : decode cX9_winds 103 = .ok (.getfield 82, 3) := by decide +kernel
theorem dX9_winds_106 : decode cX9_winds 106 = .ok (.aload_n 0, 1) := by decide +kernel
theorem dX9_winds_107 : decode cX9_winds 107 = .ok (.getfield 16, 3) := by decide +kernel
theorem dX9_winds_110 : decode cX9_winds 110 = .ok (.getfield 131, 3) := by decide +kernel
theorem dX9_winds_113 : decode cX9_winds 113 = .ok (.invokevirtual 176, 3) := by decide +kernel
theorem dX9_winds_116 : decode cX9_winds 116 = .ok (.iconst 0, 1) := by decide +kernel
theorem dX9_winds_117 : decode cX9_winds 117 = .ok (.istore 4, 2) := by decide +kernel
theorem dX9_winds_119 : decode cX9_winds 119 = .ok (.iconst 0, 1) := by decide +kernel
theorem dX9_winds_120 : decode cX9_winds 120 = .ok (.istore 5, 2) := by decide +kernel
theorem dX9_winds_122 : decode cX9_winds 122 = .ok (.iload 5, 2) := by decide +kernel
theorem dX9_winds_124 : decode cX9_winds 124 = .ok (.bipush 10, 2) := by decide +kernel
theorem dX9_winds_126 : decode cX9_winds 126 = .ok (.if_icmp .ge 73, 3) := by decide +kernel
theorem dX9_winds_129 : decode cX9_winds 129 = .ok (.aload_n 0, 1) := by decide +kernel
theorem dX9_winds_130 : decode cX9_winds 130 = .ok (.getfield 82, 3) := by decide +kernel
theorem dX9_winds_133 : decode cX9_winds 133 = .ok (.iload 5, 2) := by decide +kernel
theorem dX9_winds_135 : decode cX9_winds 135 = .ok (.putfield 198, 3) := by decide +kernel
theorem dX9_winds_138 : decode cX9_winds 138 = .ok (.aload_n 0, 1) := by decide +kernel
theorem dX9_winds_139 : decode cX9_winds 139 = .ok (.getfield 86, 3) := by decide +kernel
theorem dX9_winds_142 : decode cX9_winds 142 = .ok (.aload_n 0, 1) := by decide +kernel
theorem dX9_winds_143 : decode cX9_winds 143 = .ok (.getfield 16, 3) := by decide +kernel
theorem dX9_winds_146 : decode cX9_winds 146 = .ok (.aload_n 0, 1) := by decide +kernel
theorem dX9_winds_147 : decode cX9_winds 147 = .ok (.getfield 82, 3) := by decide +kernel
theorem dX9_winds_150 : decode cX9_winds 150 = .ok (.invokevirtual 230, 3) := by decide +kernel
theorem dX9_winds_153 : decode cX9_winds 153 = .ok (.aload_n 0, 1) := by decide +kernel
theorem dX9_winds_154 : decode cX9_winds 154 = .ok (.getfield 89, 3) := by decide +kernel
theorem dX9_winds_157 : decode cX9_winds 157 = .ok (.aload_n 0, 1) := by decide +kernel
theorem dX9_winds_158 : decode cX9_winds 158 = .ok (.getfield 82, 3) := by decide +kernel
theorem dX9_winds_161 : decode cX9_winds 161 = .ok (.aload_n 0, 1) := by decide +kernel
theorem dX9_winds_162 : decode cX9_winds 162 = .ok (.getfield 86, 3) := by decide +kernel
theorem dX9_winds_165 : decode cX9_winds 165 = .ok (.bipush 99, 2) := by decide +kernel
theorem dX9_winds_167 : decode cX9_winds 167 = .ok (.iconst (-1), 1) := by decide +kernel
theorem dX9_winds_168 : decode cX9_winds 168 = .ok (.invokevirtual 234, 3) := by decide +kernel
theorem dX9_winds_171 : decode cX9_winds 171 = .ok (.pop, 1) := by decide +kernel
theorem dX9_winds_172 : decode cX9_winds 172 = .ok (.aload_n 0, 1) := by decide +kernel
theorem dX9_winds_173 : decode cX9_winds 173 = .ok (.getfield 89, 3) := by decide +kernel
theorem dX9_winds_176 : decode cX9_winds 176 = .ok (.iload_n 2, 1) := by decide +kernel
theorem dX9_winds_177 : decode cX9_winds 177 = .ok (.aload_n 3, 1) := by decide +kernel
theorem dX9_winds_178 : decode cX9_winds 178 = .ok (.invokevirtual 323, 3) := by decide +kernel
theorem dX9_winds_181 : decode cX9_winds 181 = .ok (.ifCond .eq 12, 3) := by decide +kernel
theorem dX9_winds_184 : decode cX9_winds 184 = .ok (.iload 4, 2) := by decide +kernel
theorem dX9_winds_186 : decode cX9_winds 186 = .ok (.iconst 1, 1) := by decide +kernel
theorem dX9_winds_187 : decode cX9_winds 187 = .ok (.iload 5, 2) := by decide +kernel
theorem dX9_winds_189 : decode cX9_winds 189 = .ok (.ishl, 1) := by decide +kernel
theorem dX9_winds_190 : decode cX9_winds 190 = .ok (.ior, 1) := by decide +kernel
theorem dX9_winds_191 : decode cX9_winds 191 = .ok (.istore 4, 2) := by decide +kernel
theorem dX9_winds_193 : decode cX9_winds 193 = .ok (.iinc 5 1, 3) := by decide +kernel
theorem dX9_winds_196 : decode cX9_winds 196 = .ok (.goto (-74), 3) := by decide +kernel
theorem dX9_winds_199 : decode cX9_winds 199 = .ok (.iload 4, 2) := by decide +kernel
theorem dX9_winds_201 : decode cX9_winds 201 = .ok (.ireturn, 1) := by decide +kernel
theorem dX9_chance_0 : decode cX9_chance 0 = .ok (.aload_n 0, 1) := by decide +kernel
theorem dX9_chance_1 : decode cX9_chance 1 = .ok (.iload_n 1, 1) := by decide +kernel
theorem dX9_chance_2 : decode cX9_chance 2 = .ok (.invokevirtual 127, 3) := by decide +kernel
theorem dX9_chance_5 : decode cX9_chance 5 = .ok (.ifCond .eq 12, 3) := by decide +kernel
theorem dX9_chance_8 : decode cX9_chance 8 = .ok (.iload_n 2, 1) := by decide +kernel
theorem dX9_chance_9 : decode cX9_chance 9 = .ok (.ifCond .lt 8, 3) := by decide +kernel
theorem dX9_chance_12 : decode cX9_chance 12 = .ok (.iload_n 2, 1) := by decide +kernel
theorem dX9_chance_13 : decode cX9_chance 13 = .ok (.iconst 1, 1) := by decide +kernel
theorem dX9_chance_14 : decode cX9_chance 14 = .ok (.if_icmp .le 6, 3) := by decide +kernel
theorem dX9_chance_17 : decode cX9_chance 17 = .ok (.bipush (-2), 2) := by decide +kernel
theorem dX9_chance_19 : decode cX9_chance 19 = .ok (.ireturn, 1) := by decide +kernel
theorem dX9_chance_20 : decode cX9_chance 20 = .ok (.aload_n 0, 1) := by decide +kernel
theorem dX9_chance_21 : decode cX9_chance 21 = .ok (.invokevirtual 327, 3) := by decide +kernel
theorem dX9_chance_24 : decode cX9_chance 24 = .ok (.aload_n 0, 1) := by decide +kernel
theorem dX9_chance_25 : decode cX9_chance 25 = .ok (.getfield 68, 3) := by decide +kernel
theorem dX9_chance_28 : decode cX9_chance 28 = .ok (.getfield 330, 3) := by decide +kernel
theorem dX9_chance_31 : decode cX9_chance 31 = .ok (.iload_n 1, 1) := by decide +kernel
theorem dX9_chance_32 : decode cX9_chance 32 = .ok (.laload, 1) := by decide +kernel
theorem dX9_chance_33 : decode cX9_chance 33 = .ok (.aload_n 0, 1) := by decide +kernel
theorem dX9_chance_34 : decode cX9_chance 34 = .ok (.getfield 68, 3) := by decide +kernel
theorem dX9_chance_37 : decode cX9_chance 37 = .ok (.getfield 333, 3) := by decide +kernel
theorem dX9_chance_40 : decode cX9_chance 40 = .ok (.iload_n 2, 1) := by decide +kernel
theorem dX9_chance_41 : decode cX9_chance 41 = .ok (.invokestatic 337, 3) := by decide +kernel
theorem dX9_chance_44 : decode cX9_chance 44 = .ok (.l2i, 1) := by decide +kernel
theorem dX9_chance_45 : decode cX9_chance 45 = .ok (.ireturn, 1) := by decide +kernel
theorem dX9_mean_0 : decode cX9_mean 0 = .ok (.aload_n 0, 1) := by decide +kernel
theorem dX9_mean_1 : decode cX9_mean 1 = .ok (.iload_n 1, 1) := by decide +kernel
theorem dX9_mean_2 : decode cX9_mean 2 = .ok (.invokevirtual 127, 3) := by decide +kernel
theorem dX9_mean_5 : decode cX9_mean 5 = .ok (.ifCond .eq 12, 3) := by decide +kernel
theorem dX9_mean_8 : decode cX9_mean 8 = .ok (.iload_n 2, 1) := by decide +kernel
theorem dX9_mean_9 : decode cX9_mean 9 = .ok (.ifCond .lt 8, 3) := by decide +kernel
theorem dX9_mean_12 : decode cX9_mean 12 = .ok (.iload_n 2, 1) := by decide +kernel
theorem dX9_mean_13 : decode cX9_mean 13 = .ok (.iconst 1, 1) := by decide +kernel
theorem dX9_mean_14 : decode cX9_mean 14 = .ok (.if_icmp .le 7, 3) := by decide +kernel
theorem dX9_mean_17 : decode cX9_mean 17 = .ok (.ldc2_w 341, 3) := by decide +kernel
theorem dX9_mean_20 : decode cX9_mean 20 = .ok (.lreturn, 1) := by decide +kernel
theorem dX9_mean_21 : decode cX9_mean 21 = .ok (.aload_n 0, 1) := by decide +kernel
theorem dX9_mean_22 : decode cX9_mean 22 = .ok (.invokevirtual 327, 3) := by decide +kernel
theorem dX9_mean_25 : decode cX9_mean 25 = .ok (.aload_n 0, 1) := by decide +kernel
theorem dX9_mean_26 : decode cX9_mean 26 = .ok (.getfield 68, 3) := by decide +kernel
theorem dX9_mean_29 : decode cX9_mean 29 = .ok (.getfield 343, 3) := by decide +kernel
theorem dX9_mean_32 : decode cX9_mean 32 = .ok (.iload_n 1, 1) := by decide +kernel
theorem dX9_mean_33 : decode cX9_mean 33 = .ok (.laload, 1) := by decide +kernel
theorem dX9_mean_34 : decode cX9_mean 34 = .ok (.aload_n 0, 1) := by decide +kernel
theorem dX9_mean_35 : decode cX9_mean 35 = .ok (.getfield 68, 3) := by decide +kernel
theorem dX9_mean_38 : decode cX9_mean 38 = .ok (.getfield 333, 3) := by decide +kernel
theorem dX9_mean_41 : decode cX9_mean 41 = .ok (.iload_n 2, 1) := by decide +kernel
theorem dX9_mean_42 : decode cX9_mean 42 = .ok (.invokestatic 337, 3) := by decide +kernel
theorem dX9_mean_45 : decode cX9_mean 45 = .ok (.lreturn, 1) := by decide +kernel
theorem dX9_famous_0 : decode cX9_famous 0 = .ok (.aload_n 0, 1) := by decide +kernel
theorem dX9_famous_1 : decode cX9_famous 1 = .ok (.getfield 16, 3) := by decide +kernel
theorem dX9_famous_4 : decode cX9_famous 4 = .ok (.getfield 241, 3) := by decide +kernel
theorem dX9_famous_7 : decode cX9_famous 7 = .ok (.ifCond .ne 5, 3) := by decide +kernel
theorem dX9_famous_10 : decode cX9_famous 10 = .ok (.iconst (-1), 1) := by decide +kernel
theorem dX9_famous_11 : decode cX9_famous 11 = .ok (.ireturn, 1) := by decide +kernel
theorem dX9_famous_12 : decode cX9_famous 12 = .ok (.aload_n 0, 1) := by decide +kernel
theorem dX9_famous_13 : decode cX9_famous 13 = .ok (.invokevirtual 327, 3) := by decide +kernel
theorem dX9_famous_16 : decode cX9_famous 16 = .ok (.iconst 0, 1) := by decide +kernel
theorem dX9_famous_17 : decode cX9_famous 17 = .ok (.istore_n 1, 1) := by decide +kernel
theorem dX9_famous_18 : decode cX9_famous 18 = .ok (.iconst 1, 1) := by decide +kernel
theorem dX9_famous_19 : decode cX9_famous 19 = .ok (.istore_n 2, 1) := by decide +kernel
theorem dX9_famous_20 : decode cX9_famous 20 = .ok (.iload_n 2, 1) := by decide +kernel
theorem dX9_famous_21 : decode cX9_famous 21 = .ok (.aload_n 0, 1) := by decide +kernel
theorem dX9_famous_22 : decode cX9_famous 22 = .ok (.getfield 16, 3) := by decide +kernel
theorem dX9_famous_25 : decode cX9_famous 25 = .ok (.getfield 241, 3) := by decide +kernel
theorem dX9_famous_28 : decode cX9_famous 28 = .ok (.if_icmp .ge 33, 3) := by decide +kernel
theorem dX9_famous_31 : decode cX9_famous 31 = .ok (.aload_n 0, 1) := by decide +kernel
theorem dX9_famous_32 : decode cX9_famous 32 = .ok (.getfield 68, 3) := by decide +kernel
theorem dX9_famous_35 : decode cX9_famous 35 = .ok (.getfield 343, 3) := by decide +kernel
theorem dX9_famous_38 : decode cX9_famous 38 = .ok (.iload_n 2, 1) := by decide +kernel
theorem dX9_famous_39 : decode cX9_famous 39 = .ok (.laload, 1) := by decide +kernel
theorem dX9_famous_40 : decode cX9_famous 40 = .ok (.aload_n 0, 1) := by decide +kernel
theorem dX9_famous_41 : decode cX9_famous 41 = .ok (.getfield 68, 3) := by decide +kernel
theorem dX9_famous_44 : decode cX9_famous 44 = .ok (.getfield 343, 3) := by decide +kernel
theorem dX9_famous_47 : decode cX9_famous 47 = .ok (.iload_n 1, 1) := by decide +kernel
theorem dX9_famous_48 : decode cX9_famous 48 = .ok (.laload, 1) := by decide +kernel
theorem dX9_famous_49 : decode cX9_famous 49 = .ok (.lcmp, 1) := by decide +kernel
theorem dX9_famous_50 : decode cX9_famous 50 = .ok (.ifCond .le 5, 3) := by decide +kernel
theorem dX9_famous_53 : decode cX9_famous 53 = .ok (.iload_n 2, 1) := by decide +kernel
theorem dX9_famous_54 : decode cX9_famous 54 = .ok (.istore_n 1, 1) := by decide +kernel
theorem dX9_famous_55 : decode cX9_famous 55 = .ok (.iinc 2 1, 3) := by decide +kernel
theorem dX9_famous_58 : decode cX9_famous 58 = .ok (.goto (-38), 3) := by decide +kernel
theorem dX9_famous_61 : decode cX9_famous 61 = .ok (.iload_n 1, 1) := by decide +kernel
theorem dX9_famous_62 : decode cX9_famous 62 = .ok (.ireturn, 1) := by decide +kernel
theorem dX9_numbers_0 : decode cX9_numbers 0 = .ok (.iload_n 1, 1) := by decide +kernel
theorem dX9_numbers_1 : decode cX9_numbers 1 = .ok (.invokestatic 208, 3) := by decide +kernel
theorem dX9_numbers_4 : decode cX9_numbers 4 = .ok (.ifCond .eq 12, 3) := by decide +kernel
theorem dX9_numbers_7 : decode cX9_numbers 7 = .ok (.iload_n 2, 1) := by decide +kernel
theorem dX9_numbers_8 : decode cX9_numbers 8 = .ok (.ifCond .lt 8, 3) := by decide +kernel
theorem dX9_numbers_11 : decode cX9_numbers 11 = .ok (.iload_n 2, 1) := by decide +kernel
theorem dX9_numbers_12 : decode cX9_numbers 12 = .ok (.iconst 3, 1) := by decide +kernel
theorem dX9_numbers_13 : decode cX9_numbers 13 = .ok (.if_icmp .le 6, 3) := by decide +kernel
theorem dX9_numbers_16 : decode cX9_numbers 16 = .ok (.bipush (-2), 2) := by decide +kernel
theorem dX9_numbers_18 : decode cX9_numbers 18 = .ok (.ireturn, 1) := by decide +kernel
theorem dX9_numbers_19 : decode cX9_numbers 19 = .ok (.iload_n 3, 1) := by decide +kernel
theorem dX9_numbers_20 : decode cX9_numbers 20 = .ok (.ifCond .lt 9, 3) := by decide +kernel
theorem dX9_numbers_23 : decode cX9_numbers 23 = .ok (.iload_n 3, 1) := by decide +kernel
theorem dX9_numbers_24 : decode cX9_numbers 24 = .ok (.bipush 40, 2) := by decide +kernel
theorem dX9_numbers_26 : decode cX9_numbers 26 = .ok (.if_icmp .le 6, 3) := by decide +kernel
theorem dX9_numbers_29 : decode cX9_numbers 29 = .ok (.bipush (-3), 2) := by decide +kernel
theorem dX9_numbers_31 : decode cX9_numbers 31 = .ok (.ireturn, 1) := by decide +kernel
theorem dX9_numbers_32 : decode cX9_numbers 32 = .ok (.aload_n 0, 1) := by decide +kernel
theorem dX9_numbers_33 : decode cX9_numbers 33 = .ok (.getfield 47, 3) := by decide +kernel
theorem dX9_numbers_36 : decode cX9_numbers 36 = .ok (.iload_n 1, 1) := by decide +kernel
theorem dX9_numbers_37 : decode cX9_numbers 37 = .ok (.aaload, 1) := by decide +kernel
theorem dX9_numbers_38 : decode cX9_numbers 38 = .ok (.iload_n 2, 1) := by decide +kernel
theorem dX9_numbers_39 : decode cX9_numbers 39 = .ok (.iload_n 3, 1) := by decide +kernel
theorem dX9_numbers_40 : decode cX9_numbers 40 = .ok (.invokevirtual 345, 3) := by decide +kernel
theorem dX9_numbers_43 : decode cX9_numbers 43 = .ok (.iconst 0, 1) := by decide +kernel
theorem dX9_numbers_44 : decode cX9_numbers 44 = .ok (.ireturn, 1) := by decide +kernel
theorem dX9_write_0 : decode cX9_write 0 = .ok (.iload_n 1, 1) := by decide +kernel
theorem dX9_write_1 : decode cX9_write 1 = .ok (.invokestatic 208, 3) := by decide +kernel
theorem dX9_write_4 : decode cX9_write 4 = .ok (.ifCond .ne 7, 3) := by decide +kernel
theorem dX9_write_7 : decode cX9_write 7 = .ok (.ldc2_w 341, 3) := by decide +kernel
theorem dX9_write_10 : decode cX9_write 10 = .ok (.lreturn, 1) := by decide +kernel
theorem dX9_write_11 : decode cX9_write 11 = .ok (.aload_n 0, 1) := by decide +kernel
theorem dX9_write_12 : decode cX9_write 12 = .ok (.getfield 47, 3) := by decide +kernel
theorem dX9_write_15 : decode cX9_write 15 = .ok (.iload_n 1, 1) := by decide +kernel
theorem dX9_write_16 : decode cX9_write 16 = .ok (.aaload, 1) := by decide +kernel
theorem dX9_write_17 : decode cX9_write 17 = .ok (.getfield 211, 3) := by decide +kernel
theorem dX9_write_20 : decode cX9_write 20 = .ok (.ifCond .ne 7, 3) := by decide +kernel
theorem dX9_write_23 : decode cX9_write 23 = .ok (.ldc2_w 349, 3) := by decide +kernel
theorem dX9_write_26 : decode cX9_write 26 = .ok (.lreturn, 1) := by decide +kernel
theorem dX9_write_27 : decode cX9_write 27 = .ok (.iload_n 2, 1) := by decide +kernel
theorem dX9_write_28 : decode cX9_write 28 = .ok (.ifCond .lt 16, 3) := by decide +kernel
theorem dX9_write_31 : decode cX9_write 31 = .ok (.iload_n 2, 1) := by decide +kernel
theorem dX9_write_32 : decode cX9_write 32 = .ok (.aload_n 0, 1) := by decide +kernel
theorem dX9_write_33 : decode cX9_write 33 = .ok (.getfield 47, 3) := by decide +kernel
theorem dX9_write_36 : decode cX9_write 36 = .ok (.iload_n 1, 1) := by decide +kernel
theorem dX9_write_37 : decode cX9_write 37 = .ok (.aaload, 1) := by decide +kernel
theorem dX9_write_38 : decode cX9_write 38 = .ok (.getfield 219, 3) := by decide +kernel
theorem dX9_write_41 : decode cX9_write 41 = .ok (.if_icmp .lt 7, 3) := by decide +kernel
theorem dX9_write_44 : decode cX9_write 44 = .ok (.ldc2_w 351, 3) := by decide +kernel
theorem dX9_write_47 : decode cX9_write 47 = .ok (.lreturn, 1) := by decide +kernel
theorem dX9_write_48 : decode cX9_write 48 = .ok (.aload_n 0, 1) := by decide +kernel
theorem dX9_write_49 : decode cX9_write 49 = .ok (.getfield 47, 3) := by decide +kernel
theorem dX9_write_52 : decode cX9_write 52 = .ok (.iload_n 1, 1) := by decide +kernel
theorem dX9_write_53 : decode cX9_write 53 = .ok (.aaload, 1) := by decide +kernel
theorem dX9_write_54 : decode cX9_write 54 = .ok (.iload_n 2, 1) := by decide +kernel
theorem dX9_write_55 : decode cX9_write 55 = .ok (.lload_n 3, 1) := by decide +kernel
theorem dX9_write_56 : decode cX9_write 56 = .ok (.invokevirtual 353, 3) := by decide +kernel
theorem dX9_write_59 : decode cX9_write 59 = .ok (.lreturn, 1) := by decide +kernel
theorem dX9_lists_0 : decode cX9_lists 0 = .ok (.iload_n 1, 1) := by decide +kernel
theorem dX9_lists_1 : decode cX9_lists 1 = .ok (.invokestatic 208, 3) := by decide +kernel
theorem dX9_lists_4 : decode cX9_lists 4 = .ok (.ifCond .eq 11, 3) := by decide +kernel
theorem dX9_lists_7 : decode cX9_lists 7 = .ok (.aload_n 0, 1) := by decide +kernel
theorem dX9_lists_8 : decode cX9_lists 8 = .ok (.iload_n 2, 1) := by decide +kernel
theorem dX9_lists_9 : decode cX9_lists 9 = .ok (.invokevirtual 127, 3) := by decide +kernel
theorem dX9_lists_12 : decode cX9_lists 12 = .ok (.ifCond .ne 6, 3) := by decide +kernel
theorem dX9_lists_15 : decode cX9_lists 15 = .ok (.bipush (-2), 2) := by decide +kernel
theorem dX9_lists_17 : decode cX9_lists 17 = .ok (.ireturn, 1) := by decide +kernel
theorem dX9_lists_18 : decode cX9_lists 18 = .ok (.aload_n 0, 1) := by decide +kernel
theorem dX9_lists_19 : decode cX9_lists 19 = .ok (.getfield 47, 3) := by decide +kernel
theorem dX9_lists_22 : decode cX9_lists 22 = .ok (.iload_n 1, 1) := by decide +kernel
theorem dX9_lists_23 : decode cX9_lists 23 = .ok (.aaload, 1) := by decide +kernel
theorem dX9_lists_24 : decode cX9_lists 24 = .ok (.getfield 211, 3) := by decide +kernel
theorem dX9_lists_27 : decode cX9_lists 27 = .ok (.ifCond .ne 6, 3) := by decide +kernel
theorem dX9_lists_30 : decode cX9_lists 30 = .ok (.bipush (-6), 2) := by decide +kernel
theorem dX9_lists_32 : decode cX9_lists 32 = .ok (.ireturn, 1) := by decide +kernel
theorem dX9_lists_33 : decode cX9_lists 33 = .ok (.aload_n 0, 1) := by decide +kernel
theorem dX9_lists_34 : decode cX9_lists 34 = .ok (.invokevirtual 161, 3) := by decide +kernel
theorem dX9_lists_37 : decode cX9_lists 37 = .ok (.aload_n 0, 1) := by decide +kernel
theorem dX9_lists_38 : decode cX9_lists 38 = .ok (.getfield 61, 3) := by decide +kernel
theorem dX9_lists_41 : decode cX9_lists 41 = .ok (.aload_n 0, 1) := by decide +kernel
theorem dX9_lists_42 : decode cX9_lists 42 = .ok (.getfield 47, 3) := by decide +kernel
theorem dX9_lists_45 : decode cX9_lists 45 = .ok (.iload_n 1, 1) := by decide +kernel
theorem dX9_lists_46 : decode cX9_lists 46 = .ok (.aaload, 1) := by decide +kernel
theorem dX9_lists_47 : decode cX9_lists 47 = .ok (.iload_n 2, 1) := by decide +kernel
theorem dX9_lists_48 : decode cX9_lists 48 = .ok (.invokevirtual 357, 3) := by decide +kernel
theorem dX9_lists_51 : decode cX9_lists 51 = .ok (.ireturn, 1) := by decide +kernel
theorem dX9_image_0 : decode cX9_image 0 = .ok (.iload_n 1, 1) := by decide +kernel
theorem dX9_image_1 : decode cX9_image 1 = .ok (.invokestatic 360, 3) := by decide +kernel
theorem dX9_image_4 : decode cX9_image 4 = .ok (.ifCond .ne 6, 3) := by decide +kernel
theorem dX9_image_7 : decode cX9_image 7 = .ok (.bipush (-2), 2) := by decide +kernel
theorem dX9_image_9 : decode cX9_image 9 = .ok (.ireturn, 1) := by decide +kernel
theorem dX9_image_10 : decode cX9_image 10 = .ok (.aload_n 0, 1) := by decide +kernel
theorem dX9_image_11 : decode cX9_image 11 = .ok (.getfield 30, 3) := by decide +kernel
theorem dX9_image_14 : decode cX9_image 14 = .ok (.iload_n 1, 1) := by decide +kernel
theorem dX9_image_15 : decode cX9_image 15 = .ok (.aaload, 1) := by decide +kernel
theorem dX9_image_16 : decode cX9_image 16 = .ok (.aload_n 0, 1) := by decide +kernel
theorem dX9_image_17 : decode cX9_image 17 = .ok (.getfield 16, 3) := by decide +kernel
theorem dX9_image_20 : decode cX9_image 20 = .ok (.invokevirtual 363, 3) := by decide +kernel
theorem dX9_image_23 : decode cX9_image 23 = .ok (.aload_n 0, 1) := by decide +kernel
theorem dX9_image_24 : decode cX9_image 24 = .ok (.getfield 34, 3) := by decide +kernel
theorem dX9_image_27 : decode cX9_image 27 = .ok (.iload_n 1, 1) := by decide +kernel
theorem dX9_image_28 : decode cX9_image 28 = .ok (.iconst 1, 1) := by decide +kernel
theorem dX9_image_29 : decode cX9_image 29 = .ok (.bastore, 1) := by decide +kernel
theorem dX9_image_30 : decode cX9_image 30 = .ok (.iconst 0, 1) := by decide +kernel
theorem dX9_image_31 : decode cX9_image 31 = .ok (.ireturn, 1) := by decide +kernel
theorem dX9_restore_0 : decode cX9_restore 0 = .ok (.iload_n 1, 1) := by decide +kernel
theorem dX9_restore_1 : decode cX9_restore 1 = .ok (.invokestatic 360, 3) := by decide +kernel
theorem dX9_restore_4 : decode cX9_restore 4 = .ok (.ifCond .ne 6, 3) := by decide +kernel
theorem dX9_restore_7 : decode cX9_restore 7 = .ok (.bipush (-2), 2) := by decide +kernel
theorem dX9_restore_9 : decode cX9_restore 9 = .ok (.ireturn, 1) := by decide +kernel
theorem dX9_restore_10 : decode cX9_restore 10 = .ok (.aload_n 0, 1) := by decide +kernel
theorem dX9_restore_11 : decode cX9_restore 11 = .ok (.getfield 34, 3) := by decide +kernel
theorem dX9_restore_14 : decode cX9_restore 14 = .ok (.iload_n 1, 1) := by decide +kernel
theorem dX9_restore_15 : decode cX9_restore 15 = .ok (.baload, 1) := by decide +kernel
theorem dX9_restore_16 : decode cX9_restore 16 = .ok (.ifCond .ne 6, 3) := by decide +kernel
theorem dX9_restore_19 : decode cX9_restore 19 = .ok (.bipush (-5), 2) := by decide +kernel
theorem dX9_restore_21 : decode cX9_restore 21 = .ok (.ireturn, 1) := by decide +kernel
theorem dX9_restore_22 : decode cX9_restore 22 = .ok (.aload_n 0, 1) := by decide +kernel
theorem dX9_restore_23 : decode cX9_restore 23 = .ok (.getfield 16, 3) := by decide +kernel
theorem dX9_restore_26 : decode cX9_restore 26 = .ok (.aload_n 0, 1) := by decide +kernel
theorem dX9_restore_27 : decode cX9_restore 27 = .ok (.getfield 30, 3) := by decide +kernel
theorem dX9_restore_30 : decode cX9_restore 30 = .ok (.iload_n 1, 1) := by decide +kernel
theorem dX9_restore_31 : decode cX9_restore 31 = .ok (.aaload, 1) := by decide +kernel
theorem dX9_restore_32 : decode cX9_restore 32 = .ok (.invokevirtual 363, 3) := by decide +kernel
theorem dX9_restore_35 : decode cX9_restore 35 = .ok (.aload_n 0, 1) := by decide +kernel
theorem dX9_restore_36 : decode cX9_restore 36 = .ok (.getfield 41, 3) := by decide +kernel
theorem dX9_restore_39 : decode cX9_restore 39 = .ok (.invokevirtual 115, 3) := by decide +kernel
theorem dX9_restore_42 : decode cX9_restore 42 = .ok (.aload_n 0, 1) := by decide +kernel
theorem dX9_restore_43 : decode cX9_restore 43 = .ok (.invokevirtual 118, 3) := by decide +kernel
theorem dX9_restore_46 : decode cX9_restore 46 = .ok (.iconst 0, 1) := by decide +kernel
theorem dX9_restore_47 : decode cX9_restore 47 = .ok (.ireturn, 1) := by decide +kernel
theorem dX9_count_0 : decode cX9_count 0 = .ok (.iload_n 1, 1) := by decide +kernel
theorem dX9_count_1 : decode cX9_count 1 = .ok (.tableswitch 114 0 7 #[47, 55, 63, 71, 82, 93, 101, 106], 47) := by decide +kernel
theorem dX9_count_48 : decode cX9_count 48 = .ok (.aload_n 0, 1) := by decide +kernel
theorem dX9_count_49 : decode cX9_count 49 = .ok (.getfield 16, 3) := by decide +kernel
theorem dX9_count_52 : decode cX9_count 52 = .ok (.getfield 366, 3) := by decide +kernel
theorem dX9_count_55 : decode cX9_count 55 = .ok (.ireturn, 1) := by decide +kernel
theorem dX9_count_56 : decode cX9_count 56 = .ok (.aload_n 0, 1) := by decide +kernel
theorem dX9_count_57 : decode cX9_count 57 = .ok (.getfield 16, 3) := by decide +kernel
theorem dX9_count_60 : decode cX9_count 60 = .ok (.getfield 369, 3) := by decide +kernel
theorem dX9_count_63 : decode cX9_count 63 = .ok (.ireturn, 1) := by decide +kernel
theorem dX9_count_64 : decode cX9_count 64 = .ok (.aload_n 0, 1) := by decide +kernel
theorem dX9_count_65 : decode cX9_count 65 = .ok (.getfield 16, 3) := by decide +kernel
theorem dX9_count_68 : decode cX9_count 68 = .ok (.getfield 241, 3) := by decide +kernel
theorem dX9_count_71 : decode cX9_count 71 = .ok (.ireturn, 1) := by decide +kernel
theorem dX9_count_72 : decode cX9_count 72 = .ok (.aload_n 0, 1) := by decide +kernel
theorem dX9_count_73 : decode cX9_count 73 = .ok (.getfield 16, 3) := by decide +kernel
theorem dX9_count_76 : decode cX9_count 76 = .ok (.getfield 131, 3) := by decide +kernel
theorem dX9_count_79 : decode cX9_count 79 = .ok (.getfield 146, 3) := by decide +kernel
theorem dX9_count_82 : decode cX9_count 82 = .ok (.ireturn, 1) := by decide +kernel
theorem dX9_count_83 : decode cX9_count 83 = .ok (.aload_n 0, 1) := by decide +kernel
theorem dX9_count_84 : decode cX9_count 84 = .ok (.getfield 16, 3) := by decide +kernel
theorem dX9_count_87 : decode cX9_count 87 = .ok (.getfield 131, 3) := by decide +kernel
theorem dX9_count_90 : decode cX9_count 90 = .ok (.getfield 198, 3) := by decide +kernel
theorem dX9_count_93 : decode cX9_count 93 = .ok (.ireturn, 1) := by decide +kernel
theorem dX9_count_94 : decode cX9_count 94 = .ok (.aload_n 0, 1) := by decide +kernel
theorem dX9_count_95 : decode cX9_count 95 = .ok (.getfield 41, 3) := by decide +kernel
theorem dX9_count_98 : decode cX9_count 98 = .ok (.getfield 201, 3) := by decide +kernel
theorem dX9_count_101 : decode cX9_count 101 = .ok (.ireturn, 1) := by decide +kernel
theorem dX9_count_102 : decode cX9_count 102 = .ok (.aload_n 0, 1) := by decide +kernel
theorem dX9_count_103 : decode cX9_count 103 = .ok (.getfield 100, 3) := by decide +kernel
theorem dX9_count_106 : decode cX9_count 106 = .ok (.ireturn, 1) := by decide +kernel
theorem dX9_count_107 : decode cX9_count 107 = .ok (.aload_n 0, 1) := by decide +kernel
theorem dX9_count_108 : decode cX9_count 108 = .ok (.getfield 16, 3) := by decide +kernel
theorem dX9_count_111 : decode cX9_count 111 = .ok (.getfield 121, 3) := by decide +kernel
theorem dX9_count_114 : decode cX9_count 114 = .ok (.ireturn, 1) := by decide +kernel
theorem dX9_count_115 : decode cX9_count 115 = .ok (.iconst (-1), 1) := by decide +kernel
theorem dX9_count_116 : decode cX9_count 116 = .ok (.ireturn, 1) := by decide +kernel
theorem dX9_isPerson_0 : decode cX9_isPerson 0 = .ok (.iload_n 1, 1) := by decide +kernel
theorem dX9_isPerson_1 : decode cX9_isPerson 1 = .ok (.ifCond .lt 18, 3) := by decide +kernel
theorem dX9_isPerson_4 : decode cX9_isPerson 4 = .ok (.iload_n 1, 1) := by decide +kernel
theorem dX9_isPerson_5 : decode cX9_isPerson 5 = .ok (.aload_n 0, 1) := by decide +kernel
theorem dX9_isPerson_6 : decode cX9_isPerson 6 = .ok (.getfield 16, 3) := by decide +kernel
theorem dX9_isPerson_9 : decode cX9_isPerson 9 = .ok (.getfield 241, 3) := by decide +kernel
theorem dX9_isPerson_12 : decode cX9_isPerson 12 = .ok (.if_icmp .ge 7, 3) := by decide +kernel
theorem dX9_isPerson_15 : decode cX9_isPerson 15 = .ok (.iconst 1, 1) := by decide +kernel
theorem dX9_isPerson_16 : decode cX9_isPerson 16 = .ok (.goto 4, 3) := by decide +kernel
theorem dX9_isPerson_19 : decode cX9_isPerson 19 = .ok (.iconst 0, 1) := by decide +kernel
theorem dX9_isPerson_20 : decode cX9_isPerson 20 = .ok (.ireturn, 1) := by decide +kernel
theorem dX9_isMinute_0 : decode cX9_isMinute 0 = .ok (.iload_n 0, 1) := by decide +kernel
theorem dX9_isMinute_1 : decode cX9_isMinute 1 = .ok (.ifCond .lt 13, 3) := by decide +kernel
theorem dX9_isMinute_4 : decode cX9_isMinute 4 = .ok (.iload_n 0, 1) := by decide +kernel
theorem dX9_isMinute_5 : decode cX9_isMinute 5 = .ok (.bipush 100, 2) := by decide +kernel
theorem dX9_isMinute_7 : decode cX9_isMinute 7 = .ok (.if_icmp .ge 7, 3) := by decide +kernel
theorem dX9_isMinute_10 : decode cX9_isMinute 10 = .ok (.iconst 1, 1) := by decide +kernel
theorem dX9_isMinute_11 : decode cX9_isMinute 11 = .ok (.goto 4, 3) := by decide +kernel
theorem dX9_isMinute_14 : decode cX9_isMinute 14 = .ok (.iconst 0, 1) := by decide +kernel
theorem dX9_isMinute_15 : decode cX9_isMinute 15 = .ok (.ireturn, 1) := by decide +kernel
theorem dX9_isGap_0 : decode cX9_isGap 0 = .ok (.lload_n 0, 1) := by decide +kernel
theorem dX9_isGap_1 : decode cX9_isGap 1 = .ok (.lconst 1, 1) := by decide +kernel
theorem dX9_isGap_2 : decode cX9_isGap 2 = .ok (.lcmp, 1) := by decide +kernel
theorem dX9_isGap_3 : decode cX9_isGap 3 = .ok (.ifCond .lt 15, 3) := by decide +kernel
theorem dX9_isGap_6 : decode cX9_isGap 6 = .ok (.lload_n 0, 1) := by decide +kernel
theorem dX9_isGap_7 : decode cX9_isGap 7 = .ok (.ldc2_w 372, 3) := by decide +kernel
theorem dX9_isGap_10 : decode cX9_isGap 10 = .ok (.lcmp, 1) := by decide +kernel
theorem dX9_isGap_11 : decode cX9_isGap 11 = .ok (.ifCond .gt 7, 3) := by decide +kernel
theorem dX9_isGap_14 : decode cX9_isGap 14 = .ok (.iconst 1, 1) := by decide +kernel
theorem dX9_isGap_15 : decode cX9_isGap 15 = .ok (.goto 4, 3) := by decide +kernel
theorem dX9_isGap_18 : decode cX9_isGap 18 = .ok (.iconst 0, 1) := by decide +kernel
theorem dX9_isGap_19 : decode cX9_isGap 19 = .ok (.ireturn, 1) := by decide +kernel
theorem dX9_isTray_0 : decode cX9_isTray 0 = .ok (.iload_n 0, 1) := by decide +kernel
theorem dX9_isTray_1 : decode cX9_isTray 1 = .ok (.ifCond .lt 12, 3) := by decide +kernel
theorem dX9_isTray_4 : decode cX9_isTray 4 = .ok (.iload_n 0, 1) := by decide +kernel
theorem dX9_isTray_5 : decode cX9_isTray 5 = .ok (.iconst 4, 1) := by decide +kernel
theorem dX9_isTray_6 : decode cX9_isTray 6 = .ok (.if_icmp .ge 7, 3) := by decide +kernel
theorem dX9_isTray_9 : decode cX9_isTray 9 = .ok (.iconst 1, 1) := by decide +kernel
theorem dX9_isTray_10 : decode cX9_isTray 10 = .ok (.goto 4, 3) := by decide +kernel
theorem dX9_isTray_13 : decode cX9_isTray 13 = .ok (.iconst 0, 1) := by decide +kernel
theorem dX9_isTray_14 : decode cX9_isTray 14 = .ok (.ireturn, 1) := by decide +kernel
theorem dX9_isImage_0 : decode cX9_isImage 0 = .ok (.iload_n 0, 1) := by decide +kernel
theorem dX9_isImage_1 : decode cX9_isImage 1 = .ok (.ifCond .lt 12, 3) := by decide +kernel
theorem dX9_isImage_4 : decode cX9_isImage 4 = .ok (.iload_n 0, 1) := by decide +kernel
theorem dX9_isImage_5 : decode cX9_isImage 5 = .ok (.iconst 2, 1) := by decide +kernel
theorem dX9_isImage_6 : decode cX9_isImage 6 = .ok (.if_icmp .ge 7, 3) := by decide +kernel
theorem dX9_isImage_9 : decode cX9_isImage 9 = .ok (.iconst 1, 1) := by decide +kernel
theorem dX9_isImage_10 : decode cX9_isImage 10 = .ok (.goto 4, 3) := by decide +kernel
theorem dX9_isImage_13 : decode cX9_isImage 13 = .ok (.iconst 0, 1) := by decide +kernel
theorem dX9_isImage_14 : decode cX9_isImage 14 = .ok (.ireturn, 1) := by decide +kernel
theorem dX9_tapeInt_0 : decode cX9_tapeInt 0 = .ok (.bipush 24, 2) := by decide +kernel
theorem dX9_tapeInt_2 : decode cX9_tapeInt 2 = .ok (.istore_n 2, 1) := by decide +kernel
theorem dX9_tapeInt_3 : decode cX9_tapeInt 3 = .ok (.iload_n 2, 1) := by decide +kernel
theorem dX9_tapeInt_4 : decode cX9_tapeInt 4 = .ok (.ifCond .lt 42, 3) := by decide +kernel
theorem dX9_tapeInt_7 : decode cX9_tapeInt 7 = .ok (.aload_n 0, 1) := by decide +kernel
theorem dX9_tapeInt_8 : decode cX9_tapeInt 8 = .ok (.getfield 100, 3) := by decide +kernel
theorem dX9_tapeInt_11 : decode cX9_tapeInt 11 = .ok (.sipush 900, 3) := by decide +kernel
theorem dX9_tapeInt_14 : decode cX9_tapeInt 14 = .ok (.if_icmp .ge 26, 3) := by decide +kernel
theorem dX9_tapeInt_17 : decode cX9_tapeInt 17 = .ok (.aload_n 0, 1) := by decide +kernel
theorem dX9_tapeInt_18 : decode cX9_tapeInt 18 = .ok (.getfield 9, 3) := by decide +kernel
theorem dX9_tapeInt_21 : decode cX9_tapeInt 21 = .ok (.aload_n 0, 1) := by decide +kernel
theorem dX9_tapeInt_22 : decode cX9_tapeInt 22 = .ok (.getfield 100, 3) := by decide +kernel
theorem dX9_tapeInt_25 : decode cX9_tapeInt 25 = .ok (.iload_n 1, 1) := by decide +kernel
theorem dX9_tapeInt_26 : decode cX9_tapeInt 26 = .ok (.iload_n 2, 1) := by decide +kernel
theorem dX9_tapeInt_27 : decode cX9_tapeInt 27 = .ok (.iushr, 1) := by decide +kernel
theorem dX9_tapeInt_28 : decode cX9_tapeInt 28 = .ok (.i2b, 1) := by decide +kernel
theorem dX9_tapeInt_29 : decode cX9_tapeInt 29 = .ok (.bastore, 1) := by decide +kernel
theorem dX9_tapeInt_30 : decode cX9_tapeInt 30 = .ok (.aload_n 0, 1) := by decide +kernel
theorem dX9_tapeInt_31 : decode cX9_tapeInt 31 = .ok (.dup, 1) := by decide +kernel
theorem dX9_tapeInt_32 : decode cX9_tapeInt 32 = .ok (.getfield 100, 3) := by decide +kernel
theorem dX9_tapeInt_35 : decode cX9_tapeInt 35 = .ok (.iconst 1, 1) := by decide +kernel
theorem dX9_tapeInt_36 : decode cX9_tapeInt 36 = .ok (.iadd, 1) := by decide +kernel
theorem dX9_tapeInt_37 : decode cX9_tapeInt 37 = .ok (.putfield 100, 3) := by decide +kernel
theorem dX9_tapeInt_40 : decode cX9_tapeInt 40 = .ok (.iinc 2 (-8), 3) := by decide +kernel
theorem dX9_tapeInt_43 : decode cX9_tapeInt 43 = .ok (.goto (-40), 3) := by decide +kernel
theorem dX9_tapeInt_46 : decode cX9_tapeInt 46 = .ok (.return_, 1) := by decide +kernel
theorem dX9_forgetAnswers_0 : decode cX9_forgetAnswers 0 = .ok (.aload_n 0, 1) := by decide +kernel
theorem dX9_forgetAnswers_1 : decode cX9_forgetAnswers 1 = .ok (.iconst 0, 1) := by decide +kernel
theorem dX9_forgetAnswers_2 : decode cX9_forgetAnswers 2 = .ok (.putfield 374, 3) := by decide +kernel
theorem dX9_forgetAnswers_5 : decode cX9_forgetAnswers 5 = .ok (.aload_n 0, 1) := by decide +kernel
theorem dX9_forgetAnswers_6 : decode cX9_forgetAnswers 6 = .ok (.getfield 68, 3) := by decide +kernel
theorem dX9_forgetAnswers_9 : decode cX9_forgetAnswers 9 = .ok (.iconst 0, 1) := by decide +kernel
theorem dX9_forgetAnswers_10 : decode cX9_forgetAnswers 10 = .ok (.putfield 377, 3) := by decide +kernel
theorem dX9_forgetAnswers_13 : decode cX9_forgetAnswers 13 = .ok (.aload_n 0, 1) := by decide +kernel
theorem dX9_forgetAnswers_14 : decode cX9_forgetAnswers 14 = .ok (.getfield 75, 3) := by decide +kernel
theorem dX9_forgetAnswers_17 : decode cX9_forgetAnswers 17 = .ok (.iconst (-1), 1) := by decide +kernel
theorem dX9_forgetAnswers_18 : decode cX9_forgetAnswers 18 = .ok (.putfield 288, 3) := by decide +kernel
theorem dX9_forgetAnswers_21 : decode cX9_forgetAnswers 21 = .ok (.return_, 1) := by decide +kernel
theorem dX9_know_0 : decode cX9_know 0 = .ok (.aload_n 0, 1) := by decide +kernel
theorem dX9_know_1 : decode cX9_know 1 = .ok (.getfield 374, 3) := by decide +kernel
theorem dX9_know_4 : decode cX9_know 4 = .ok (.ifCond .ne 48, 3) := by decide +kernel
theorem dX9_know_7 : decode cX9_know 7 = .ok (.aload_n 0, 1) := by decide +kernel
theorem dX9_know_8 : decode cX9_know 8 = .ok (.getfield 54, 3) := by decide +kernel
theorem dX9_know_11 : decode cX9_know 11 = .ok (.aload_n 0, 1) := by decide +kernel
theorem dX9_know_12 : decode cX9_know 12 = .ok (.getfield 16, 3) := by decide +kernel
theorem dX9_know_15 : decode cX9_know 15 = .ok (.aload_n 0, 1) := by decide +kernel
theorem dX9_know_16 : decode cX9_know 16 = .ok (.getfield 16, 3) := by decide +kernel
theorem dX9_know_19 : decode cX9_know 19 = .ok (.getfield 131, 3) := by decide +kernel
theorem dX9_know_22 : decode cX9_know 22 = .ok (.invokevirtual 230, 3) := by decide +kernel
theorem dX9_know_25 : decode cX9_know 25 = .ok (.aload_n 0, 1) := by decide +kernel
theorem dX9_know_26 : decode cX9_know 26 = .ok (.getfield 61, 3) := by decide +kernel
theorem dX9_know_29 : decode cX9_know 29 = .ok (.aload_n 0, 1) := by decide +kernel
theorem dX9_know_30 : decode cX9_know 30 = .ok (.getfield 16, 3) := by decide +kernel
theorem dX9_know_33 : decode cX9_know 33 = .ok (.getfield 131, 3) := by decide +kernel
theorem dX9_know_36 : decode cX9_know 36 = .ok (.aload_n 0, 1) := by decide +kernel
theorem dX9_know_37 : decode cX9_know 37 = .ok (.getfield 54, 3) := by decide +kernel
theorem dX9_know_40 : decode cX9_know 40 = .ok (.bipush 99, 2) := by decide +kernel
theorem dX9_know_42 : decode cX9_know 42 = .ok (.iconst (-1), 1) := by decide +kernel
theorem dX9_know_43 : decode cX9_know 43 = .ok (.invokevirtual 234, 3) := by decide +kernel
theorem dX9_know_46 : decode cX9_know 46 = .ok (.pop, 1) := by decide +kernel
theorem dX9_know_47 : decode cX9_know 47 = .ok (.aload_n 0, 1) := by decide +kernel
theorem dX9_know_48 : decode cX9_know 48 = .ok (.iconst 1, 1) := by decide +kernel
theorem dX9_know_49 : decode cX9_know 49 = .ok (.putfield 374, 3) := by decide +kernel
theorem dX9_know_52 : decode cX9_know 52 = .ok (.return_, 1) := by decide +kernel
theorem dX9_knowOdds_0 : decode cX9_knowOdds 0 = .ok (.aload_n 0, 1) := by decide +kernel
theorem dX9_knowOdds_1 : decode cX9_knowOdds 1 = .ok (.invokevirtual 161, 3) := by decide +kernel
theorem dX9_knowOdds_4 : decode cX9_knowOdds 4 = .ok (.aload_n 0, 1) := by decide +kernel
theorem dX9_knowOdds_5 : decode cX9_knowOdds 5 = .ok (.getfield 68, 3) := by decide +kernel
theorem dX9_knowOdds_8 : decode cX9_knowOdds 8 = .ok (.getfield 377, 3) := by decide +kernel
theorem dX9_knowOdds_11 : decode cX9_knowOdds 11 = .ok (.ifCond .ne 26, 3) := by decide +kernel
theorem dX9_knowOdds_14 : decode cX9_knowOdds 14 = .ok (.aload_n 0, 1) := by decide +kernel
theorem dX9_knowOdds_15 : decode cX9_knowOdds 15 = .ok (.getfield 68, 3) := by decide +kernel
theorem dX9_knowOdds_18 : decode cX9_knowOdds 18 = .ok (.aload_n 0, 1) := by decide +kernel
theorem dX9_knowOdds_19 : decode cX9_knowOdds 19 = .ok (.getfield 16, 3) := by decide +kernel
theorem dX9_knowOdds_22 : decode cX9_knowOdds 22 = .ok (.aload_n 0, 1) := by decide +kernel
theorem dX9_knowOdds_23 : decode cX9_knowOdds 23 = .ok (.getfield 54, 3) := by decide +kernel
theorem dX9_knowOdds_26 : decode cX9_knowOdds 26 = .ok (.aload_n 0, 1) := by decide +kernel
theorem dX9_knowOdds_27 : decode cX9_knowOdds 27 = .ok (.getfield 82, 3) := by decide +kernel
theorem dX9_knowOdds_30 : decode cX9_knowOdds 30 = .ok (.aload_n 0, 1) := by decide +kernel
theorem dX9_knowOdds_31 : decode cX9_knowOdds 31 = .ok (.getfield 89, 3) := by decide +kernel
theorem dX9_knowOdds_34 : decode cX9_knowOdds 34 = .ok (.invokevirtual 378, 3) := by decide +kernel
theorem dX9_knowOdds_37 : decode cX9_knowOdds 37 = .ok (.return_, 1) := by decide +kernel
theorem dX9_lowestTerms_0 : decode cX9_lowestTerms 0 = .ok (.lload_n 0, 1) := by decide +kernel
theorem dX9_lowestTerms_1 : decode cX9_lowestTerms 1 = .ok (.lstore 5, 2) := by decide +kernel
theorem dX9_lowestTerms_3 : decode cX9_lowestTerms 3 = .ok (.lload_n 2, 1) := by decide +kernel
theorem dX9_lowestTerms_4 : decode cX9_lowestTerms 4 = .ok (.lstore 7, 2) := by decide +kernel
theorem dX9_lowestTerms_6 : decode cX9_lowestTerms 6 = .ok (.iconst 0, 1) := by decide +kernel
theorem dX9_lowestTerms_7 : decode cX9_lowestTerms 7 = .ok (.istore 9, 2) := by decide +kernel
theorem dX9_lowestTerms_9 : decode cX9_lowestTerms 9 = .ok (.iload 9, 2) := by decide +kernel
theorem dX9_lowestTerms_11 : decode cX9_lowestTerms 11 = .ok (.bipush 100, 2) := by decide +kernel
theorem dX9_lowestTerms_13 : decode cX9_lowestTerms 13 = .ok (.if_icmp .ge 31, 3) := by decide +kernel
theorem dX9_lowestTerms_16 : decode cX9_lowestTerms 16 = .ok (.lload 7, 2) := by decide +kernel
theorem dX9_lowestTerms_18 : decode cX9_lowestTerms 18 = .ok (.lconst 0, 1) := by decide +kernel
theorem dX9_lowestTerms_19 : decode cX9_lowestTerms 19 = .ok (.lcmp, 1) := by decide +kernel
theorem dX9_lowestTerms_20 : decode cX9_lowestTerms 20 = .ok (.ifCond .eq 24, 3) := by decide +kernel
theorem dX9_lowestTerms_23 : decode cX9_lowestTerms 23 = .ok (.lload 5, 2) := by decide +kernel
theorem dX9_lowestTerms_25 : decode cX9_lowestTerms 25 = .ok (.lload 7, 2) := by decide +kernel
theorem dX9_lowestTerms_27 : decode cX9_lowestTerms 27 = .ok (.lrem, 1) := by decide +kernel
theorem dX9_lowestTerms_28 : decode cX9_lowestTerms 28 = .ok (.lstore 10, 2) := by decide +kernel
theorem dX9_lowestTerms_30 : decode cX9_lowestTerms 30 = .ok (.lload 7, 2) := by decide +kernel
theorem dX9_lowestTerms_32 : decode cX9_lowestTerms 32 = .ok (.lstore 5, 2) := by decide +kernel
theorem dX9_lowestTerms_34 : decode cX9_lowestTerms 34 = .ok (.lload 10, 2) := by decide +kernel
theorem dX9_lowestTerms_36 : decode cX9_lowestTerms 36 = .ok (.lstore 7, 2) := by decide +kernel
theorem dX9_lowestTerms_38 : decode cX9_lowestTerms 38 = .ok (.iinc 9 1, 3) := by decide +kernel
theorem dX9_lowestTerms_41 : decode cX9_lowestTerms 41 = .ok (.goto (-32), 3) := by decide +kernel
theorem dX9_lowestTerms_44 : decode cX9_lowestTerms 44 = .ok (.lload 5, 2) := by decide +kernel
theorem dX9_lowestTerms_46 : decode cX9_lowestTerms 46 = .ok (.lconst 0, 1) := by decide +kernel
theorem dX9_lowestTerms_47 : decode cX9_lowestTerms 47 = .ok (.lcmp, 1) := by decide +kernel
theorem dX9_lowestTerms_48 : decode cX9_lowestTerms 48 = .ok (.ifCond .ne 5, 3) := by decide +kernel
theorem dX9_lowestTerms_51 : decode cX9_lowestTerms 51 = .ok (.lconst 0, 1) := by decide +kernel
theorem dX9_lowestTerms_52 : decode cX9_lowestTerms 52 = .ok (.lreturn, 1) := by decide +kernel
theorem dX9_lowestTerms_53 : decode cX9_lowestTerms 53 = .ok (.iload 4, 2) := by decide +kernel
theorem dX9_lowestTerms_55 : decode cX9_lowestTerms 55 = .ok (.ifCond .ne 10, 3) := by decide +kernel
theorem dX9_lowestTerms_58 : decode cX9_lowestTerms 58 = .ok (.lload_n 0, 1) := by decide +kernel
theorem dX9_lowestTerms_59 : decode cX9_lowestTerms 59 = .ok (.lload 5, 2) := by decide +kernel
theorem dX9_lowestTerms_61 : decode cX9_lowestTerms 61 = .ok (.ldiv, 1) := by decide +kernel
theorem dX9_lowestTerms_62 : decode cX9_lowestTerms 62 = .ok (.goto 7, 3) := by decide +kernel
theorem dX9_lowestTerms_65 : decode cX9_lowestTerms 65 = .ok (.lload_n 2, 1) := by decide +kernel
theorem dX9_lowestTerms_66 : decode cX9_lowestTerms 66 = .ok (.lload 5, 2) := by decide +kernel
theorem dX9_lowestTerms_68 : decode cX9_lowestTerms 68 = .ok (.ldiv, 1) := by decide +kernel
theorem dX9_lowestTerms_69 : decode cX9_lowestTerms 69 = .ok (.lreturn, 1) := by decide +kernel
theorem dX9_tellIn_0 : decode cX9_tellIn 0 = .ok (.aload_n 0, 1) := by decide +kernel
theorem dX9_tellIn_1 : decode cX9_tellIn 1 = .ok (.iload_n 2, 1) := by decide +kernel
theorem dX9_tellIn_2 : decode cX9_tellIn 2 = .ok (.invokevirtual 127, 3) := by decide +kernel
theorem dX9_tellIn_5 : decode cX9_tellIn 5 = .ok (.ifCond .eq 24, 3) := by decide +kernel
theorem dX9_tellIn_8 : decode cX9_tellIn 8 = .ok (.aload_n 0, 1) := by decide +kernel
theorem dX9_tellIn_9 : decode cX9_tellIn 9 = .ok (.iload_n 3, 1) := by decide +kernel
theorem dX9_tellIn_10 : decode cX9_tellIn 10 = .ok (.invokevirtual 127, 3) := by decide +kernel
theorem dX9_tellIn_13 : decode cX9_tellIn 13 = .ok (.ifCond .eq 16, 3) := by decide +kernel
theorem dX9_tellIn_16 : decode cX9_tellIn 16 = .ok (.iload_n 2, 1) := by decide +kernel
theorem dX9_tellIn_17 : decode cX9_tellIn 17 = .ok (.iload_n 3, 1) := by decide +kernel
theorem dX9_tellIn_18 : decode cX9_tellIn 18 = .ok (.if_icmp .eq 11, 3) := by decide +kernel
theorem dX9_tellIn_21 : decode cX9_tellIn 21 = .ok (.iload 4, 2) := by decide +kernel
theorem dX9_tellIn_23 : decode cX9_tellIn 23 = .ok (.invokestatic 264, 3) := by decide +kernel
theorem dX9_tellIn_26 : decode cX9_tellIn 26 = .ok (.ifCond .ne 5, 3) := by decide +kernel
theorem dX9_tellIn_29 : decode cX9_tellIn 29 = .ok (.iconst 1, 1) := by decide +kernel
theorem dX9_tellIn_30 : decode cX9_tellIn 30 = .ok (.ireturn, 1) := by decide +kernel
theorem dX9_tellIn_31 : decode cX9_tellIn 31 = .ok (.aload_n 1, 1) := by decide +kernel
theorem dX9_tellIn_32 : decode cX9_tellIn 32 = .ok (.getfield 146, 3) := by decide +kernel
theorem dX9_tellIn_35 : decode cX9_tellIn 35 = .ok (.bipush 8, 2) := by decide +kernel
theorem dX9_tellIn_37 : decode cX9_tellIn 37 = .ok (.if_icmp .lt 5, 3) := by decide +kernel
theorem dX9_tellIn_40 : decode cX9_tellIn 40 = .ok (.iconst 2, 1) := by decide +kernel
theorem dX9_tellIn_41 : decode cX9_tellIn 41 = .ok (.ireturn, 1) := by decide +kernel
theorem dX9_tellIn_42 : decode cX9_tellIn 42 = .ok (.aload_n 1, 1) := by decide +kernel
theorem dX9_tellIn_43 : decode cX9_tellIn 43 = .ok (.iload_n 2, 1) := by decide +kernel
theorem dX9_tellIn_44 : decode cX9_tellIn 44 = .ok (.iload_n 3, 1) := by decide +kernel
theorem dX9_tellIn_45 : decode cX9_tellIn 45 = .ok (.iload 4, 2) := by decide +kernel
theorem dX9_tellIn_47 : decode cX9_tellIn 47 = .ok (.bipush 10, 2) := by decide +kernel
theorem dX9_tellIn_49 : decode cX9_tellIn 49 = .ok (.invokevirtual 382, 3) := by decide +kernel
theorem dX9_tellIn_52 : decode cX9_tellIn 52 = .ok (.iconst 0, 1) := by decide +kernel
theorem dX9_tellIn_53 : decode cX9_tellIn 53 = .ok (.ireturn, 1) := by decide +kernel
theorem dX9_dropIn_0 : decode cX9_dropIn 0 = .ok (.iload_n 1, 1) := by decide +kernel
theorem dX9_dropIn_1 : decode cX9_dropIn 1 = .ok (.ifCond .lt 11, 3) := by decide +kernel
theorem dX9_dropIn_4 : decode cX9_dropIn 4 = .ok (.iload_n 1, 1) := by decide +kernel
theorem dX9_dropIn_5 : decode cX9_dropIn 5 = .ok (.aload_n 0, 1) := by decide +kernel
theorem dX9_dropIn_6 : decode cX9_dropIn 6 = .ok (.getfield 146, 3) := by decide +kernel
theorem dX9_dropIn_9 : decode cX9_dropIn 9 = .ok (.if_icmp .lt 5, 3) := by decide +kernel
theorem dX9_dropIn_12 : decode cX9_dropIn 12 = .ok (.iconst 1, 1) := by decide +kernel
theorem dX9_dropIn_13 : decode cX9_dropIn 13 = .ok (.ireturn, 1) := by decide +kernel
theorem dX9_dropIn_14 : decode cX9_dropIn 14 = .ok (.aload_n 0, 1) := by decide +kernel
theorem dX9_dropIn_15 : decode cX9_dropIn 15 = .ok (.iload_n 1, 1) := by decide +kernel
theorem dX9_dropIn_16 : decode cX9_dropIn 16 = .ok (.invokevirtual 386, 3) := by decide +kernel
theorem dX9_dropIn_19 : decode cX9_dropIn 19 = .ok (.iconst 0, 1) := by decide +kernel
theorem dX9_dropIn_20 : decode cX9_dropIn 20 = .ok (.ireturn, 1) := by decide +kernel
theorem dX9_moveIn_0 : decode cX9_moveIn 0 = .ok (.aload_n 0, 1) := by decide +kernel
theorem dX9_moveIn_1 : decode cX9_moveIn 1 = .ok (.iload_n 2, 1) := by decide +kernel
theorem dX9_moveIn_2 : decode cX9_moveIn 2 = .ok (.invokevirtual 127, 3) := by decide +kernel
theorem dX9_moveIn_5 : decode cX9_moveIn 5 = .ok (.ifCond .eq 18, 3) := by decide +kernel
theorem dX9_moveIn_8 : decode cX9_moveIn 8 = .ok (.iload_n 3, 1) := by decide +kernel
theorem dX9_moveIn_9 : decode cX9_moveIn 9 = .ok (.ifCond .lt 14, 3) := by decide +kernel
theorem dX9_moveIn_12 : decode cX9_moveIn 12 = .ok (.iload_n 3, 1) := by decide +kernel
theorem dX9_moveIn_13 : decode cX9_moveIn 13 = .ok (.aload_n 0, 1) := by decide +kernel
theorem dX9_moveIn_14 : decode cX9_moveIn 14 = .ok (.getfield 16, 3) := by decide +kernel
theorem dX9_moveIn_17 : decode cX9_moveIn 17 = .ok (.invokevirtual 278, 3) := by decide +kernel
theorem dX9_moveIn_20 : decode cX9_moveIn 20 = .ok (.if_icmp .lt 5, 3) := by decide +kernel
theorem dX9_moveIn_23 : decode cX9_moveIn 23 = .ok (.iconst 1, 1) := by decide +kernel
theorem dX9_moveIn_24 : decode cX9_moveIn 24 = .ok (.ireturn, 1) := by decide +kernel
theorem dX9_moveIn_25 : decode cX9_moveIn 25 = .ok (.aload_n 1, 1) := by decide +kernel
theorem dX9_moveIn_26 : decode cX9_moveIn 26 = .ok (.getfield 134, 3) := by decide +kernel
theorem dX9_moveIn_29 : decode cX9_moveIn 29 = .ok (.iload_n 2, 1) := by decide +kernel
theorem dX9_moveIn_30 : decode cX9_moveIn 30 = .ok (.iload_n 3, 1) := by decide +kernel
theorem dX9_moveIn_31 : decode cX9_moveIn 31 = .ok (.iastore, 1) := by decide +kernel
theorem dX9_moveIn_32 : decode cX9_moveIn 32 = .ok (.iconst 0, 1) := by decide +kernel
theorem dX9_moveIn_33 : decode cX9_moveIn 33 = .ok (.ireturn, 1) := by decide +kernel
theorem dX9_windIn_0 : decode cX9_windIn 0 = .ok (.iload_n 1, 1) := by decide +kernel
theorem dX9_windIn_1 : decode cX9_windIn 1 = .ok (.ifCond .lt 9, 3) := by decide +kernel
theorem dX9_windIn_4 : decode cX9_windIn 4 = .ok (.iload_n 1, 1) := by decide +kernel
theorem dX9_windIn_5 : decode cX9_windIn 5 = .ok (.bipush 10, 2) := by decide +kernel
theorem dX9_windIn_7 : decode cX9_windIn 7 = .ok (.if_icmp .lt 5, 3) := by decide +kernel
theorem dX9_windIn_10 : decode cX9_windIn 10 = .ok (.iconst 1, 1) := by decide +kernel
theorem dX9_windIn_11 : decode cX9_windIn 11 = .ok (.ireturn, 1) := by decide +kernel
theorem dX9_windIn_12 : decode cX9_windIn 12 = .ok (.aload_n 0, 1) := by decide +kernel
theorem dX9_windIn_13 : decode cX9_windIn 13 = .ok (.iload_n 1, 1) := by decide +kernel
theorem dX9_windIn_14 : decode cX9_windIn 14 = .ok (.putfield 198, 3) := by decide +kernel
theorem dX9_windIn_17 : decode cX9_windIn 17 = .ok (.iconst 0, 1) := by decide +kernel
theorem dX9_windIn_18 : decode cX9_windIn 18 = .ok (.ireturn, 1) := by decide +kernel
theorem dX9_deed_0 : decode cX9_deed 0 = .ok (.lload_n 2, 1) := by decide +kernel
theorem dX9_deed_1 : decode cX9_deed 1 = .ok (.lconst 0, 1) := by decide +kernel
theorem dX9_deed_2 : decode cX9_deed 2 = .ok (.lcmp, 1) := by decide +kernel
theorem dX9_deed_3 : decode cX9_deed 3 = .ok (.ifCond .lt 11, 3) := by decide +kernel
theorem dX9_deed_6 : decode cX9_deed 6 = .ok (.lload_n 2, 1) := by decide +kernel
theorem dX9_deed_7 : decode cX9_deed 7 = .ok (.ldc2_w 389, 3) := by decide +kernel
theorem dX9_deed_10 : decode cX9_deed 10 = .ok (.lcmp, 1) := by decide +kernel
theorem dX9_deed_11 : decode cX9_deed 11 = .ok (.ifCond .le 5, 3) := by decide +kernel
theorem dX9_deed_14 : decode cX9_deed 14 = .ok (.iconst 1, 1) := by decide +kernel
theorem dX9_deed_15 : decode cX9_deed 15 = .ok (.ireturn, 1) := by decide +kernel
theorem dX9_deed_16 : decode cX9_deed 16 = .ok (.lload_n 2, 1) := by decide +kernel
theorem dX9_deed_17 : decode cX9_deed 17 = .ok (.l2i, 1) := by decide +kernel
theorem dX9_deed_18 : decode cX9_deed 18 = .ok (.istore 4, 2) := by decide +kernel
theorem dX9_deed_20 : decode cX9_deed 20 = .ok (.iload 4, 2) := by decide +kernel
theorem dX9_deed_22 : decode cX9_deed 22 = .ok (.sipush 8000, 3) := by decide +kernel
theorem dX9_deed_25 : decode cX9_deed 25 = .ok (.if_icmp .ge 28, 3) := by decide +kernel
theorem dX9_deed_28 : decode cX9_deed 28 = .ok (.aload_n 0, 1) := by decide +kernel
theorem dX9_deed_29 : decode cX9_deed 29 = .ok (.aload_n 1, 1) := by decide +kernel
theorem dX9_deed_30 : decode cX9_deed 30 = .ok (.iload 4, 2) := by decide +kernel
theorem dX9_deed_32 : decode cX9_deed 32 = .ok (.sipush 1000, 3) := by decide +kernel
theorem dX9_deed_35 : decode cX9_deed 35 = .ok (.idiv, 1) := by decide +kernel
theorem dX9_deed_36 : decode cX9_deed 36 = .ok (.iload 4, 2) := by decide +kernel
theorem dX9_deed_38 : decode cX9_deed 38 = .ok (.bipush 100, 2) := by decide +kernel
theorem dX9_deed_40 : decode cX9_deed 40 = .ok (.idiv, 1) := by decide +kernel
theorem dX9_deed_41 : decode cX9_deed 41 = .ok (.bipush 10, 2) := by decide +kernel
theorem dX9_deed_43 : decode cX9_deed 43 = .ok (.irem, 1) := by decide +kernel
theorem dX9_deed_44 : decode cX9_deed 44 = .ok (.iload 4, 2) := by decide +kernel
theorem dX9_deed_46 : decode cX9_deed 46 = .ok (.bipush 100, 2) := by decide +kernel
theorem dX9_deed_48 : decode cX9_deed 48 = .ok (.irem, 1) := by decide +kernel
theorem dX9_deed_49 : decode cX9_deed 49 = .ok (.invokevirtual 180, 3) := by decide +kernel
theorem dX9_deed_52 : decode cX9_deed 52 = .ok (.ireturn, 1) := by decide +kernel
theorem dX9_deed_53 : decode cX9_deed 53 = .ok (.iload 4, 2) := by decide +kernel
theorem dX9_deed_55 : decode cX9_deed 55 = .ok (.sipush 8010, 3) := by decide +kernel
theorem dX9_deed_58 : decode cX9_deed 58 = .ok (.if_icmp .ge 14, 3) := by decide +kernel
theorem dX9_deed_61 : decode cX9_deed 61 = .ok (.aload_n 1, 1) := by decide +kernel
theorem dX9_deed_62 : decode cX9_deed 62 = .ok (.iload 4, 2) := by decide +kernel
theorem dX9_deed_64 : decode cX9_deed 64 = .ok (.sipush 8000, 3) := by decide +kernel
theorem dX9_deed_67 : decode cX9_deed 67 = .ok (.isub, 1) := by decide +kernel
theorem dX9_deed_68 : decode cX9_deed 68 = .ok (.invokestatic 187, 3) := by decide +kernel
theorem dX9_deed_71 : decode cX9_deed 71 = .ok (.ireturn, 1) := by decide +kernel
theorem dX9_deed_72 : decode cX9_deed 72 = .ok (.iload 4, 2) := by decide +kernel
theorem dX9_deed_74 : decode cX9_deed 74 = .ok (.sipush 8100, 3) := by decide +kernel
theorem dX9_deed_77 : decode cX9_deed 77 = .ok (.if_icmp .ge 5, 3) := by decide +kernel
theorem dX9_deed_80 : decode cX9_deed 80 = .ok (.iconst 1, 1) := by decide +kernel
theorem dX9_deed_81 : decode cX9_deed 81 = .ok (.ireturn, 1) := by decide +kernel
theorem dX9_deed_82 : decode cX9_deed 82 = .ok (.iload 4, 2) := by decide +kernel
theorem dX9_deed_84 : decode cX9_deed 84 = .ok (.sipush 9000, 3) := by decide +kernel
theorem dX9_deed_87 : decode cX9_deed 87 = .ok (.if_icmp .ge 23, 3) := by decide +kernel
theorem dX9_deed_90 : decode cX9_deed 90 = .ok (.aload_n 0, 1) := by decide +kernel
theorem dX9_deed_91 : decode cX9_deed 91 = .ok (.aload_n 1, 1) := by decide +kernel
theorem dX9_deed_92 : decode cX9_deed 92 = .ok (.iload 4, 2) := by decide +kernel
theorem dX9_deed_94 : decode cX9_deed 94 = .ok (.sipush 8100, 3) := by decide +kernel
theorem dX9_deed_97 : decode cX9_deed 97 = .ok (.isub, 1) := by decide +kernel
theorem dX9_deed_98 : decode cX9_deed 98 = .ok (.bipush 100, 2) := by decide +kernel
theorem dX9_deed_100 : decode cX9_deed 100 = .ok (.idiv, 1) := by decide +kernel
theorem dX9_deed_101 : decode cX9_deed 101 = .ok (.iload 4, 2) := by decide +kernel
theorem dX9_deed_103 : decode cX9_deed 103 = .ok (.bipush 100, 2) := by decide +kernel
theorem dX9_deed_105 : decode cX9_deed 105 = .ok (.irem, 1) := by decide +kernel
theorem dX9_deed_106 : decode cX9_deed 106 = .ok (.invokevirtual 191, 3) := by decide +kernel
theorem dX9_deed_109 : decode cX9_deed 109 = .ok (.ireturn, 1) := by decide +kernel
theorem dX9_deed_110 : decode cX9_deed 110 = .ok (.aload_n 1, 1) := by decide +kernel
theorem dX9_deed_111 : decode cX9_deed 111 = .ok (.iload 4, 2) := by decide +kernel
theorem dX9_deed_113 : decode cX9_deed 113 = .ok (.sipush 9000, 3) := by decide +kernel
theorem dX9_deed_116 : decode cX9_deed 116 = .ok (.isub, 1) := by decide +kernel
theorem dX9_deed_117 : decode cX9_deed 117 = .ok (.invokestatic 195, 3) := by decide +kernel
theorem dX9_deed_120 : decode cX9_deed 120 = .ok (.ireturn, 1) := by decide +kernel
theorem dX9_tryDeeds_0 : decode cX9_tryDeeds 0 = .ok (.aload_n 0, 1) := by decide +kernel
theorem dX9_tryDeeds_1 : decode cX9_tryDeeds 1 = .ok (.getfield 82, 3) := by decide +kernel
theorem dX9_tryDeeds_4 : decode cX9_tryDeeds 4 = .ok (.aload_n 0, 1) := by decide +kernel
theorem dX9_tryDeeds_5 : decode cX9_tryDeeds 5 = .ok (.getfield 16, 3) := by decide +kernel
theorem dX9_tryDeeds_8 : decode cX9_tryDeeds 8 = .ok (.getfield 131, 3) := by decide +kernel
theorem dX9_tryDeeds_11 : decode cX9_tryDeeds 11 = .ok (.invokevirtual 176, 3) := by decide +kernel
theorem dX9_tryDeeds_14 : decode cX9_tryDeeds 14 = .ok (.iconst 0, 1) := by decide +kernel
theorem dX9_tryDeeds_15 : decode cX9_tryDeeds 15 = .ok (.istore_n 2, 1) := by decide +kernel
theorem dX9_tryDeeds_16 : decode cX9_tryDeeds 16 = .ok (.iload_n 2, 1) := by decide +kernel
theorem dX9_tryDeeds_17 : decode cX9_tryDeeds 17 = .ok (.aload_n 1, 1) := by decide +kernel
theorem dX9_tryDeeds_18 : decode cX9_tryDeeds 18 = .ok (.getfield 219, 3) := by decide +kernel
theorem dX9_tryDeeds_21 : decode cX9_tryDeeds 21 = .ok (.if_icmp .ge 26, 3) := by decide +kernel
theorem dX9_tryDeeds_24 : decode cX9_tryDeeds 24 = .ok (.aload_n 0, 1) := by decide +kernel
theorem dX9_tryDeeds_25 : decode cX9_tryDeeds 25 = .ok (.aload_n 0, 1) := by decide +kernel
theorem dX9_tryDeeds_26 : decode cX9_tryDeeds 26 = .ok (.getfield 82, 3) := by decide +kernel
theorem dX9_tryDeeds_29 : decode cX9_tryDeeds 29 = .ok (.aload_n 1, 1) := by decide +kernel
theorem dX9_tryDeeds_30 : decode cX9_tryDeeds 30 = .ok (.getfield 222, 3) := by decide +kernel
theorem dX9_tryDeeds_33 : decode cX9_tryDeeds 33 = .ok (.iload_n 2, 1) := by decide +kernel
theorem dX9_tryDeeds_34 : decode cX9_tryDeeds 34 = .ok (.laload, 1) := by decide +kernel
theorem dX9_tryDeeds_35 : decode cX9_tryDeeds 35 = .ok (.invokevirtual 226, 3) := by decide +kernel
theorem dX9_tryDeeds_38 : decode cX9_tryDeeds 38 = .ok (.ifCond .ne 9, 3) := by decide +kernel
theorem dX9_tryDeeds_41 : decode cX9_tryDeeds 41 = .ok (.iinc 2 1, 3) := by decide +kernel
theorem dX9_tryDeeds_44 : decode cX9_tryDeeds 44 = .ok (.goto (-28), 3) := by decide +kernel
theorem dX9_tryDeeds_47 : decode cX9_tryDeeds 47 = .ok (.iload_n 2, 1) := by decide +kernel
theorem dX9_tryDeeds_48 : decode cX9_tryDeeds 48 = .ok (.ireturn, 1) := by decide +kernel
theorem dX9_acceptTrial_0 : decode cX9_acceptTrial 0 = .ok (.aload_n 0, 1) := by decide +kernel
theorem dX9_acceptTrial_1 : decode cX9_acceptTrial 1 = .ok (.getfield 41, 3) := by decide +kernel
theorem dX9_acceptTrial_4 : decode cX9_acceptTrial 4 = .ok (.aload_n 0, 1) := by decide +kernel
theorem dX9_acceptTrial_5 : decode cX9_acceptTrial 5 = .ok (.getfield 16, 3) := by decide +kernel
theorem dX9_acceptTrial_8 : decode cX9_acceptTrial 8 = .ok (.getfield 131, 3) := by decide +kernel
theorem dX9_acceptTrial_11 : decode cX9_acceptTrial 11 = .ok (.invokevirtual 391, 3) := by decide +kernel
theorem dX9_acceptTrial_14 : decode cX9_acceptTrial 14 = .ok (.aload_n 0, 1) := by decide +kernel
theorem dX9_acceptTrial_15 : decode cX9_acceptTrial 15 = .ok (.getfield 16, 3) := by decide +kernel
theorem dX9_acceptTrial_18 : decode cX9_acceptTrial 18 = .ok (.getfield 131, 3) := by decide +kernel
theorem dX9_acceptTrial_21 : decode cX9_acceptTrial 21 = .ok (.aload_n 0, 1) := by decide +kernel
theorem dX9_acceptTrial_22 : decode cX9_acceptTrial 22 = .ok (.getfield 82, 3) := by decide +kernel
theorem dX9_acceptTrial_25 : decode cX9_acceptTrial 25 = .ok (.invokevirtual 176, 3) := by decide +kernel
theorem dX9_acceptTrial_28 : decode cX9_acceptTrial 28 = .ok (.aload_n 0, 1) := by decide +kernel
theorem dX9_acceptTrial_29 : decode cX9_acceptTrial 29 = .ok (.invokevirtual 118, 3) := by decide +kernel
theorem dX9_acceptTrial_32 : decode cX9_acceptTrial 32 = .ok (.return_, 1) := by decide +kernel
theorem dX9_draw_0 : decode cX9_draw 0 = .ok (.aload_n 0, 1) := by decide +kernel
theorem dX9_draw_1 : decode cX9_draw 1 = .ok (.ldc_w 394, 3) := by decide +kernel
theorem dX9_draw_4 : decode cX9_draw 4 = .ok (.aload_n 0, 1) := by decide +kernel
theorem dX9_draw_5 : decode cX9_draw 5 = .ok (.getfield 248, 3) := by decide +kernel
theorem dX9_draw_8 : decode cX9_draw 8 = .ok (.imul, 1) := by decide +kernel
theorem dX9_draw_9 : decode cX9_draw 9 = .ok (.sipush 12345, 3) := by decide +kernel
theorem dX9_draw_12 : decode cX9_draw 12 = .ok (.iadd, 1) := by decide +kernel
theorem dX9_draw_13 : decode cX9_draw 13 = .ok (.putfield 248, 3) := by decide +kernel
theorem dX9_draw_16 : decode cX9_draw 16 = .ok (.aload_n 0, 1) := by decide +kernel
theorem dX9_draw_17 : decode cX9_draw 17 = .ok (.getfield 248, 3) := by decide +kernel
theorem dX9_draw_20 : decode cX9_draw 20 = .ok (.bipush 16, 2) := by decide +kernel
theorem dX9_draw_22 : decode cX9_draw 22 = .ok (.iushr, 1) := by decide +kernel
theorem dX9_draw_23 : decode cX9_draw 23 = .ok (.iload_n 1, 1) := by decide +kernel
theorem dX9_draw_24 : decode cX9_draw 24 = .ok (.irem, 1) := by decide +kernel
theorem dX9_draw_25 : decode cX9_draw 25 = .ok (.ireturn, 1) := by decide +kernel
theorem dX9_drawDeed_0 : decode cX9_drawDeed 0 = .ok (.aload_n 0, 1) := by decide +kernel
theorem dX9_drawDeed_1 : decode cX9_drawDeed 1 = .ok (.iconst 5, 1) := by decide +kernel
theorem dX9_drawDeed_2 : decode cX9_drawDeed 2 = .ok (.invokevirtual 395, 3) := by decide +kernel
theorem dX9_drawDeed_5 : decode cX9_drawDeed 5 = .ok (.tableswitch 70 2 4 #[27, 38, 59], 27) := by decide +kernel
theorem dX9_drawDeed_32 : decode cX9_drawDeed 32 = .ok (.sipush 8000, 3) := by decide +kernel
theorem dX9_drawDeed_35 : decode cX9_drawDeed 35 = .ok (.aload_n 0, 1) := by decide +kernel
theorem dX9_drawDeed_36 : decode cX9_drawDeed 36 = .ok (.bipush 8, 2) := by decide +kernel
theorem dX9_drawDeed_38 : decode cX9_drawDeed 38 = .ok (.invokevirtual 395, 3) := by decide +kernel
theorem dX9_drawDeed_41 : decode cX9_drawDeed 41 = .ok (.iadd, 1) := by decide +kernel
theorem dX9_drawDeed_42 : decode cX9_drawDeed 42 = .ok (.ireturn, 1) := by decide +kernel
theorem dX9_drawDeed_43 : decode cX9_drawDeed 43 = .ok (.sipush 8100, 3) := by decide +kernel
theorem dX9_drawDeed_46 : decode cX9_drawDeed 46 = .ok (.bipush 100, 2) := by decide +kernel
theorem dX9_drawDeed_48 : decode cX9_drawDeed 48 = .ok (.aload_n 0, 1) := by decide +kernel
theorem dX9_drawDeed_49 : decode cX9_drawDeed 49 = .ok (.bipush 6, 2) := by decide +kernel
theorem dX9_drawDeed_51 : decode cX9_drawDeed 51 = .ok (.invokevirtual 395, 3) := by decide +kernel
theorem dX9_drawDeed_54 : decode cX9_drawDeed 54 = .ok (.imul, 1) := by decide +kernel
theorem dX9_drawDeed_55 : decode cX9_drawDeed 55 = .ok (.iadd, 1) := by decide +kernel
theorem dX9_drawDeed_56 : decode cX9_drawDeed 56 = .ok (.aload_n 0, 1) := by decide +kernel
theorem dX9_drawDeed_57 : decode cX9_drawDeed 57 = .ok (.bipush 64, 2) := by decide +kernel
theorem dX9_drawDeed_59 : decode cX9_drawDeed 59 = .ok (.invokevirtual 395, 3) := by decide +kernel
theorem dX9_drawDeed_62 : decode cX9_drawDeed 62 = .ok (.iadd, 1) := by decide +kernel
theorem dX9_drawDeed_63 : decode cX9_drawDeed 63 = .ok (.ireturn, 1) := by decide +kernel
theorem dX9_drawDeed_64 : decode cX9_drawDeed 64 = .ok (.sipush 9000, 3) := by decide +kernel
theorem dX9_drawDeed_67 : decode cX9_drawDeed 67 = .ok (.aload_n 0, 1) := by decide +kernel
theorem dX9_drawDeed_68 : decode cX9_drawDeed 68 = .ok (.bipush 10, 2) := by decide +kernel
theorem dX9_drawDeed_70 : decode cX9_drawDeed 70 = .ok (.invokevirtual 395, 3) := by decide +kernel
theorem dX9_drawDeed_73 : decode cX9_drawDeed 73 = .ok (.iadd, 1) := by decide +kernel
theorem dX9_drawDeed_74 : decode cX9_drawDeed 74 = .ok (.ireturn, 1) := by decide +kernel
theorem dX9_drawDeed_75 : decode cX9_drawDeed 75 = .ok (.sipush 1000, 3) := by decide +kernel
theorem dX9_drawDeed_78 : decode cX9_drawDeed 78 = .ok (.aload_n 0, 1) := by decide +kernel
theorem dX9_drawDeed_79 : decode cX9_drawDeed 79 = .ok (.bipush 6, 2) := by decide +kernel
theorem dX9_drawDeed_81 : decode cX9_drawDeed 81 = .ok (.invokevirtual 395, 3) := by decide +kernel
theorem dX9_drawDeed_84 : decode cX9_drawDeed 84 = .ok (.imul, 1) := by decide +kernel
theorem dX9_drawDeed_85 : decode cX9_drawDeed 85 = .ok (.bipush 100, 2) := by decide +kernel
theorem dX9_drawDeed_87 : decode cX9_drawDeed 87 = .ok (.aload_n 0, 1) := by decide +kernel
theorem dX9_drawDeed_88 : decode cX9_drawDeed 88 = .ok (.bipush 6, 2) := by decide +kernel
theorem dX9_drawDeed_90 : decode cX9_drawDeed 90 = .ok (.invokevirtual 395, 3) := by decide +kernel
theorem dX9_drawDeed_93 : decode cX9_drawDeed 93 = .ok (.imul, 1) := by decide +kernel
theorem dX9_drawDeed_94 : decode cX9_drawDeed 94 = .ok (.iadd, 1) := by decide +kernel
theorem dX9_drawDeed_95 : decode cX9_drawDeed 95 = .ok (.aload_n 0, 1) := by decide +kernel
theorem dX9_drawDeed_96 : decode cX9_drawDeed 96 = .ok (.bipush 100, 2) := by decide +kernel
theorem dX9_drawDeed_98 : decode cX9_drawDeed 98 = .ok (.invokevirtual 395, 3) := by decide +kernel
theorem dX9_drawDeed_101 : decode cX9_drawDeed 101 = .ok (.iadd, 1) := by decide +kernel
theorem dX9_drawDeed_102 : decode cX9_drawDeed 102 = .ok (.ireturn, 1) := by decide +kernel
theorem dX9_findStops_0 : decode cX9_findStops 0 = .ok (.aload_n 0, 1) := by decide +kernel
theorem dX9_findStops_1 : decode cX9_findStops 1 = .ok (.getfield 61, 3) := by decide +kernel
theorem dX9_findStops_4 : decode cX9_findStops 4 = .ok (.iload_n 1, 1) := by decide +kernel
theorem dX9_findStops_5 : decode cX9_findStops 5 = .ok (.iload_n 2, 1) := by decide +kernel
theorem dX9_findStops_6 : decode cX9_findStops 6 = .ok (.invokevirtual 398, 3) := by decide +kernel
theorem dX9_findStops_9 : decode cX9_findStops 9 = .ok (.istore 4, 2) := by decide +kernel
theorem dX9_findStops_11 : decode cX9_findStops 11 = .ok (.aload_n 0, 1) := by decide +kernel
theorem dX9_findStops_12 : decode cX9_findStops 12 = .ok (.getfield 82, 3) := by decide +kernel
theorem dX9_findStops_15 : decode cX9_findStops 15 = .ok (.aload_n 0, 1) := by decide +kernel
theorem dX9_findStops_16 : decode cX9_findStops 16 = .ok (.getfield 16, 3) := by decide +kernel
theorem dX9_findStops_19 : decode cX9_findStops 19 = .ok (.getfield 131, 3) := by decide +kernel
theorem dX9_findStops_22 : decode cX9_findStops 22 = .ok (.invokevirtual 176, 3) := by decide +kernel
theorem dX9_findStops_25 : decode cX9_findStops 25 = .ok (.iconst 0, 1) := by decide +kernel
theorem dX9_findStops_26 : decode cX9_findStops 26 = .ok (.istore 5, 2) := by decide +kernel
theorem dX9_findStops_28 : decode cX9_findStops 28 = .ok (.iconst 0, 1) := by decide +kernel
theorem dX9_findStops_29 : decode cX9_findStops 29 = .ok (.istore 6, 2) := by decide +kernel
theorem dX9_findStops_31 : decode cX9_findStops 31 = .ok (.iload 6, 2) := by decide +kernel
theorem dX9_findStops_33 : decode cX9_findStops 33 = .ok (.sipush 600, 3) := by decide +kernel
theorem dX9_findStops_36 : decode cX9_findStops 36 = .ok (.if_icmp .ge 146, 3) := by decide +kernel
theorem dX9_findStops_39 : decode cX9_findStops 39 = .ok (.iload 6, 2) := by decide +kernel
theorem dX9_findStops_41 : decode cX9_findStops 41 = .ok (.bipush 6, 2) := by decide +kernel
theorem dX9_findStops_43 : decode cX9_findStops 43 = .ok (.irem, 1) := by decide +kernel
theorem dX9_findStops_44 : decode cX9_findStops 44 = .ok (.istore 7, 2) := by decide +kernel
theorem dX9_findStops_46 : decode cX9_findStops 46 = .ok (.iload 6, 2) := by decide +kernel
theorem dX9_findStops_48 : decode cX9_findStops 48 = .ok (.bipush 6, 2) := by decide +kernel
theorem dX9_findStops_50 : decode cX9_findStops 50 = .ok (.idiv, 1) := by decide +kernel
theorem dX9_findStops_51 : decode cX9_findStops 51 = .ok (.istore 8, 2) := by decide +kernel
theorem dX9_findStops_53 : decode cX9_findStops 53 = .ok (.iload 7, 2) := by decide +kernel
theorem dX9_findStops_55 : decode cX9_findStops 55 = .ok (.aload_n 0, 1) := by decide +kernel
theorem dX9_findStops_56 : decode cX9_findStops 56 = .ok (.getfield 16, 3) := by decide +kernel
theorem dX9_findStops_59 : decode cX9_findStops 59 = .ok (.getfield 241, 3) := by decide +kernel

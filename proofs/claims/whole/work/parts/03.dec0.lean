theorem dX0_init_0 : decode cX0_init 0 = .ok (.aload_n 0, 1) := by decide +kernel
theorem dX0_init_1 : decode cX0_init 1 = .ok (.invokespecial 3, 3) := by decide +kernel
theorem dX0_init_4 : decode cX0_init 4 = .ok (.aload_n 0, 1) := by decide +kernel
theorem dX0_init_5 : decode cX0_init 5 = .ok (.sipush 512, 3) := by decide +kernel
theorem dX0_init_8 : decode cX0_init 8 = .ok (.newarray .int, 2) := by decide +kernel
theorem dX0_init_10 : decode cX0_init 10 = .ok (.putfield 9, 3) := by decide +kernel
theorem dX0_init_13 : decode cX0_init 13 = .ok (.aload_n 0, 1) := by decide +kernel
theorem dX0_init_14 : decode cX0_init 14 = .ok (.sipush 512, 3) := by decide +kernel
theorem dX0_init_17 : decode cX0_init 17 = .ok (.newarray .int, 2) := by decide +kernel
theorem dX0_init_19 : decode cX0_init 19 = .ok (.putfield 15, 3) := by decide +kernel
theorem dX0_init_22 : decode cX0_init 22 = .ok (.aload_n 0, 1) := by decide +kernel
theorem dX0_init_23 : decode cX0_init 23 = .ok (.bipush 6, 2) := by decide +kernel
theorem dX0_init_25 : decode cX0_init 25 = .ok (.newarray .int, 2) := by decide +kernel
theorem dX0_init_27 : decode cX0_init 27 = .ok (.putfield 18, 3) := by decide +kernel
theorem dX0_init_30 : decode cX0_init 30 = .ok (.aload_n 0, 1) := by decide +kernel
theorem dX0_init_31 : decode cX0_init 31 = .ok (.bipush 6, 2) := by decide +kernel
theorem dX0_init_33 : decode cX0_init 33 = .ok (.newarray .int, 2) := by decide +kernel
theorem dX0_init_35 : decode cX0_init 35 = .ok (.putfield 21, 3) := by decide +kernel
theorem dX0_init_38 : decode cX0_init 38 = .ok (.aload_n 0, 1) := by decide +kernel
theorem dX0_init_39 : decode cX0_init 39 = .ok (.bipush 10, 2) := by decide +kernel
theorem dX0_init_41 : decode cX0_init 41 = .ok (.newarray .int, 2) := by decide +kernel
theorem dX0_init_43 : decode cX0_init 43 = .ok (.putfield 24, 3) := by decide +kernel
theorem dX0_init_46 : decode cX0_init 46 = .ok (.aload_n 0, 1) := by decide +kernel
theorem dX0_init_47 : decode cX0_init 47 = .ok (.bipush 100, 2) := by decide +kernel
theorem dX0_init_49 : decode cX0_init 49 = .ok (.newarray .int, 2) := by decide +kernel
theorem dX0_init_51 : decode cX0_init 51 = .ok (.putfield 27, 3) := by decide +kernel
theorem dX0_init_54 : decode cX0_init 54 = .ok (.aload_n 0, 1) := by decide +kernel
theorem dX0_init_55 : decode cX0_init 55 = .ok (.bipush 10, 2) := by decide +kernel
theorem dX0_init_57 : decode cX0_init 57 = .ok (.newarray .int, 2) := by decide +kernel
theorem dX0_init_59 : decode cX0_init 59 = .ok (.putfield 30, 3) := by decide +kernel
theorem dX0_init_62 : decode cX0_init 62 = .ok (.aload_n 0, 1) := by decide +kernel
theorem dX0_init_63 : decode cX0_init 63 = .ok (.bipush 100, 2) := by decide +kernel
theorem dX0_init_65 : decode cX0_init 65 = .ok (.newarray .int, 2) := by decide +kernel
theorem dX0_init_67 : decode cX0_init 67 = .ok (.putfield 33, 3) := by decide +kernel
theorem dX0_init_70 : decode cX0_init 70 = .ok (.aload_n 0, 1) := by decide +kernel
theorem dX0_init_71 : decode cX0_init 71 = .ok (.bipush 100, 2) := by decide +kernel
theorem dX0_init_73 : decode cX0_init 73 = .ok (.newarray .int, 2) := by decide +kernel
theorem dX0_init_75 : decode cX0_init 75 = .ok (.putfield 36, 3) := by decide +kernel
theorem dX0_init_78 : decode cX0_init 78 = .ok (.aload_n 0, 1) := by decide +kernel
theorem dX0_init_79 : decode cX0_init 79 = .ok (.sipush 512, 3) := by decide +kernel
theorem dX0_init_82 : decode cX0_init 82 = .ok (.newarray .int, 2) := by decide +kernel
theorem dX0_init_84 : decode cX0_init 84 = .ok (.putfield 39, 3) := by decide +kernel
theorem dX0_init_87 : decode cX0_init 87 = .ok (.aload_n 0, 1) := by decide +kernel
theorem dX0_init_88 : decode cX0_init 88 = .ok (.sipush 512, 3) := by decide +kernel
theorem dX0_init_91 : decode cX0_init 91 = .ok (.newarray .int, 2) := by decide +kernel
theorem dX0_init_93 : decode cX0_init 93 = .ok (.putfield 42, 3) := by decide +kernel
theorem dX0_init_96 : decode cX0_init 96 = .ok (.return_, 1) := by decide +kernel
theorem dX0_run_0 : decode cX0_run 0 = .ok (.aload_n 0, 1) := by decide +kernel
theorem dX0_run_1 : decode cX0_run 1 = .ok (.aload_n 1, 1) := by decide +kernel
theorem dX0_run_2 : decode cX0_run 2 = .ok (.putfield 45, 3) := by decide +kernel
theorem dX0_run_5 : decode cX0_run 5 = .ok (.aload_n 0, 1) := by decide +kernel
theorem dX0_run_6 : decode cX0_run 6 = .ok (.aload_n 2, 1) := by decide +kernel
theorem dX0_run_7 : decode cX0_run 7 = .ok (.putfield 49, 3) := by decide +kernel
theorem dX0_run_10 : decode cX0_run 10 = .ok (.aload_n 0, 1) := by decide +kernel
theorem dX0_run_11 : decode cX0_run 11 = .ok (.invokevirtual 53, 3) := by decide +kernel
theorem dX0_run_14 : decode cX0_run 14 = .ok (.iconst 0, 1) := by decide +kernel
theorem dX0_run_15 : decode cX0_run 15 = .ok (.istore 5, 2) := by decide +kernel
theorem dX0_run_17 : decode cX0_run 17 = .ok (.iconst 0, 1) := by decide +kernel
theorem dX0_run_18 : decode cX0_run 18 = .ok (.istore 6, 2) := by decide +kernel
theorem dX0_run_20 : decode cX0_run 20 = .ok (.iload 6, 2) := by decide +kernel
theorem dX0_run_22 : decode cX0_run 22 = .ok (.iload_n 3, 1) := by decide +kernel
theorem dX0_run_23 : decode cX0_run 23 = .ok (.if_icmp .gt 93, 3) := by decide +kernel
theorem dX0_run_26 : decode cX0_run 26 = .ok (.iload 6, 2) := by decide +kernel
theorem dX0_run_28 : decode cX0_run 28 = .ok (.bipush 100, 2) := by decide +kernel
theorem dX0_run_30 : decode cX0_run 30 = .ok (.if_icmp .ge 86, 3) := by decide +kernel
theorem dX0_run_33 : decode cX0_run 33 = .ok (.aload_n 0, 1) := by decide +kernel
theorem dX0_run_34 : decode cX0_run 34 = .ok (.getfield 56, 3) := by decide +kernel
theorem dX0_run_37 : decode cX0_run 37 = .ok (.istore 7, 2) := by decide +kernel
theorem dX0_run_39 : decode cX0_run 39 = .ok (.aload_n 0, 1) := by decide +kernel
theorem dX0_run_40 : decode cX0_run 40 = .ok (.getfield 33, 3) := by decide +kernel
theorem dX0_run_43 : decode cX0_run 43 = .ok (.iload 6, 2) := by decide +kernel
theorem dX0_run_45 : decode cX0_run 45 = .ok (.iaload, 1) := by decide +kernel
theorem dX0_run_46 : decode cX0_run 46 = .ok (.ifCond .ge 20, 3) := by decide +kernel
theorem dX0_run_49 : decode cX0_run 49 = .ok (.aload_n 0, 1) := by decide +kernel
theorem dX0_run_50 : decode cX0_run 50 = .ok (.getfield 27, 3) := by decide +kernel
theorem dX0_run_53 : decode cX0_run 53 = .ok (.iload 6, 2) := by decide +kernel
theorem dX0_run_55 : decode cX0_run 55 = .ok (.iaload, 1) := by decide +kernel
theorem dX0_run_56 : decode cX0_run 56 = .ok (.ifCond .ge 10, 3) := by decide +kernel
theorem dX0_run_59 : decode cX0_run 59 = .ok (.iload 7, 2) := by decide +kernel
theorem dX0_run_61 : decode cX0_run 61 = .ok (.iload 5, 2) := by decide +kernel
theorem dX0_run_63 : decode cX0_run 63 = .ok (.if_icmp .le 43, 3) := by decide +kernel
theorem dX0_run_66 : decode cX0_run 66 = .ok (.aload_n 0, 1) := by decide +kernel
theorem dX0_run_67 : decode cX0_run 67 = .ok (.iload 6, 2) := by decide +kernel
theorem dX0_run_69 : decode cX0_run 69 = .ok (.invokevirtual 60, 3) := by decide +kernel
theorem dX0_run_72 : decode cX0_run 72 = .ok (.istore 8, 2) := by decide +kernel
theorem dX0_run_74 : decode cX0_run 74 = .ok (.aload_n 0, 1) := by decide +kernel
theorem dX0_run_75 : decode cX0_run 75 = .ok (.iload 6, 2) := by decide +kernel
theorem dX0_run_77 : decode cX0_run 77 = .ok (.iload 8, 2) := by decide +kernel
theorem dX0_run_79 : decode cX0_run 79 = .ok (.iload 4, 2) := by decide +kernel
theorem dX0_run_81 : decode cX0_run 81 = .ok (.invokevirtual 64, 3) := by decide +kernel
theorem dX0_run_84 : decode cX0_run 84 = .ok (.aload_n 0, 1) := by decide +kernel
theorem dX0_run_85 : decode cX0_run 85 = .ok (.getfield 68, 3) := by decide +kernel
theorem dX0_run_88 : decode cX0_run 88 = .ok (.iconst (-1), 1) := by decide +kernel
theorem dX0_run_89 : decode cX0_run 89 = .ok (.if_icmp .eq 5, 3) := by decide +kernel
theorem dX0_run_92 : decode cX0_run 92 = .ok (.iconst 0, 1) := by decide +kernel
theorem dX0_run_93 : decode cX0_run 93 = .ok (.ireturn, 1) := by decide +kernel
theorem dX0_run_94 : decode cX0_run 94 = .ok (.aload_n 0, 1) := by decide +kernel
theorem dX0_run_95 : decode cX0_run 95 = .ok (.iload 6, 2) := by decide +kernel
theorem dX0_run_97 : decode cX0_run 97 = .ok (.iload 8, 2) := by decide +kernel
theorem dX0_run_99 : decode cX0_run 99 = .ok (.iload 5, 2) := by decide +kernel
theorem dX0_run_101 : decode cX0_run 101 = .ok (.iload 7, 2) := by decide +kernel
theorem dX0_run_103 : decode cX0_run 103 = .ok (.invokevirtual 71, 3) := by decide +kernel
theorem dX0_run_106 : decode cX0_run 106 = .ok (.iload 7, 2) := by decide +kernel
theorem dX0_run_108 : decode cX0_run 108 = .ok (.istore 5, 2) := by decide +kernel
theorem dX0_run_110 : decode cX0_run 110 = .ok (.iinc 6 1, 3) := by decide +kernel
theorem dX0_run_113 : decode cX0_run 113 = .ok (.goto (-93), 3) := by decide +kernel
theorem dX0_run_116 : decode cX0_run 116 = .ok (.iconst 1, 1) := by decide +kernel
theorem dX0_run_117 : decode cX0_run 117 = .ok (.ireturn, 1) := by decide +kernel
theorem dX0_clear_0 : decode cX0_clear 0 = .ok (.aload_n 0, 1) := by decide +kernel
theorem dX0_clear_1 : decode cX0_clear 1 = .ok (.iconst 0, 1) := by decide +kernel
theorem dX0_clear_2 : decode cX0_clear 2 = .ok (.putfield 56, 3) := by decide +kernel
theorem dX0_clear_5 : decode cX0_clear 5 = .ok (.aload_n 0, 1) := by decide +kernel
theorem dX0_clear_6 : decode cX0_clear 6 = .ok (.iconst 0, 1) := by decide +kernel
theorem dX0_clear_7 : decode cX0_clear 7 = .ok (.putfield 75, 3) := by decide +kernel
theorem dX0_clear_10 : decode cX0_clear 10 = .ok (.aload_n 0, 1) := by decide +kernel
theorem dX0_clear_11 : decode cX0_clear 11 = .ok (.iconst (-1), 1) := by decide +kernel
theorem dX0_clear_12 : decode cX0_clear 12 = .ok (.putfield 68, 3) := by decide +kernel
theorem dX0_clear_15 : decode cX0_clear 15 = .ok (.aload_n 0, 1) := by decide +kernel
theorem dX0_clear_16 : decode cX0_clear 16 = .ok (.getfield 18, 3) := by decide +kernel
theorem dX0_clear_19 : decode cX0_clear 19 = .ok (.iconst 0, 1) := by decide +kernel
theorem dX0_clear_20 : decode cX0_clear 20 = .ok (.invokestatic 78, 3) := by decide +kernel
theorem dX0_clear_23 : decode cX0_clear 23 = .ok (.aload_n 0, 1) := by decide +kernel
theorem dX0_clear_24 : decode cX0_clear 24 = .ok (.getfield 21, 3) := by decide +kernel
theorem dX0_clear_27 : decode cX0_clear 27 = .ok (.iconst 0, 1) := by decide +kernel
theorem dX0_clear_28 : decode cX0_clear 28 = .ok (.invokestatic 78, 3) := by decide +kernel
theorem dX0_clear_31 : decode cX0_clear 31 = .ok (.aload_n 0, 1) := by decide +kernel
theorem dX0_clear_32 : decode cX0_clear 32 = .ok (.getfield 24, 3) := by decide +kernel
theorem dX0_clear_35 : decode cX0_clear 35 = .ok (.iconst 0, 1) := by decide +kernel
theorem dX0_clear_36 : decode cX0_clear 36 = .ok (.invokestatic 78, 3) := by decide +kernel
theorem dX0_clear_39 : decode cX0_clear 39 = .ok (.aload_n 0, 1) := by decide +kernel
theorem dX0_clear_40 : decode cX0_clear 40 = .ok (.getfield 33, 3) := by decide +kernel
theorem dX0_clear_43 : decode cX0_clear 43 = .ok (.iconst (-1), 1) := by decide +kernel
theorem dX0_clear_44 : decode cX0_clear 44 = .ok (.invokestatic 78, 3) := by decide +kernel
theorem dX0_clear_47 : decode cX0_clear 47 = .ok (.aload_n 0, 1) := by decide +kernel
theorem dX0_clear_48 : decode cX0_clear 48 = .ok (.getfield 27, 3) := by decide +kernel
theorem dX0_clear_51 : decode cX0_clear 51 = .ok (.iconst (-1), 1) := by decide +kernel
theorem dX0_clear_52 : decode cX0_clear 52 = .ok (.invokestatic 78, 3) := by decide +kernel
theorem dX0_clear_55 : decode cX0_clear 55 = .ok (.aload_n 0, 1) := by decide +kernel
theorem dX0_clear_56 : decode cX0_clear 56 = .ok (.getfield 45, 3) := by decide +kernel
theorem dX0_clear_59 : decode cX0_clear 59 = .ok (.getfield 84, 3) := by decide +kernel
theorem dX0_clear_62 : decode cX0_clear 62 = .ok (.iconst 1, 1) := by decide +kernel
theorem dX0_clear_63 : decode cX0_clear 63 = .ok (.isub, 1) := by decide +kernel
theorem dX0_clear_64 : decode cX0_clear 64 = .ok (.istore_n 1, 1) := by decide +kernel
theorem dX0_clear_65 : decode cX0_clear 65 = .ok (.iload_n 1, 1) := by decide +kernel
theorem dX0_clear_66 : decode cX0_clear 66 = .ok (.ifCond .lt 44, 3) := by decide +kernel
theorem dX0_clear_69 : decode cX0_clear 69 = .ok (.aload_n 0, 1) := by decide +kernel
theorem dX0_clear_70 : decode cX0_clear 70 = .ok (.getfield 30, 3) := by decide +kernel
theorem dX0_clear_73 : decode cX0_clear 73 = .ok (.iload_n 1, 1) := by decide +kernel
theorem dX0_clear_74 : decode cX0_clear 74 = .ok (.aload_n 0, 1) := by decide +kernel
theorem dX0_clear_75 : decode cX0_clear 75 = .ok (.getfield 27, 3) := by decide +kernel
theorem dX0_clear_78 : decode cX0_clear 78 = .ok (.aload_n 0, 1) := by decide +kernel
theorem dX0_clear_79 : decode cX0_clear 79 = .ok (.getfield 45, 3) := by decide +kernel
theorem dX0_clear_82 : decode cX0_clear 82 = .ok (.getfield 89, 3) := by decide +kernel
theorem dX0_clear_85 : decode cX0_clear 85 = .ok (.iload_n 1, 1) := by decide +kernel
theorem dX0_clear_86 : decode cX0_clear 86 = .ok (.iaload, 1) := by decide +kernel
theorem dX0_clear_87 : decode cX0_clear 87 = .ok (.iaload, 1) := by decide +kernel
theorem dX0_clear_88 : decode cX0_clear 88 = .ok (.iastore, 1) := by decide +kernel
theorem dX0_clear_89 : decode cX0_clear 89 = .ok (.aload_n 0, 1) := by decide +kernel
theorem dX0_clear_90 : decode cX0_clear 90 = .ok (.getfield 27, 3) := by decide +kernel
theorem dX0_clear_93 : decode cX0_clear 93 = .ok (.aload_n 0, 1) := by decide +kernel
theorem dX0_clear_94 : decode cX0_clear 94 = .ok (.getfield 45, 3) := by decide +kernel
theorem dX0_clear_97 : decode cX0_clear 97 = .ok (.getfield 89, 3) := by decide +kernel
theorem dX0_clear_100 : decode cX0_clear 100 = .ok (.iload_n 1, 1) := by decide +kernel
theorem dX0_clear_101 : decode cX0_clear 101 = .ok (.iaload, 1) := by decide +kernel
theorem dX0_clear_102 : decode cX0_clear 102 = .ok (.iload_n 1, 1) := by decide +kernel
theorem dX0_clear_103 : decode cX0_clear 103 = .ok (.iastore, 1) := by decide +kernel
theorem dX0_clear_104 : decode cX0_clear 104 = .ok (.iinc 1 (-1), 3) := by decide +kernel
theorem dX0_clear_107 : decode cX0_clear 107 = .ok (.goto (-42), 3) := by decide +kernel
theorem dX0_clear_110 : decode cX0_clear 110 = .ok (.return_, 1) := by decide +kernel
theorem dX0_come_0 : decode cX0_come 0 = .ok (.iconst 0, 1) := by decide +kernel
theorem dX0_come_1 : decode cX0_come 1 = .ok (.istore_n 2, 1) := by decide +kernel
theorem dX0_come_2 : decode cX0_come 2 = .ok (.aload_n 0, 1) := by decide +kernel
theorem dX0_come_3 : decode cX0_come 3 = .ok (.getfield 33, 3) := by decide +kernel
theorem dX0_come_6 : decode cX0_come 6 = .ok (.iload_n 1, 1) := by decide +kernel
theorem dX0_come_7 : decode cX0_come 7 = .ok (.iaload, 1) := by decide +kernel
theorem dX0_come_8 : decode cX0_come 8 = .ok (.istore_n 3, 1) := by decide +kernel
theorem dX0_come_9 : decode cX0_come 9 = .ok (.iload_n 3, 1) := by decide +kernel
theorem dX0_come_10 : decode cX0_come 10 = .ok (.ifCond .lt 87, 3) := by decide +kernel
theorem dX0_come_13 : decode cX0_come 13 = .ok (.aload_n 0, 1) := by decide +kernel
theorem dX0_come_14 : decode cX0_come 14 = .ok (.getfield 56, 3) := by decide +kernel
theorem dX0_come_17 : decode cX0_come 17 = .ok (.sipush 512, 3) := by decide +kernel
theorem dX0_come_20 : decode cX0_come 20 = .ok (.if_icmp .ge 77, 3) := by decide +kernel
theorem dX0_come_23 : decode cX0_come 23 = .ok (.aload_n 0, 1) := by decide +kernel
theorem dX0_come_24 : decode cX0_come 24 = .ok (.getfield 39, 3) := by decide +kernel
theorem dX0_come_27 : decode cX0_come 27 = .ok (.iload_n 3, 1) := by decide +kernel
theorem dX0_come_28 : decode cX0_come 28 = .ok (.iaload, 1) := by decide +kernel
theorem dX0_come_29 : decode cX0_come 29 = .ok (.istore 4, 2) := by decide +kernel
theorem dX0_come_31 : decode cX0_come 31 = .ok (.iload 4, 2) := by decide +kernel
theorem dX0_come_33 : decode cX0_come 33 = .ok (.bipush 6, 2) := by decide +kernel
theorem dX0_come_35 : decode cX0_come 35 = .ok (.irem, 1) := by decide +kernel
theorem dX0_come_36 : decode cX0_come 36 = .ok (.istore 5, 2) := by decide +kernel
theorem dX0_come_38 : decode cX0_come 38 = .ok (.aload_n 0, 1) := by decide +kernel
theorem dX0_come_39 : decode cX0_come 39 = .ok (.getfield 9, 3) := by decide +kernel
theorem dX0_come_42 : decode cX0_come 42 = .ok (.aload_n 0, 1) := by decide +kernel
theorem dX0_come_43 : decode cX0_come 43 = .ok (.getfield 56, 3) := by decide +kernel
theorem dX0_come_46 : decode cX0_come 46 = .ok (.iload 4, 2) := by decide +kernel
theorem dX0_come_48 : decode cX0_come 48 = .ok (.iastore, 1) := by decide +kernel
theorem dX0_come_49 : decode cX0_come 49 = .ok (.aload_n 0, 1) := by decide +kernel
theorem dX0_come_50 : decode cX0_come 50 = .ok (.getfield 15, 3) := by decide +kernel
theorem dX0_come_53 : decode cX0_come 53 = .ok (.aload_n 0, 1) := by decide +kernel
theorem dX0_come_54 : decode cX0_come 54 = .ok (.getfield 56, 3) := by decide +kernel
theorem dX0_come_57 : decode cX0_come 57 = .ok (.iload_n 1, 1) := by decide +kernel
theorem dX0_come_58 : decode cX0_come 58 = .ok (.iastore, 1) := by decide +kernel
theorem dX0_come_59 : decode cX0_come 59 = .ok (.aload_n 0, 1) := by decide +kernel
theorem dX0_come_60 : decode cX0_come 60 = .ok (.dup, 1) := by decide +kernel
theorem dX0_come_61 : decode cX0_come 61 = .ok (.getfield 56, 3) := by decide +kernel
theorem dX0_come_64 : decode cX0_come 64 = .ok (.iconst 1, 1) := by decide +kernel
theorem dX0_come_65 : decode cX0_come 65 = .ok (.iadd, 1) := by decide +kernel
theorem dX0_come_66 : decode cX0_come 66 = .ok (.putfield 56, 3) := by decide +kernel
theorem dX0_come_69 : decode cX0_come 69 = .ok (.aload_n 0, 1) := by decide +kernel
theorem dX0_come_70 : decode cX0_come 70 = .ok (.getfield 18, 3) := by decide +kernel
theorem dX0_come_73 : decode cX0_come 73 = .ok (.iload 5, 2) := by decide +kernel
theorem dX0_come_75 : decode cX0_come 75 = .ok (.dup2, 1) := by decide +kernel
theorem dX0_come_76 : decode cX0_come 76 = .ok (.iaload, 1) := by decide +kernel
theorem dX0_come_77 : decode cX0_come 77 = .ok (.iconst 1, 1) := by decide +kernel
theorem dX0_come_78 : decode cX0_come 78 = .ok (.iadd, 1) := by decide +kernel
theorem dX0_come_79 : decode cX0_come 79 = .ok (.iastore, 1) := by decide +kernel
theorem dX0_come_80 : decode cX0_come 80 = .ok (.iload_n 2, 1) := by decide +kernel
theorem dX0_come_81 : decode cX0_come 81 = .ok (.iconst 1, 1) := by decide +kernel
theorem dX0_come_82 : decode cX0_come 82 = .ok (.iload 5, 2) := by decide +kernel
theorem dX0_come_84 : decode cX0_come 84 = .ok (.ishl, 1) := by decide +kernel
theorem dX0_come_85 : decode cX0_come 85 = .ok (.ior, 1) := by decide +kernel
theorem dX0_come_86 : decode cX0_come 86 = .ok (.istore_n 2, 1) := by decide +kernel
theorem dX0_come_87 : decode cX0_come 87 = .ok (.aload_n 0, 1) := by decide +kernel
theorem dX0_come_88 : decode cX0_come 88 = .ok (.getfield 42, 3) := by decide +kernel
theorem dX0_come_91 : decode cX0_come 91 = .ok (.iload_n 3, 1) := by decide +kernel
theorem dX0_come_92 : decode cX0_come 92 = .ok (.iaload, 1) := by decide +kernel
theorem dX0_come_93 : decode cX0_come 93 = .ok (.istore_n 3, 1) := by decide +kernel
theorem dX0_come_94 : decode cX0_come 94 = .ok (.goto (-85), 3) := by decide +kernel
theorem dX0_come_97 : decode cX0_come 97 = .ok (.iload_n 2, 1) := by decide +kernel
theorem dX0_come_98 : decode cX0_come 98 = .ok (.ireturn, 1) := by decide +kernel
theorem dX0_sayNamings_0 : decode cX0_sayNamings 0 = .ok (.aload_n 0, 1) := by decide +kernel
theorem dX0_sayNamings_1 : decode cX0_sayNamings 1 = .ok (.getfield 27, 3) := by decide +kernel
theorem dX0_sayNamings_4 : decode cX0_sayNamings 4 = .ok (.iload_n 1, 1) := by decide +kernel
theorem dX0_sayNamings_5 : decode cX0_sayNamings 5 = .ok (.iaload, 1) := by decide +kernel
theorem dX0_sayNamings_6 : decode cX0_sayNamings 6 = .ok (.istore 4, 2) := by decide +kernel
theorem dX0_sayNamings_8 : decode cX0_sayNamings 8 = .ok (.aload_n 0, 1) := by decide +kernel
theorem dX0_sayNamings_9 : decode cX0_sayNamings 9 = .ok (.getfield 45, 3) := by decide +kernel
theorem dX0_sayNamings_12 : decode cX0_sayNamings 12 = .ok (.getfield 84, 3) := by decide +kernel
theorem dX0_sayNamings_15 : decode cX0_sayNamings 15 = .ok (.istore 5, 2) := by decide +kernel
theorem dX0_sayNamings_17 : decode cX0_sayNamings 17 = .ok (.iload 5, 2) := by decide +kernel
theorem dX0_sayNamings_19 : decode cX0_sayNamings 19 = .ok (.ifCond .le 84, 3) := by decide +kernel
theorem dX0_sayNamings_22 : decode cX0_sayNamings 22 = .ok (.iload 4, 2) := by decide +kernel
theorem dX0_sayNamings_24 : decode cX0_sayNamings 24 = .ok (.ifCond .lt 79, 3) := by decide +kernel
theorem dX0_sayNamings_27 : decode cX0_sayNamings 27 = .ok (.aload_n 0, 1) := by decide +kernel
theorem dX0_sayNamings_28 : decode cX0_sayNamings 28 = .ok (.getfield 45, 3) := by decide +kernel
theorem dX0_sayNamings_31 : decode cX0_sayNamings 31 = .ok (.getfield 92, 3) := by decide +kernel
theorem dX0_sayNamings_34 : decode cX0_sayNamings 34 = .ok (.iload 4, 2) := by decide +kernel
theorem dX0_sayNamings_36 : decode cX0_sayNamings 36 = .ok (.iaload, 1) := by decide +kernel
theorem dX0_sayNamings_37 : decode cX0_sayNamings 37 = .ok (.istore 6, 2) := by decide +kernel
theorem dX0_sayNamings_39 : decode cX0_sayNamings 39 = .ok (.iload_n 2, 1) := by decide +kernel
theorem dX0_sayNamings_40 : decode cX0_sayNamings 40 = .ok (.iload 6, 2) := by decide +kernel
theorem dX0_sayNamings_42 : decode cX0_sayNamings 42 = .ok (.ishr, 1) := by decide +kernel
theorem dX0_sayNamings_43 : decode cX0_sayNamings 43 = .ok (.iconst 1, 1) := by decide +kernel
theorem dX0_sayNamings_44 : decode cX0_sayNamings 44 = .ok (.iand, 1) := by decide +kernel
theorem dX0_sayNamings_45 : decode cX0_sayNamings 45 = .ok (.ifCond .ne 43, 3) := by decide +kernel
theorem dX0_sayNamings_48 : decode cX0_sayNamings 48 = .ok (.aload_n 0, 1) := by decide +kernel
theorem dX0_sayNamings_49 : decode cX0_sayNamings 49 = .ok (.getfield 24, 3) := by decide +kernel
theorem dX0_sayNamings_52 : decode cX0_sayNamings 52 = .ok (.iload 4, 2) := by decide +kernel
theorem dX0_sayNamings_54 : decode cX0_sayNamings 54 = .ok (.iconst 1, 1) := by decide +kernel
theorem dX0_sayNamings_55 : decode cX0_sayNamings 55 = .ok (.iastore, 1) := by decide +kernel
theorem dX0_sayNamings_56 : decode cX0_sayNamings 56 = .ok (.aload_n 0, 1) := by decide +kernel
theorem dX0_sayNamings_57 : decode cX0_sayNamings 57 = .ok (.iload 6, 2) := by decide +kernel
theorem dX0_sayNamings_59 : decode cX0_sayNamings 59 = .ok (.bipush 6, 2) := by decide +kernel
theorem dX0_sayNamings_61 : decode cX0_sayNamings 61 = .ok (.imul, 1) := by decide +kernel
theorem dX0_sayNamings_62 : decode cX0_sayNamings 62 = .ok (.aload_n 0, 1) := by decide +kernel
theorem dX0_sayNamings_63 : decode cX0_sayNamings 63 = .ok (.getfield 45, 3) := by decide +kernel
theorem dX0_sayNamings_66 : decode cX0_sayNamings 66 = .ok (.getfield 95, 3) := by decide +kernel
theorem dX0_sayNamings_69 : decode cX0_sayNamings 69 = .ok (.iload 4, 2) := by decide +kernel
theorem dX0_sayNamings_71 : decode cX0_sayNamings 71 = .ok (.iaload, 1) := by decide +kernel
theorem dX0_sayNamings_72 : decode cX0_sayNamings 72 = .ok (.iadd, 1) := by decide +kernel
theorem dX0_sayNamings_73 : decode cX0_sayNamings 73 = .ok (.iload_n 1, 1) := by decide +kernel
theorem dX0_sayNamings_74 : decode cX0_sayNamings 74 = .ok (.invokevirtual 98, 3) := by decide +kernel
theorem dX0_sayNamings_77 : decode cX0_sayNamings 77 = .ok (.iload 6, 2) := by decide +kernel
theorem dX0_sayNamings_79 : decode cX0_sayNamings 79 = .ok (.iload_n 3, 1) := by decide +kernel
theorem dX0_sayNamings_80 : decode cX0_sayNamings 80 = .ok (.if_icmp .ne 8, 3) := by decide +kernel
theorem dX0_sayNamings_83 : decode cX0_sayNamings 83 = .ok (.aload_n 0, 1) := by decide +kernel
theorem dX0_sayNamings_84 : decode cX0_sayNamings 84 = .ok (.iload_n 1, 1) := by decide +kernel
theorem dX0_sayNamings_85 : decode cX0_sayNamings 85 = .ok (.putfield 68, 3) := by decide +kernel
theorem dX0_sayNamings_88 : decode cX0_sayNamings 88 = .ok (.aload_n 0, 1) := by decide +kernel
theorem dX0_sayNamings_89 : decode cX0_sayNamings 89 = .ok (.getfield 30, 3) := by decide +kernel
theorem dX0_sayNamings_92 : decode cX0_sayNamings 92 = .ok (.iload 4, 2) := by decide +kernel
theorem dX0_sayNamings_94 : decode cX0_sayNamings 94 = .ok (.iaload, 1) := by decide +kernel
theorem dX0_sayNamings_95 : decode cX0_sayNamings 95 = .ok (.istore 4, 2) := by decide +kernel
theorem dX0_sayNamings_97 : decode cX0_sayNamings 97 = .ok (.iinc 5 (-1), 3) := by decide +kernel
theorem dX0_sayNamings_100 : decode cX0_sayNamings 100 = .ok (.goto (-83), 3) := by decide +kernel
theorem dX0_sayNamings_103 : decode cX0_sayNamings 103 = .ok (.return_, 1) := by decide +kernel
theorem dX0_sayAnswers_0 : decode cX0_sayAnswers 0 = .ok (.iload_n 3, 1) := by decide +kernel
theorem dX0_sayAnswers_1 : decode cX0_sayAnswers 1 = .ok (.istore 5, 2) := by decide +kernel
theorem dX0_sayAnswers_3 : decode cX0_sayAnswers 3 = .ok (.iload 5, 2) := by decide +kernel
theorem dX0_sayAnswers_5 : decode cX0_sayAnswers 5 = .ok (.iload 4, 2) := by decide +kernel
theorem dX0_sayAnswers_7 : decode cX0_sayAnswers 7 = .ok (.if_icmp .ge 76, 3) := by decide +kernel
theorem dX0_sayAnswers_10 : decode cX0_sayAnswers 10 = .ok (.aload_n 0, 1) := by decide +kernel
theorem dX0_sayAnswers_11 : decode cX0_sayAnswers 11 = .ok (.getfield 9, 3) := by decide +kernel
theorem dX0_sayAnswers_14 : decode cX0_sayAnswers 14 = .ok (.iload 5, 2) := by decide +kernel
theorem dX0_sayAnswers_16 : decode cX0_sayAnswers 16 = .ok (.iaload, 1) := by decide +kernel
theorem dX0_sayAnswers_17 : decode cX0_sayAnswers 17 = .ok (.istore 6, 2) := by decide +kernel
theorem dX0_sayAnswers_19 : decode cX0_sayAnswers 19 = .ok (.iload 6, 2) := by decide +kernel
theorem dX0_sayAnswers_21 : decode cX0_sayAnswers 21 = .ok (.bipush 6, 2) := by decide +kernel
theorem dX0_sayAnswers_23 : decode cX0_sayAnswers 23 = .ok (.irem, 1) := by decide +kernel
theorem dX0_sayAnswers_24 : decode cX0_sayAnswers 24 = .ok (.istore 7, 2) := by decide +kernel
theorem dX0_sayAnswers_26 : decode cX0_sayAnswers 26 = .ok (.iload_n 2, 1) := by decide +kernel
theorem dX0_sayAnswers_27 : decode cX0_sayAnswers 27 = .ok (.iload 7, 2) := by decide +kernel
theorem dX0_sayAnswers_29 : decode cX0_sayAnswers 29 = .ok (.ishr, 1) := by decide +kernel
theorem dX0_sayAnswers_30 : decode cX0_sayAnswers 30 = .ok (.iconst 1, 1) := by decide +kernel
theorem dX0_sayAnswers_31 : decode cX0_sayAnswers 31 = .ok (.iand, 1) := by decide +kernel
theorem dX0_sayAnswers_32 : decode cX0_sayAnswers 32 = .ok (.ifCond .ne 45, 3) := by decide +kernel
theorem dX0_sayAnswers_35 : decode cX0_sayAnswers 35 = .ok (.aload_n 0, 1) := by decide +kernel
theorem dX0_sayAnswers_36 : decode cX0_sayAnswers 36 = .ok (.getfield 49, 3) := by decide +kernel
theorem dX0_sayAnswers_39 : decode cX0_sayAnswers 39 = .ok (.iload 6, 2) := by decide +kernel
theorem dX0_sayAnswers_41 : decode cX0_sayAnswers 41 = .ok (.iload_n 1, 1) := by decide +kernel
theorem dX0_sayAnswers_42 : decode cX0_sayAnswers 42 = .ok (.iconst 1, 1) := by decide +kernel
theorem dX0_sayAnswers_43 : decode cX0_sayAnswers 43 = .ok (.isub, 1) := by decide +kernel
theorem dX0_sayAnswers_44 : decode cX0_sayAnswers 44 = .ok (.invokevirtual 102, 3) := by decide +kernel
theorem dX0_sayAnswers_47 : decode cX0_sayAnswers 47 = .ok (.ifCond .eq 30, 3) := by decide +kernel
theorem dX0_sayAnswers_50 : decode cX0_sayAnswers 50 = .ok (.aload_n 0, 1) := by decide +kernel
theorem dX0_sayAnswers_51 : decode cX0_sayAnswers 51 = .ok (.getfield 21, 3) := by decide +kernel
theorem dX0_sayAnswers_54 : decode cX0_sayAnswers 54 = .ok (.iload 7, 2) := by decide +kernel
theorem dX0_sayAnswers_56 : decode cX0_sayAnswers 56 = .ok (.dup2, 1) := by decide +kernel
theorem dX0_sayAnswers_57 : decode cX0_sayAnswers 57 = .ok (.iaload, 1) := by decide +kernel
theorem dX0_sayAnswers_58 : decode cX0_sayAnswers 58 = .ok (.iconst 1, 1) := by decide +kernel
theorem dX0_sayAnswers_59 : decode cX0_sayAnswers 59 = .ok (.iadd, 1) := by decide +kernel
theorem dX0_sayAnswers_60 : decode cX0_sayAnswers 60 = .ok (.iastore, 1) := by decide +kernel
theorem dX0_sayAnswers_61 : decode cX0_sayAnswers 61 = .ok (.aload_n 0, 1) := by decide +kernel
theorem dX0_sayAnswers_62 : decode cX0_sayAnswers 62 = .ok (.iload 7, 2) := by decide +kernel
theorem dX0_sayAnswers_64 : decode cX0_sayAnswers 64 = .ok (.bipush 6, 2) := by decide +kernel
theorem dX0_sayAnswers_66 : decode cX0_sayAnswers 66 = .ok (.imul, 1) := by decide +kernel
theorem dX0_sayAnswers_67 : decode cX0_sayAnswers 67 = .ok (.iload 6, 2) := by decide +kernel
theorem dX0_sayAnswers_69 : decode cX0_sayAnswers 69 = .ok (.bipush 6, 2) := by decide +kernel
theorem dX0_sayAnswers_71 : decode cX0_sayAnswers 71 = .ok (.idiv, 1) := by decide +kernel
theorem dX0_sayAnswers_72 : decode cX0_sayAnswers 72 = .ok (.iadd, 1) := by decide +kernel
theorem dX0_sayAnswers_73 : decode cX0_sayAnswers 73 = .ok (.iload_n 1, 1) := by decide +kernel
theorem dX0_sayAnswers_74 : decode cX0_sayAnswers 74 = .ok (.invokevirtual 98, 3) := by decide +kernel
theorem dX0_sayAnswers_77 : decode cX0_sayAnswers 77 = .ok (.iinc 5 1, 3) := by decide +kernel
theorem dX0_sayAnswers_80 : decode cX0_sayAnswers 80 = .ok (.goto (-77), 3) := by decide +kernel
theorem dX0_sayAnswers_83 : decode cX0_sayAnswers 83 = .ok (.return_, 1) := by decide +kernel
theorem dX0_say_0 : decode cX0_say 0 = .ok (.iload_n 2, 1) := by decide +kernel
theorem dX0_say_1 : decode cX0_say 1 = .ok (.aload_n 0, 1) := by decide +kernel
theorem dX0_say_2 : decode cX0_say 2 = .ok (.getfield 49, 3) := by decide +kernel
theorem dX0_say_5 : decode cX0_say 5 = .ok (.getfield 108, 3) := by decide +kernel
theorem dX0_say_8 : decode cX0_say 8 = .ok (.iload_n 1, 1) := by decide +kernel
theorem dX0_say_9 : decode cX0_say 9 = .ok (.iaload, 1) := by decide +kernel
theorem dX0_say_10 : decode cX0_say 10 = .ok (.iadd, 1) := by decide +kernel
theorem dX0_say_11 : decode cX0_say 11 = .ok (.istore_n 3, 1) := by decide +kernel
theorem dX0_say_12 : decode cX0_say 12 = .ok (.iload_n 3, 1) := by decide +kernel
theorem dX0_say_13 : decode cX0_say 13 = .ok (.bipush 100, 2) := by decide +kernel
theorem dX0_say_15 : decode cX0_say 15 = .ok (.if_icmp .ge 13, 3) := by decide +kernel
theorem dX0_say_18 : decode cX0_say 18 = .ok (.aload_n 0, 1) := by decide +kernel
theorem dX0_say_19 : decode cX0_say 19 = .ok (.getfield 75, 3) := by decide +kernel
theorem dX0_say_22 : decode cX0_say 22 = .ok (.sipush 512, 3) := by decide +kernel
theorem dX0_say_25 : decode cX0_say 25 = .ok (.if_icmp .lt 4, 3) := by decide +kernel
theorem dX0_say_28 : decode cX0_say 28 = .ok (.return_, 1) := by decide +kernel
theorem dX0_say_29 : decode cX0_say 29 = .ok (.aload_n 0, 1) := by decide +kernel
theorem dX0_say_30 : decode cX0_say 30 = .ok (.getfield 39, 3) := by decide +kernel
theorem dX0_say_33 : decode cX0_say 33 = .ok (.aload_n 0, 1) := by decide +kernel
theorem dX0_say_34 : decode cX0_say 34 = .ok (.getfield 75, 3) := by decide +kernel
theorem dX0_say_37 : decode cX0_say 37 = .ok (.iload_n 1, 1) := by decide +kernel
theorem dX0_say_38 : decode cX0_say 38 = .ok (.iastore, 1) := by decide +kernel
theorem dX0_say_39 : decode cX0_say 39 = .ok (.aload_n 0, 1) := by decide +kernel
theorem dX0_say_40 : decode cX0_say 40 = .ok (.getfield 42, 3) := by decide +kernel
theorem dX0_say_43 : decode cX0_say 43 = .ok (.aload_n 0, 1) := by decide +kernel
theorem dX0_say_44 : decode cX0_say 44 = .ok (.getfield 75, 3) := by decide +kernel
theorem dX0_say_47 : decode cX0_say 47 = .ok (.iconst (-1), 1) := by decide +kernel
theorem dX0_say_48 : decode cX0_say 48 = .ok (.iastore, 1) := by decide +kernel
theorem dX0_say_49 : decode cX0_say 49 = .ok (.aload_n 0, 1) := by decide +kernel
theorem dX0_say_50 : decode cX0_say 50 = .ok (.getfield 33, 3) := by decide +kernel
theorem dX0_say_53 : decode cX0_say 53 = .ok (.iload_n 3, 1) := by decide +kernel
theorem dX0_say_54 : decode cX0_say 54 = .ok (.iaload, 1) := by decide +kernel
theorem dX0_say_55 : decode cX0_say 55 = .ok (.ifCond .ge 16, 3) := by decide +kernel
theorem dX0_say_58 : decode cX0_say 58 = .ok (.aload_n 0, 1) := by decide +kernel
theorem dX0_say_59 : decode cX0_say 59 = .ok (.getfield 33, 3) := by decide +kernel
theorem dX0_say_62 : decode cX0_say 62 = .ok (.iload_n 3, 1) := by decide +kernel
theorem dX0_say_63 : decode cX0_say 63 = .ok (.aload_n 0, 1) := by decide +kernel
theorem dX0_say_64 : decode cX0_say 64 = .ok (.getfield 75, 3) := by decide +kernel
theorem dX0_say_67 : decode cX0_say 67 = .ok (.iastore, 1) := by decide +kernel
theorem dX0_say_68 : decode cX0_say 68 = .ok (.goto 18, 3) := by decide +kernel
theorem dX0_say_71 : decode cX0_say 71 = .ok (.aload_n 0, 1) := by decide +kernel
theorem dX0_say_72 : decode cX0_say 72 = .ok (.getfield 42, 3) := by decide +kernel
theorem dX0_say_75 : decode cX0_say 75 = .ok (.aload_n 0, 1) := by decide +kernel
theorem dX0_say_76 : decode cX0_say 76 = .ok (.getfield 36, 3) := by decide +kernel
theorem dX0_say_79 : decode cX0_say 79 = .ok (.iload_n 3, 1) := by decide +kernel
theorem dX0_say_80 : decode cX0_say 80 = .ok (.iaload, 1) := by decide +kernel
theorem dX0_say_81 : decode cX0_say 81 = .ok (.aload_n 0, 1) := by decide +kernel
theorem dX0_say_82 : decode cX0_say 82 = .ok (.getfield 75, 3) := by decide +kernel
theorem dX0_say_85 : decode cX0_say 85 = .ok (.iastore, 1) := by decide +kernel
theorem dX0_say_86 : decode cX0_say 86 = .ok (.aload_n 0, 1) := by decide +kernel
theorem dX0_say_87 : decode cX0_say 87 = .ok (.getfield 36, 3) := by decide +kernel
theorem dX0_say_90 : decode cX0_say 90 = .ok (.iload_n 3, 1) := by decide +kernel
theorem dX0_say_91 : decode cX0_say 91 = .ok (.aload_n 0, 1) := by decide +kernel
theorem dX0_say_92 : decode cX0_say 92 = .ok (.getfield 75, 3) := by decide +kernel
theorem dX0_say_95 : decode cX0_say 95 = .ok (.iastore, 1) := by decide +kernel
theorem dX0_say_96 : decode cX0_say 96 = .ok (.aload_n 0, 1) := by decide +kernel
theorem dX0_say_97 : decode cX0_say 97 = .ok (.dup, 1) := by decide +kernel
theorem dX0_say_98 : decode cX0_say 98 = .ok (.getfield 75, 3) := by decide +kernel
theorem dX0_say_101 : decode cX0_say 101 = .ok (.iconst 1, 1) := by decide +kernel
theorem dX0_say_102 : decode cX0_say 102 = .ok (.iadd, 1) := by decide +kernel
theorem dX0_say_103 : decode cX0_say 103 = .ok (.putfield 75, 3) := by decide +kernel
theorem dX0_say_106 : decode cX0_say 106 = .ok (.return_, 1) := by decide +kernel
theorem dX0_nobodies_0 : decode cX0_nobodies 0 = .ok (.iconst 0, 1) := by decide +kernel
theorem dX0_nobodies_1 : decode cX0_nobodies 1 = .ok (.istore_n 2, 1) := by decide +kernel
theorem dX0_nobodies_2 : decode cX0_nobodies 2 = .ok (.iconst 0, 1) := by decide +kernel
theorem dX0_nobodies_3 : decode cX0_nobodies 3 = .ok (.istore_n 3, 1) := by decide +kernel
theorem dX0_nobodies_4 : decode cX0_nobodies 4 = .ok (.iload_n 3, 1) := by decide +kernel
theorem dX0_nobodies_5 : decode cX0_nobodies 5 = .ok (.iload_n 1, 1) := by decide +kernel
theorem dX0_nobodies_6 : decode cX0_nobodies 6 = .ok (.if_icmp .ge 24, 3) := by decide +kernel
theorem dX0_nobodies_9 : decode cX0_nobodies 9 = .ok (.aload_n 0, 1) := by decide +kernel
theorem dX0_nobodies_10 : decode cX0_nobodies 10 = .ok (.getfield 18, 3) := by decide +kernel
theorem dX0_nobodies_13 : decode cX0_nobodies 13 = .ok (.iload_n 3, 1) := by decide +kernel
theorem dX0_nobodies_14 : decode cX0_nobodies 14 = .ok (.iaload, 1) := by decide +kernel
theorem dX0_nobodies_15 : decode cX0_nobodies 15 = .ok (.ifCond .ne 9, 3) := by decide +kernel
theorem dX0_nobodies_18 : decode cX0_nobodies 18 = .ok (.iload_n 2, 1) := by decide +kernel
theorem dX0_nobodies_19 : decode cX0_nobodies 19 = .ok (.iconst 1, 1) := by decide +kernel
theorem dX0_nobodies_20 : decode cX0_nobodies 20 = .ok (.iload_n 3, 1) := by decide +kernel
theorem dX0_nobodies_21 : decode cX0_nobodies 21 = .ok (.ishl, 1) := by decide +kernel
theorem dX0_nobodies_22 : decode cX0_nobodies 22 = .ok (.ior, 1) := by decide +kernel
theorem dX0_nobodies_23 : decode cX0_nobodies 23 = .ok (.istore_n 2, 1) := by decide +kernel
theorem dX0_nobodies_24 : decode cX0_nobodies 24 = .ok (.iinc 3 1, 3) := by decide +kernel
theorem dX0_nobodies_27 : decode cX0_nobodies 27 = .ok (.goto (-23), 3) := by decide +kernel
theorem dX0_nobodies_30 : decode cX0_nobodies 30 = .ok (.iload_n 2, 1) := by decide +kernel
theorem dX0_nobodies_31 : decode cX0_nobodies 31 = .ok (.ireturn, 1) := by decide +kernel
theorem dX0_hasHiccup_0 : decode cX0_hasHiccup 0 = .ok (.aload_n 0, 1) := by decide +kernel
theorem dX0_hasHiccup_1 : decode cX0_hasHiccup 1 = .ok (.getfield 56, 3) := by decide +kernel
theorem dX0_hasHiccup_4 : decode cX0_hasHiccup 4 = .ok (.iconst 1, 1) := by decide +kernel
theorem dX0_hasHiccup_5 : decode cX0_hasHiccup 5 = .ok (.isub, 1) := by decide +kernel
theorem dX0_hasHiccup_6 : decode cX0_hasHiccup 6 = .ok (.istore_n 3, 1) := by decide +kernel
theorem dX0_hasHiccup_7 : decode cX0_hasHiccup 7 = .ok (.iload_n 3, 1) := by decide +kernel
theorem dX0_hasHiccup_8 : decode cX0_hasHiccup 8 = .ok (.ifCond .lt 44, 3) := by decide +kernel
theorem dX0_hasHiccup_11 : decode cX0_hasHiccup 11 = .ok (.aload_n 0, 1) := by decide +kernel
theorem dX0_hasHiccup_12 : decode cX0_hasHiccup 12 = .ok (.getfield 15, 3) := by decide +kernel
theorem dX0_hasHiccup_15 : decode cX0_hasHiccup 15 = .ok (.iload_n 3, 1) := by decide +kernel
theorem dX0_hasHiccup_16 : decode cX0_hasHiccup 16 = .ok (.iaload, 1) := by decide +kernel
theorem dX0_hasHiccup_17 : decode cX0_hasHiccup 17 = .ok (.iload_n 2, 1) := by decide +kernel
theorem dX0_hasHiccup_18 : decode cX0_hasHiccup 18 = .ok (.if_icmp .lt 34, 3) := by decide +kernel
theorem dX0_hasHiccup_21 : decode cX0_hasHiccup 21 = .ok (.aload_n 0, 1) := by decide +kernel
theorem dX0_hasHiccup_22 : decode cX0_hasHiccup 22 = .ok (.getfield 15, 3) := by decide +kernel
theorem dX0_hasHiccup_25 : decode cX0_hasHiccup 25 = .ok (.iload_n 3, 1) := by decide +kernel
theorem dX0_hasHiccup_26 : decode cX0_hasHiccup 26 = .ok (.iaload, 1) := by decide +kernel
theorem dX0_hasHiccup_27 : decode cX0_hasHiccup 27 = .ok (.iload_n 2, 1) := by decide +kernel
theorem dX0_hasHiccup_28 : decode cX0_hasHiccup 28 = .ok (.if_icmp .ne 18, 3) := by decide +kernel
theorem dX0_hasHiccup_31 : decode cX0_hasHiccup 31 = .ok (.aload_n 0, 1) := by decide +kernel
theorem dX0_hasHiccup_32 : decode cX0_hasHiccup 32 = .ok (.getfield 9, 3) := by decide +kernel
theorem dX0_hasHiccup_35 : decode cX0_hasHiccup 35 = .ok (.iload_n 3, 1) := by decide +kernel
theorem dX0_hasHiccup_36 : decode cX0_hasHiccup 36 = .ok (.iaload, 1) := by decide +kernel
theorem dX0_hasHiccup_37 : decode cX0_hasHiccup 37 = .ok (.bipush 6, 2) := by decide +kernel
theorem dX0_hasHiccup_39 : decode cX0_hasHiccup 39 = .ok (.irem, 1) := by decide +kernel
theorem dX0_hasHiccup_40 : decode cX0_hasHiccup 40 = .ok (.iload_n 1, 1) := by decide +kernel
theorem dX0_hasHiccup_41 : decode cX0_hasHiccup 41 = .ok (.if_icmp .ne 5, 3) := by decide +kernel
theorem dX0_hasHiccup_44 : decode cX0_hasHiccup 44 = .ok (.iconst 1, 1) := by decide +kernel
theorem dX0_hasHiccup_45 : decode cX0_hasHiccup 45 = .ok (.ireturn, 1) := by decide +kernel
theorem dX0_hasHiccup_46 : decode cX0_hasHiccup 46 = .ok (.iinc 3 (-1), 3) := by decide +kernel
theorem dX0_hasHiccup_49 : decode cX0_hasHiccup 49 = .ok (.goto (-42), 3) := by decide +kernel
theorem dX0_hasHiccup_52 : decode cX0_hasHiccup 52 = .ok (.iconst 0, 1) := by decide +kernel
theorem dX0_hasHiccup_53 : decode cX0_hasHiccup 53 = .ok (.ireturn, 1) := by decide +kernel
theorem dX0_isTimed_0 : decode cX0_isTimed 0 = .ok (.aload_n 0, 1) := by decide +kernel
theorem dX0_isTimed_1 : decode cX0_isTimed 1 = .ok (.getfield 18, 3) := by decide +kernel
theorem dX0_isTimed_4 : decode cX0_isTimed 4 = .ok (.iload_n 1, 1) := by decide +kernel
theorem dX0_isTimed_5 : decode cX0_isTimed 5 = .ok (.iaload, 1) := by decide +kernel
theorem dX0_isTimed_6 : decode cX0_isTimed 6 = .ok (.aload_n 2, 1) := by decide +kernel
theorem dX0_isTimed_7 : decode cX0_isTimed 7 = .ok (.getfield 111, 3) := by decide +kernel
theorem dX0_isTimed_10 : decode cX0_isTimed 10 = .ok (.if_icmp .eq 5, 3) := by decide +kernel
theorem dX0_isTimed_13 : decode cX0_isTimed 13 = .ok (.iconst 0, 1) := by decide +kernel
theorem dX0_isTimed_14 : decode cX0_isTimed 14 = .ok (.ireturn, 1) := by decide +kernel
theorem dX0_isTimed_15 : decode cX0_isTimed 15 = .ok (.iconst 0, 1) := by decide +kernel
theorem dX0_isTimed_16 : decode cX0_isTimed 16 = .ok (.istore_n 3, 1) := by decide +kernel
theorem dX0_isTimed_17 : decode cX0_isTimed 17 = .ok (.iconst 0, 1) := by decide +kernel
theorem dX0_isTimed_18 : decode cX0_isTimed 18 = .ok (.istore 4, 2) := by decide +kernel
theorem dX0_isTimed_20 : decode cX0_isTimed 20 = .ok (.iload 4, 2) := by decide +kernel
theorem dX0_isTimed_22 : decode cX0_isTimed 22 = .ok (.aload_n 0, 1) := by decide +kernel
theorem dX0_isTimed_23 : decode cX0_isTimed 23 = .ok (.getfield 56, 3) := by decide +kernel
theorem dX0_isTimed_26 : decode cX0_isTimed 26 = .ok (.if_icmp .ge 54, 3) := by decide +kernel
theorem dX0_isTimed_29 : decode cX0_isTimed 29 = .ok (.iload_n 3, 1) := by decide +kernel
theorem dX0_isTimed_30 : decode cX0_isTimed 30 = .ok (.aload_n 2, 1) := by decide +kernel
theorem dX0_isTimed_31 : decode cX0_isTimed 31 = .ok (.getfield 111, 3) := by decide +kernel
theorem dX0_isTimed_34 : decode cX0_isTimed 34 = .ok (.if_icmp .ge 46, 3) := by decide +kernel
theorem dX0_isTimed_37 : decode cX0_isTimed 37 = .ok (.aload_n 0, 1) := by decide +kernel
theorem dX0_isTimed_38 : decode cX0_isTimed 38 = .ok (.getfield 9, 3) := by decide +kernel
theorem dX0_isTimed_41 : decode cX0_isTimed 41 = .ok (.iload 4, 2) := by decide +kernel
theorem dX0_isTimed_43 : decode cX0_isTimed 43 = .ok (.iaload, 1) := by decide +kernel
theorem dX0_isTimed_44 : decode cX0_isTimed 44 = .ok (.bipush 6, 2) := by decide +kernel
theorem dX0_isTimed_46 : decode cX0_isTimed 46 = .ok (.irem, 1) := by decide +kernel
theorem dX0_isTimed_47 : decode cX0_isTimed 47 = .ok (.iload_n 1, 1) := by decide +kernel
theorem dX0_isTimed_48 : decode cX0_isTimed 48 = .ok (.if_icmp .ne 26, 3) := by decide +kernel
theorem dX0_isTimed_51 : decode cX0_isTimed 51 = .ok (.aload_n 0, 1) := by decide +kernel
theorem dX0_isTimed_52 : decode cX0_isTimed 52 = .ok (.getfield 15, 3) := by decide +kernel
theorem dX0_isTimed_55 : decode cX0_isTimed 55 = .ok (.iload 4, 2) := by decide +kernel
theorem dX0_isTimed_57 : decode cX0_isTimed 57 = .ok (.iaload, 1) := by decide +kernel
theorem dX0_isTimed_58 : decode cX0_isTimed 58 = .ok (.i2l, 1) := by decide +kernel
theorem dX0_isTimed_59 : decode cX0_isTimed 59 = .ok (.aload_n 2, 1) := by decide +kernel
theorem dX0_isTimed_60 : decode cX0_isTimed 60 = .ok (.getfield 116, 3) := by decide +kernel
theorem dX0_isTimed_63 : decode cX0_isTimed 63 = .ok (.iload_n 3, 1) := by decide +kernel
theorem dX0_isTimed_64 : decode cX0_isTimed 64 = .ok (.laload, 1) := by decide +kernel
theorem dX0_isTimed_65 : decode cX0_isTimed 65 = .ok (.lcmp, 1) := by decide +kernel
theorem dX0_isTimed_66 : decode cX0_isTimed 66 = .ok (.ifCond .eq 5, 3) := by decide +kernel
theorem dX0_isTimed_69 : decode cX0_isTimed 69 = .ok (.iconst 0, 1) := by decide +kernel
theorem dX0_isTimed_70 : decode cX0_isTimed 70 = .ok (.ireturn, 1) := by decide +kernel
theorem dX0_isTimed_71 : decode cX0_isTimed 71 = .ok (.iinc 3 1, 3) := by decide +kernel
theorem dX0_isTimed_74 : decode cX0_isTimed 74 = .ok (.iinc 4 1, 3) := by decide +kernel
theorem dX0_isTimed_77 : decode cX0_isTimed 77 = .ok (.goto (-57), 3) := by decide +kernel
theorem dX0_isTimed_80 : decode cX0_isTimed 80 = .ok (.iconst 1, 1) := by decide +kernel
theorem dX0_isTimed_81 : decode cX0_isTimed 81 = .ok (.ireturn, 1) := by decide +kernel
theorem dX0_listInto_0 : decode cX0_listInto 0 = .ok (.iconst 0, 1) := by decide +kernel
theorem dX0_listInto_1 : decode cX0_listInto 1 = .ok (.istore_n 3, 1) := by decide +kernel
theorem dX0_listInto_2 : decode cX0_listInto 2 = .ok (.iconst 0, 1) := by decide +kernel
theorem dX0_listInto_3 : decode cX0_listInto 3 = .ok (.istore 4, 2) := by decide +kernel
theorem dX0_listInto_5 : decode cX0_listInto 5 = .ok (.iload 4, 2) := by decide +kernel
theorem dX0_listInto_7 : decode cX0_listInto 7 = .ok (.aload_n 0, 1) := by decide +kernel
theorem dX0_listInto_8 : decode cX0_listInto 8 = .ok (.getfield 56, 3) := by decide +kernel
theorem dX0_listInto_11 : decode cX0_listInto 11 = .ok (.if_icmp .ge 48, 3) := by decide +kernel
theorem dX0_listInto_14 : decode cX0_listInto 14 = .ok (.iload_n 3, 1) := by decide +kernel
theorem dX0_listInto_15 : decode cX0_listInto 15 = .ok (.aload_n 1, 1) := by decide +kernel
theorem dX0_listInto_16 : decode cX0_listInto 16 = .ok (.getfield 111, 3) := by decide +kernel
theorem dX0_listInto_19 : decode cX0_listInto 19 = .ok (.if_icmp .ge 40, 3) := by decide +kernel
theorem dX0_listInto_22 : decode cX0_listInto 22 = .ok (.aload_n 0, 1) := by decide +kernel
theorem dX0_listInto_23 : decode cX0_listInto 23 = .ok (.getfield 9, 3) := by decide +kernel
theorem dX0_listInto_26 : decode cX0_listInto 26 = .ok (.iload 4, 2) := by decide +kernel
theorem dX0_listInto_28 : decode cX0_listInto 28 = .ok (.iaload, 1) := by decide +kernel
theorem dX0_listInto_29 : decode cX0_listInto 29 = .ok (.bipush 6, 2) := by decide +kernel
theorem dX0_listInto_31 : decode cX0_listInto 31 = .ok (.irem, 1) := by decide +kernel
theorem dX0_listInto_32 : decode cX0_listInto 32 = .ok (.iload_n 2, 1) := by decide +kernel
theorem dX0_listInto_33 : decode cX0_listInto 33 = .ok (.if_icmp .ne 20, 3) := by decide +kernel
theorem dX0_listInto_36 : decode cX0_listInto 36 = .ok (.aload_n 1, 1) := by decide +kernel
theorem dX0_listInto_37 : decode cX0_listInto 37 = .ok (.iload_n 3, 1) := by decide +kernel
theorem dX0_listInto_38 : decode cX0_listInto 38 = .ok (.aload_n 0, 1) := by decide +kernel
theorem dX0_listInto_39 : decode cX0_listInto 39 = .ok (.getfield 15, 3) := by decide +kernel
theorem dX0_listInto_42 : decode cX0_listInto 42 = .ok (.iload 4, 2) := by decide +kernel
theorem dX0_listInto_44 : decode cX0_listInto 44 = .ok (.iaload, 1) := by decide +kernel
theorem dX0_listInto_45 : decode cX0_listInto 45 = .ok (.i2l, 1) := by decide +kernel
theorem dX0_listInto_46 : decode cX0_listInto 46 = .ok (.invokevirtual 120, 3) := by decide +kernel
theorem dX0_listInto_49 : decode cX0_listInto 49 = .ok (.pop2, 1) := by decide +kernel
theorem dX0_listInto_50 : decode cX0_listInto 50 = .ok (.iinc 3 1, 3) := by decide +kernel
theorem dX0_listInto_53 : decode cX0_listInto 53 = .ok (.iinc 4 1, 3) := by decide +kernel
theorem dX0_listInto_56 : decode cX0_listInto 56 = .ok (.goto (-51), 3) := by decide +kernel
theorem dX0_listInto_59 : decode cX0_listInto 59 = .ok (.iload_n 3, 1) := by decide +kernel
theorem dX0_listInto_60 : decode cX0_listInto 60 = .ok (.ireturn, 1) := by decide +kernel
theorem dX1_init_0 : decode cX1_init 0 = .ok (.aload_n 0, 1) := by decide +kernel
theorem dX1_init_1 : decode cX1_init 1 = .ok (.invokespecial 3, 3) := by decide +kernel
theorem dX1_init_4 : decode cX1_init 4 = .ok (.aload_n 0, 1) := by decide +kernel
theorem dX1_init_5 : decode cX1_init 5 = .ok (.iconst 1, 1) := by decide +kernel
theorem dX1_init_6 : decode cX1_init 6 = .ok (.putfield 9, 3) := by decide +kernel
theorem dX1_init_9 : decode cX1_init 9 = .ok (.aload_n 0, 1) := by decide +kernel
theorem dX1_init_10 : decode cX1_init 10 = .ok (.iconst 1, 1) := by decide +kernel
theorem dX1_init_11 : decode cX1_init 11 = .ok (.putfield 15, 3) := by decide +kernel
theorem dX1_init_14 : decode cX1_init 14 = .ok (.aload_n 0, 1) := by decide +kernel
theorem dX1_init_15 : decode cX1_init 15 = .ok (.bipush 6, 2) := by decide +kernel
theorem dX1_init_17 : decode cX1_init 17 = .ok (.newarray .int, 2) := by decide +kernel
theorem dX1_init_19 : decode cX1_init 19 = .ok (.putfield 18, 3) := by decide +kernel
theorem dX1_init_22 : decode cX1_init 22 = .ok (.aload_n 0, 1) := by decide +kernel
theorem dX1_init_23 : decode cX1_init 23 = .ok (.bipush 6, 2) := by decide +kernel
theorem dX1_init_25 : decode cX1_init 25 = .ok (.newarray .int, 2) := by decide +kernel
theorem dX1_init_27 : decode cX1_init 27 = .ok (.putfield 22, 3) := by decide +kernel
theorem dX1_init_30 : decode cX1_init 30 = .ok (.aload_n 0, 1) := by decide +kernel
theorem dX1_init_31 : decode cX1_init 31 = .ok (.bipush 6, 2) := by decide +kernel
theorem dX1_init_33 : decode cX1_init 33 = .ok (.newarray .int, 2) := by decide +kernel
theorem dX1_init_35 : decode cX1_init 35 = .ok (.putfield 25, 3) := by decide +kernel
theorem dX1_init_38 : decode cX1_init 38 = .ok (.aload_n 0, 1) := by decide +kernel
theorem dX1_init_39 : decode cX1_init 39 = .ok (.sipush 900, 3) := by decide +kernel
theorem dX1_init_42 : decode cX1_init 42 = .ok (.newarray .int, 2) := by decide +kernel
theorem dX1_init_44 : decode cX1_init 44 = .ok (.putfield 28, 3) := by decide +kernel
theorem dX1_init_47 : decode cX1_init 47 = .ok (.aload_n 0, 1) := by decide +kernel
theorem dX1_init_48 : decode cX1_init 48 = .ok (.iconst 3, 1) := by decide +kernel
theorem dX1_init_49 : decode cX1_init 49 = .ok (.newarray .int, 2) := by decide +kernel
theorem dX1_init_51 : decode cX1_init 51 = .ok (.putfield 31, 3) := by decide +kernel
theorem dX1_init_54 : decode cX1_init 54 = .ok (.aload_n 0, 1) := by decide +kernel
theorem dX1_init_55 : decode cX1_init 55 = .ok (.iconst 3, 1) := by decide +kernel
theorem dX1_init_56 : decode cX1_init 56 = .ok (.newarray .int, 2) := by decide +kernel
theorem dX1_init_58 : decode cX1_init 58 = .ok (.putfield 34, 3) := by decide +kernel
theorem dX1_init_61 : decode cX1_init 61 = .ok (.aload_n 0, 1) := by decide +kernel
theorem dX1_init_62 : decode cX1_init 62 = .ok (.new 37, 3) := by decide +kernel
theorem dX1_init_65 : decode cX1_init 65 = .ok (.dup, 1) := by decide +kernel
theorem dX1_init_66 : decode cX1_init 66 = .ok (.invokespecial 39, 3) := by decide +kernel
theorem dX1_init_69 : decode cX1_init 69 = .ok (.putfield 40, 3) := by decide +kernel
theorem dX1_init_72 : decode cX1_init 72 = .ok (.return_, 1) := by decide +kernel
theorem dX1_cells_0 : decode cX1_cells 0 = .ok (.aload_n 0, 1) := by decide +kernel
theorem dX1_cells_1 : decode cX1_cells 1 = .ok (.getfield 9, 3) := by decide +kernel
theorem dX1_cells_4 : decode cX1_cells 4 = .ok (.aload_n 0, 1) := by decide +kernel
theorem dX1_cells_5 : decode cX1_cells 5 = .ok (.getfield 15, 3) := by decide +kernel
theorem dX1_cells_8 : decode cX1_cells 8 = .ok (.imul, 1) := by decide +kernel
theorem dX1_cells_9 : decode cX1_cells 9 = .ok (.ireturn, 1) := by decide +kernel
theorem dX1_hasLaw_0 : decode cX1_hasLaw 0 = .ok (.aload_n 0, 1) := by decide +kernel
theorem dX1_hasLaw_1 : decode cX1_hasLaw 1 = .ok (.getfield 34, 3) := by decide +kernel
theorem dX1_hasLaw_4 : decode cX1_hasLaw 4 = .ok (.iload_n 1, 1) := by decide +kernel
theorem dX1_hasLaw_5 : decode cX1_hasLaw 5 = .ok (.iaload, 1) := by decide +kernel
theorem dX1_hasLaw_6 : decode cX1_hasLaw 6 = .ok (.aload_n 0, 1) := by decide +kernel
theorem dX1_hasLaw_7 : decode cX1_hasLaw 7 = .ok (.getfield 31, 3) := by decide +kernel
theorem dX1_hasLaw_10 : decode cX1_hasLaw 10 = .ok (.iload_n 1, 1) := by decide +kernel
theorem dX1_hasLaw_11 : decode cX1_hasLaw 11 = .ok (.iaload, 1) := by decide +kernel
theorem dX1_hasLaw_12 : decode cX1_hasLaw 12 = .ok (.if_icmp .le 7, 3) := by decide +kernel
theorem dX1_hasLaw_15 : decode cX1_hasLaw 15 = .ok (.iconst 1, 1) := by decide +kernel
theorem dX1_hasLaw_16 : decode cX1_hasLaw 16 = .ok (.goto 4, 3) := by decide +kernel
theorem dX1_hasLaw_19 : decode cX1_hasLaw 19 = .ok (.iconst 0, 1) := by decide +kernel
theorem dX1_hasLaw_20 : decode cX1_hasLaw 20 = .ok (.ireturn, 1) := by decide +kernel
theorem dX1_clear_0 : decode cX1_clear 0 = .ok (.aload_n 0, 1) := by decide +kernel
theorem dX1_clear_1 : decode cX1_clear 1 = .ok (.iconst 1, 1) := by decide +kernel
theorem dX1_clear_2 : decode cX1_clear 2 = .ok (.putfield 9, 3) := by decide +kernel
theorem dX1_clear_5 : decode cX1_clear 5 = .ok (.aload_n 0, 1) := by decide +kernel
theorem dX1_clear_6 : decode cX1_clear 6 = .ok (.iconst 1, 1) := by decide +kernel
theorem dX1_clear_7 : decode cX1_clear 7 = .ok (.putfield 15, 3) := by decide +kernel
theorem dX1_clear_10 : decode cX1_clear 10 = .ok (.aload_n 0, 1) := by decide +kernel
theorem dX1_clear_11 : decode cX1_clear 11 = .ok (.iconst 0, 1) := by decide +kernel
theorem dX1_clear_12 : decode cX1_clear 12 = .ok (.putfield 44, 3) := by decide +kernel
theorem dX1_clear_15 : decode cX1_clear 15 = .ok (.aload_n 0, 1) := by decide +kernel
theorem dX1_clear_16 : decode cX1_clear 16 = .ok (.iconst 0, 1) := by decide +kernel
theorem dX1_clear_17 : decode cX1_clear 17 = .ok (.putfield 47, 3) := by decide +kernel
theorem dX1_clear_20 : decode cX1_clear 20 = .ok (.aload_n 0, 1) := by decide +kernel
theorem dX1_clear_21 : decode cX1_clear 21 = .ok (.getfield 31, 3) := by decide +kernel
theorem dX1_clear_24 : decode cX1_clear 24 = .ok (.iconst 0, 1) := by decide +kernel
theorem dX1_clear_25 : decode cX1_clear 25 = .ok (.invokestatic 50, 3) := by decide +kernel
theorem dX1_clear_28 : decode cX1_clear 28 = .ok (.aload_n 0, 1) := by decide +kernel
theorem dX1_clear_29 : decode cX1_clear 29 = .ok (.getfield 34, 3) := by decide +kernel
theorem dX1_clear_32 : decode cX1_clear 32 = .ok (.iconst 0, 1) := by decide +kernel
theorem dX1_clear_33 : decode cX1_clear 33 = .ok (.invokestatic 50, 3) := by decide +kernel
theorem dX1_clear_36 : decode cX1_clear 36 = .ok (.aload_n 0, 1) := by decide +kernel
theorem dX1_clear_37 : decode cX1_clear 37 = .ok (.getfield 40, 3) := by decide +kernel
theorem dX1_clear_40 : decode cX1_clear 40 = .ok (.iconst 0, 1) := by decide +kernel
theorem dX1_clear_41 : decode cX1_clear 41 = .ok (.putfield 56, 3) := by decide +kernel
theorem dX1_clear_44 : decode cX1_clear 44 = .ok (.aload_n 0, 1) := by decide +kernel
theorem dX1_clear_45 : decode cX1_clear 45 = .ok (.getfield 40, 3) := by decide +kernel
theorem dX1_clear_48 : decode cX1_clear 48 = .ok (.iconst 0, 1) := by decide +kernel
theorem dX1_clear_49 : decode cX1_clear 49 = .ok (.putfield 59, 3) := by decide +kernel
theorem dX1_clear_52 : decode cX1_clear 52 = .ok (.return_, 1) := by decide +kernel
theorem dX1_copyFrom_0 : decode cX1_copyFrom 0 = .ok (.aload_n 0, 1) := by decide +kernel
theorem dX1_copyFrom_1 : decode cX1_copyFrom 1 = .ok (.aload_n 1, 1) := by decide +kernel
theorem dX1_copyFrom_2 : decode cX1_copyFrom 2 = .ok (.getfield 9, 3) := by decide +kernel
theorem dX1_copyFrom_5 : decode cX1_copyFrom 5 = .ok (.putfield 9, 3) := by decide +kernel
theorem dX1_copyFrom_8 : decode cX1_copyFrom 8 = .ok (.aload_n 0, 1) := by decide +kernel
theorem dX1_copyFrom_9 : decode cX1_copyFrom 9 = .ok (.aload_n 1, 1) := by decide +kernel
theorem dX1_copyFrom_10 : decode cX1_copyFrom 10 = .ok (.getfield 15, 3) := by decide +kernel
theorem dX1_copyFrom_13 : decode cX1_copyFrom 13 = .ok (.putfield 15, 3) := by decide +kernel
theorem dX1_copyFrom_16 : decode cX1_copyFrom 16 = .ok (.aload_n 0, 1) := by decide +kernel
theorem dX1_copyFrom_17 : decode cX1_copyFrom 17 = .ok (.aload_n 1, 1) := by decide +kernel
theorem dX1_copyFrom_18 : decode cX1_copyFrom 18 = .ok (.getfield 44, 3) := by decide +kernel
theorem dX1_copyFrom_21 : decode cX1_copyFrom 21 = .ok (.putfield 44, 3) := by decide +kernel
theorem dX1_copyFrom_24 : decode cX1_copyFrom 24 = .ok (.aload_n 0, 1) := by decide +kernel
theorem dX1_copyFrom_25 : decode cX1_copyFrom 25 = .ok (.aload_n 1, 1) := by decide +kernel
theorem dX1_copyFrom_26 : decode cX1_copyFrom 26 = .ok (.getfield 47, 3) := by decide +kernel
theorem dX1_copyFrom_29 : decode cX1_copyFrom 29 = .ok (.putfield 47, 3) := by decide +kernel
theorem dX1_copyFrom_32 : decode cX1_copyFrom 32 = .ok (.aload_n 1, 1) := by decide +kernel
theorem dX1_copyFrom_33 : decode cX1_copyFrom 33 = .ok (.getfield 18, 3) := by decide +kernel
theorem dX1_copyFrom_36 : decode cX1_copyFrom 36 = .ok (.iconst 0, 1) := by decide +kernel
theorem dX1_copyFrom_37 : decode cX1_copyFrom 37 = .ok (.aload_n 0, 1) := by decide +kernel
theorem dX1_copyFrom_38 : decode cX1_copyFrom 38 = .ok (.getfield 18, 3) := by decide +kernel
theorem dX1_copyFrom_41 : decode cX1_copyFrom 41 = .ok (.iconst 0, 1) := by decide +kernel
theorem dX1_copyFrom_42 : decode cX1_copyFrom 42 = .ok (.bipush 6, 2) := by decide +kernel
theorem dX1_copyFrom_44 : decode cX1_copyFrom 44 = .ok (.invokestatic 62, 3) := by decide +kernel
theorem dX1_copyFrom_47 : decode cX1_copyFrom 47 = .ok (.aload_n 1, 1) := by decide +kernel
theorem dX1_copyFrom_48 : decode cX1_copyFrom 48 = .ok (.getfield 22, 3) := by decide +kernel
theorem dX1_copyFrom_51 : decode cX1_copyFrom 51 = .ok (.iconst 0, 1) := by decide +kernel
theorem dX1_copyFrom_52 : decode cX1_copyFrom 52 = .ok (.aload_n 0, 1) := by decide +kernel
theorem dX1_copyFrom_53 : decode cX1_copyFrom 53 = .ok (.getfield 22, 3) := by decide +kernel
theorem dX1_copyFrom_56 : decode cX1_copyFrom 56 = .ok (.iconst 0, 1) := by decide +kernel
theorem dX1_copyFrom_57 : decode cX1_copyFrom 57 = .ok (.bipush 6, 2) := by decide +kernel
theorem dX1_copyFrom_59 : decode cX1_copyFrom 59 = .ok (.invokestatic 62, 3) := by decide +kernel
theorem dX1_copyFrom_62 : decode cX1_copyFrom 62 = .ok (.aload_n 1, 1) := by decide +kernel
theorem dX1_copyFrom_63 : decode cX1_copyFrom 63 = .ok (.getfield 25, 3) := by decide +kernel
theorem dX1_copyFrom_66 : decode cX1_copyFrom 66 = .ok (.iconst 0, 1) := by decide +kernel
theorem dX1_copyFrom_67 : decode cX1_copyFrom 67 = .ok (.aload_n 0, 1) := by decide +kernel
theorem dX1_copyFrom_68 : decode cX1_copyFrom 68 = .ok (.getfield 25, 3) := by decide +kernel
theorem dX1_copyFrom_71 : decode cX1_copyFrom 71 = .ok (.iconst 0, 1) := by decide +kernel
theorem dX1_copyFrom_72 : decode cX1_copyFrom 72 = .ok (.bipush 6, 2) := by decide +kernel
theorem dX1_copyFrom_74 : decode cX1_copyFrom 74 = .ok (.invokestatic 62, 3) := by decide +kernel
theorem dX1_copyFrom_77 : decode cX1_copyFrom 77 = .ok (.aload_n 1, 1) := by decide +kernel
theorem dX1_copyFrom_78 : decode cX1_copyFrom 78 = .ok (.getfield 28, 3) := by decide +kernel
theorem dX1_copyFrom_81 : decode cX1_copyFrom 81 = .ok (.iconst 0, 1) := by decide +kernel
theorem dX1_copyFrom_82 : decode cX1_copyFrom 82 = .ok (.aload_n 0, 1) := by decide +kernel
theorem dX1_copyFrom_83 : decode cX1_copyFrom 83 = .ok (.getfield 28, 3) := by decide +kernel
theorem dX1_copyFrom_86 : decode cX1_copyFrom 86 = .ok (.iconst 0, 1) := by decide +kernel
theorem dX1_copyFrom_87 : decode cX1_copyFrom 87 = .ok (.sipush 900, 3) := by decide +kernel
theorem dX1_copyFrom_90 : decode cX1_copyFrom 90 = .ok (.invokestatic 62, 3) := by decide +kernel
theorem dX1_copyFrom_93 : decode cX1_copyFrom 93 = .ok (.aload_n 1, 1) := by decide +kernel
theorem dX1_copyFrom_94 : decode cX1_copyFrom 94 = .ok (.getfield 31, 3) := by decide +kernel
theorem dX1_copyFrom_97 : decode cX1_copyFrom 97 = .ok (.iconst 0, 1) := by decide +kernel
theorem dX1_copyFrom_98 : decode cX1_copyFrom 98 = .ok (.aload_n 0, 1) := by decide +kernel
theorem dX1_copyFrom_99 : decode cX1_copyFrom 99 = .ok (.getfield 31, 3) := by decide +kernel
theorem dX1_copyFrom_102 : decode cX1_copyFrom 102 = .ok (.iconst 0, 1) := by decide +kernel
theorem dX1_copyFrom_103 : decode cX1_copyFrom 103 = .ok (.iconst 3, 1) := by decide +kernel
theorem dX1_copyFrom_104 : decode cX1_copyFrom 104 = .ok (.invokestatic 62, 3) := by decide +kernel
theorem dX1_copyFrom_107 : decode cX1_copyFrom 107 = .ok (.aload_n 1, 1) := by decide +kernel
theorem dX1_copyFrom_108 : decode cX1_copyFrom 108 = .ok (.getfield 34, 3) := by decide +kernel
theorem dX1_copyFrom_111 : decode cX1_copyFrom 111 = .ok (.iconst 0, 1) := by decide +kernel
theorem dX1_copyFrom_112 : decode cX1_copyFrom 112 = .ok (.aload_n 0, 1) := by decide +kernel
theorem dX1_copyFrom_113 : decode cX1_copyFrom 113 = .ok (.getfield 34, 3) := by decide +kernel
theorem dX1_copyFrom_116 : decode cX1_copyFrom 116 = .ok (.iconst 0, 1) := by decide +kernel
theorem dX1_copyFrom_117 : decode cX1_copyFrom 117 = .ok (.iconst 3, 1) := by decide +kernel
theorem dX1_copyFrom_118 : decode cX1_copyFrom 118 = .ok (.invokestatic 62, 3) := by decide +kernel
theorem dX1_copyFrom_121 : decode cX1_copyFrom 121 = .ok (.aload_n 0, 1) := by decide +kernel
theorem dX1_copyFrom_122 : decode cX1_copyFrom 122 = .ok (.getfield 40, 3) := by decide +kernel
theorem dX1_copyFrom_125 : decode cX1_copyFrom 125 = .ok (.aload_n 1, 1) := by decide +kernel
theorem dX1_copyFrom_126 : decode cX1_copyFrom 126 = .ok (.getfield 40, 3) := by decide +kernel
theorem dX1_copyFrom_129 : decode cX1_copyFrom 129 = .ok (.invokevirtual 68, 3) := by decide +kernel
theorem dX1_copyFrom_132 : decode cX1_copyFrom 132 = .ok (.return_, 1) := by decide +kernel
theorem dX2_init_0 : decode cX2_init 0 = .ok (.aload_n 0, 1) := by decide +kernel
theorem dX2_init_1 : decode cX2_init 1 = .ok (.invokespecial 3, 3) := by decide +kernel
theorem dX2_init_4 : decode cX2_init 4 = .ok (.aload_n 0, 1) := by decide +kernel
theorem dX2_init_5 : decode cX2_init 5 = .ok (.iconst (-1), 1) := by decide +kernel
theorem dX2_init_6 : decode cX2_init 6 = .ok (.putfield 9, 3) := by decide +kernel
theorem dX2_init_9 : decode cX2_init 9 = .ok (.return_, 1) := by decide +kernel
theorem dX2_start_0 : decode cX2_start 0 = .ok (.aload_n 0, 1) := by decide +kernel
theorem dX2_start_1 : decode cX2_start 1 = .ok (.iload_n 1, 1) := by decide +kernel
theorem dX2_start_2 : decode cX2_start 2 = .ok (.putfield 9, 3) := by decide +kernel
theorem dX2_start_5 : decode cX2_start 5 = .ok (.aload_n 0, 1) := by decide +kernel
theorem dX2_start_6 : decode cX2_start 6 = .ok (.aload_n 2, 1) := by decide +kernel
theorem dX2_start_7 : decode cX2_start 7 = .ok (.getfield 15, 3) := by decide +kernel
theorem dX2_start_10 : decode cX2_start 10 = .ok (.putfield 20, 3) := by decide +kernel
theorem dX2_start_13 : decode cX2_start 13 = .ok (.aload_n 0, 1) := by decide +kernel
theorem dX2_start_14 : decode cX2_start 14 = .ok (.aload_n 3, 1) := by decide +kernel
theorem dX2_start_15 : decode cX2_start 15 = .ok (.putfield 21, 3) := by decide +kernel
theorem dX2_start_18 : decode cX2_start 18 = .ok (.aload_n 0, 1) := by decide +kernel
theorem dX2_start_19 : decode cX2_start 19 = .ok (.aload 4, 2) := by decide +kernel
theorem dX2_start_21 : decode cX2_start 21 = .ok (.putfield 25, 3) := by decide +kernel
theorem dX2_start_24 : decode cX2_start 24 = .ok (.aload_n 0, 1) := by decide +kernel
theorem dX2_start_25 : decode cX2_start 25 = .ok (.aload 5, 2) := by decide +kernel
theorem dX2_start_27 : decode cX2_start 27 = .ok (.putfield 29, 3) := by decide +kernel
theorem dX2_start_30 : decode cX2_start 30 = .ok (.aload_n 0, 1) := by decide +kernel
theorem dX2_start_31 : decode cX2_start 31 = .ok (.getfield 25, 3) := by decide +kernel
theorem dX2_start_34 : decode cX2_start 34 = .ok (.aload_n 2, 1) := by decide +kernel
theorem dX2_start_35 : decode cX2_start 35 = .ok (.getfield 33, 3) := by decide +kernel
theorem dX2_start_38 : decode cX2_start 38 = .ok (.invokevirtual 36, 3) := by decide +kernel
theorem dX2_start_41 : decode cX2_start 41 = .ok (.aload_n 0, 1) := by decide +kernel
theorem dX2_start_42 : decode cX2_start 42 = .ok (.aload_n 0, 1) := by decide +kernel
theorem dX2_start_43 : decode cX2_start 43 = .ok (.getfield 25, 3) := by decide +kernel
theorem dX2_start_46 : decode cX2_start 46 = .ok (.getfield 42, 3) := by decide +kernel
theorem dX2_start_49 : decode cX2_start 49 = .ok (.putfield 45, 3) := by decide +kernel
theorem dX2_start_52 : decode cX2_start 52 = .ok (.aload_n 0, 1) := by decide +kernel
theorem dX2_start_53 : decode cX2_start 53 = .ok (.iconst (-1), 1) := by decide +kernel
theorem dX2_start_54 : decode cX2_start 54 = .ok (.putfield 48, 3) := by decide +kernel
theorem dX2_start_57 : decode cX2_start 57 = .ok (.iconst 0, 1) := by decide +kernel
theorem dX2_start_58 : decode cX2_start 58 = .ok (.istore 6, 2) := by decide +kernel
theorem dX2_start_60 : decode cX2_start 60 = .ok (.iload 6, 2) := by decide +kernel
theorem dX2_start_62 : decode cX2_start 62 = .ok (.aload_n 0, 1) := by decide +kernel
theorem dX2_start_63 : decode cX2_start 63 = .ok (.getfield 45, 3) := by decide +kernel
theorem dX2_start_66 : decode cX2_start 66 = .ok (.if_icmp .ge 44, 3) := by decide +kernel
theorem dX2_start_69 : decode cX2_start 69 = .ok (.aload_n 0, 1) := by decide +kernel
theorem dX2_start_70 : decode cX2_start 70 = .ok (.getfield 25, 3) := by decide +kernel
theorem dX2_start_73 : decode cX2_start 73 = .ok (.getfield 51, 3) := by decide +kernel
theorem dX2_start_76 : decode cX2_start 76 = .ok (.iload 6, 2) := by decide +kernel
theorem dX2_start_78 : decode cX2_start 78 = .ok (.iaload, 1) := by decide +kernel
theorem dX2_start_79 : decode cX2_start 79 = .ok (.iload_n 1, 1) := by decide +kernel
theorem dX2_start_80 : decode cX2_start 80 = .ok (.if_icmp .ne 24, 3) := by decide +kernel
theorem dX2_start_83 : decode cX2_start 83 = .ok (.aload_n 0, 1) := by decide +kernel
theorem dX2_start_84 : decode cX2_start 84 = .ok (.aload_n 0, 1) := by decide +kernel
theorem dX2_start_85 : decode cX2_start 85 = .ok (.getfield 48, 3) := by decide +kernel
theorem dX2_start_88 : decode cX2_start 88 = .ok (.aload_n 0, 1) := by decide +kernel
theorem dX2_start_89 : decode cX2_start 89 = .ok (.getfield 25, 3) := by decide +kernel
theorem dX2_start_92 : decode cX2_start 92 = .ok (.getfield 55, 3) := by decide +kernel
theorem dX2_start_95 : decode cX2_start 95 = .ok (.iload 6, 2) := by decide +kernel
theorem dX2_start_97 : decode cX2_start 97 = .ok (.iaload, 1) := by decide +kernel
theorem dX2_start_98 : decode cX2_start 98 = .ok (.invokestatic 58, 3) := by decide +kernel
theorem dX2_start_101 : decode cX2_start 101 = .ok (.putfield 48, 3) := by decide +kernel
theorem dX2_start_104 : decode cX2_start 104 = .ok (.iinc 6 1, 3) := by decide +kernel
theorem dX2_start_107 : decode cX2_start 107 = .ok (.goto (-47), 3) := by decide +kernel
theorem dX2_start_110 : decode cX2_start 110 = .ok (.aload_n 0, 1) := by decide +kernel
theorem dX2_start_111 : decode cX2_start 111 = .ok (.iconst (-1), 1) := by decide +kernel
theorem dX2_start_112 : decode cX2_start 112 = .ok (.putfield 64, 3) := by decide +kernel
theorem dX2_start_115 : decode cX2_start 115 = .ok (.aload_n 0, 1) := by decide +kernel
theorem dX2_start_116 : decode cX2_start 116 = .ok (.iconst (-1), 1) := by decide +kernel
theorem dX2_start_117 : decode cX2_start 117 = .ok (.putfield 67, 3) := by decide +kernel
theorem dX2_start_120 : decode cX2_start 120 = .ok (.aload_n 0, 1) := by decide +kernel
theorem dX2_start_121 : decode cX2_start 121 = .ok (.aload_n 0, 1) := by decide +kernel
theorem dX2_start_122 : decode cX2_start 122 = .ok (.getfield 29, 3) := by decide +kernel
theorem dX2_start_125 : decode cX2_start 125 = .ok (.aload_n 0, 1) := by decide +kernel
theorem dX2_start_126 : decode cX2_start 126 = .ok (.getfield 25, 3) := by decide +kernel
theorem dX2_start_129 : decode cX2_start 129 = .ok (.aload_n 0, 1) := by decide +kernel
theorem dX2_start_130 : decode cX2_start 130 = .ok (.getfield 21, 3) := by decide +kernel
theorem dX2_start_133 : decode cX2_start 133 = .ok (.aload_n 0, 1) := by decide +kernel
theorem dX2_start_134 : decode cX2_start 134 = .ok (.getfield 48, 3) := by decide +kernel
theorem dX2_start_137 : decode cX2_start 137 = .ok (.iload_n 1, 1) := by decide +kernel
theorem dX2_start_138 : decode cX2_start 138 = .ok (.invokevirtual 70, 3) := by decide +kernel
theorem dX2_start_141 : decode cX2_start 141 = .ok (.ifCond .eq 7, 3) := by decide +kernel
theorem dX2_start_144 : decode cX2_start 144 = .ok (.iconst 0, 1) := by decide +kernel
theorem dX2_start_145 : decode cX2_start 145 = .ok (.goto 4, 3) := by decide +kernel
theorem dX2_start_148 : decode cX2_start 148 = .ok (.iconst (-1), 1) := by decide +kernel
theorem dX2_start_149 : decode cX2_start 149 = .ok (.putfield 76, 3) := by decide +kernel
theorem dX2_start_152 : decode cX2_start 152 = .ok (.aload_n 0, 1) := by decide +kernel
theorem dX2_start_153 : decode cX2_start 153 = .ok (.aload_n 0, 1) := by decide +kernel
theorem dX2_start_154 : decode cX2_start 154 = .ok (.invokevirtual 79, 3) := by decide +kernel
theorem dX2_start_157 : decode cX2_start 157 = .ok (.putfield 83, 3) := by decide +kernel
theorem dX2_start_160 : decode cX2_start 160 = .ok (.return_, 1) := by decide +kernel
theorem dX2_inTime_0 : decode cX2_inTime 0 = .ok (.aload_n 0, 1) := by decide +kernel
theorem dX2_inTime_1 : decode cX2_inTime 1 = .ok (.getfield 29, 3) := by decide +kernel
theorem dX2_inTime_4 : decode cX2_inTime 4 = .ok (.getfield 86, 3) := by decide +kernel
theorem dX2_inTime_7 : decode cX2_inTime 7 = .ok (.bipush 20, 2) := by decide +kernel
theorem dX2_inTime_9 : decode cX2_inTime 9 = .ok (.invokestatic 89, 3) := by decide +kernel
theorem dX2_inTime_12 : decode cX2_inTime 12 = .ok (.bipush 6, 2) := by decide +kernel
theorem dX2_inTime_14 : decode cX2_inTime 14 = .ok (.imul, 1) := by decide +kernel
theorem dX2_inTime_15 : decode cX2_inTime 15 = .ok (.ireturn, 1) := by decide +kernel
theorem dX2_seekOne_0 : decode cX2_seekOne 0 = .ok (.iconst 0, 1) := by decide +kernel
theorem dX2_seekOne_1 : decode cX2_seekOne 1 = .ok (.istore_n 1, 1) := by decide +kernel
theorem dX2_seekOne_2 : decode cX2_seekOne 2 = .ok (.iload_n 1, 1) := by decide +kernel
theorem dX2_seekOne_3 : decode cX2_seekOne 3 = .ok (.aload_n 0, 1) := by decide +kernel
theorem dX2_seekOne_4 : decode cX2_seekOne 4 = .ok (.getfield 83, 3) := by decide +kernel
theorem dX2_seekOne_7 : decode cX2_seekOne 7 = .ok (.if_icmp .ge 80, 3) := by decide +kernel
theorem dX2_seekOne_10 : decode cX2_seekOne 10 = .ok (.aload_n 0, 1) := by decide +kernel
theorem dX2_seekOne_11 : decode cX2_seekOne 11 = .ok (.getfield 76, 3) := by decide +kernel
theorem dX2_seekOne_14 : decode cX2_seekOne 14 = .ok (.iconst (-1), 1) := by decide +kernel
theorem dX2_seekOne_15 : decode cX2_seekOne 15 = .ok (.if_icmp .ne 72, 3) := by decide +kernel
theorem dX2_seekOne_18 : decode cX2_seekOne 18 = .ok (.aload_n 0, 1) := by decide +kernel
theorem dX2_seekOne_19 : decode cX2_seekOne 19 = .ok (.iload_n 1, 1) := by decide +kernel
theorem dX2_seekOne_20 : decode cX2_seekOne 20 = .ok (.invokevirtual 92, 3) := by decide +kernel
theorem dX2_seekOne_23 : decode cX2_seekOne 23 = .ok (.ifCond .eq 58, 3) := by decide +kernel
theorem dX2_seekOne_26 : decode cX2_seekOne 26 = .ok (.aload_n 0, 1) := by decide +kernel
theorem dX2_seekOne_27 : decode cX2_seekOne 27 = .ok (.getfield 25, 3) := by decide +kernel
theorem dX2_seekOne_30 : decode cX2_seekOne 30 = .ok (.aload_n 0, 1) := by decide +kernel
theorem dX2_seekOne_31 : decode cX2_seekOne 31 = .ok (.getfield 45, 3) := by decide +kernel
theorem dX2_seekOne_34 : decode cX2_seekOne 34 = .ok (.putfield 42, 3) := by decide +kernel
theorem dX2_seekOne_37 : decode cX2_seekOne 37 = .ok (.aload_n 0, 1) := by decide +kernel
theorem dX2_seekOne_38 : decode cX2_seekOne 38 = .ok (.iload_n 1, 1) := by decide +kernel
theorem dX2_seekOne_39 : decode cX2_seekOne 39 = .ok (.invokevirtual 96, 3) := by decide +kernel
theorem dX2_seekOne_42 : decode cX2_seekOne 42 = .ok (.aload_n 0, 1) := by decide +kernel
theorem dX2_seekOne_43 : decode cX2_seekOne 43 = .ok (.getfield 29, 3) := by decide +kernel
theorem dX2_seekOne_46 : decode cX2_seekOne 46 = .ok (.aload_n 0, 1) := by decide +kernel
theorem dX2_seekOne_47 : decode cX2_seekOne 47 = .ok (.getfield 25, 3) := by decide +kernel
theorem dX2_seekOne_50 : decode cX2_seekOne 50 = .ok (.aload_n 0, 1) := by decide +kernel
theorem dX2_seekOne_51 : decode cX2_seekOne 51 = .ok (.getfield 21, 3) := by decide +kernel
theorem dX2_seekOne_54 : decode cX2_seekOne 54 = .ok (.aload_n 0, 1) := by decide +kernel
theorem dX2_seekOne_55 : decode cX2_seekOne 55 = .ok (.getfield 48, 3) := by decide +kernel
theorem dX2_seekOne_58 : decode cX2_seekOne 58 = .ok (.aload_n 0, 1) := by decide +kernel
theorem dX2_seekOne_59 : decode cX2_seekOne 59 = .ok (.getfield 9, 3) := by decide +kernel
theorem dX2_seekOne_62 : decode cX2_seekOne 62 = .ok (.invokevirtual 70, 3) := by decide +kernel
theorem dX2_seekOne_65 : decode cX2_seekOne 65 = .ok (.ifCond .eq 16, 3) := by decide +kernel
theorem dX2_seekOne_68 : decode cX2_seekOne 68 = .ok (.aload_n 0, 1) := by decide +kernel
theorem dX2_seekOne_69 : decode cX2_seekOne 69 = .ok (.iconst 1, 1) := by decide +kernel
theorem dX2_seekOne_70 : decode cX2_seekOne 70 = .ok (.putfield 76, 3) := by decide +kernel
theorem dX2_seekOne_73 : decode cX2_seekOne 73 = .ok (.aload_n 0, 1) := by decide +kernel
theorem dX2_seekOne_74 : decode cX2_seekOne 74 = .ok (.iload_n 1, 1) := by decide +kernel
theorem dX2_seekOne_75 : decode cX2_seekOne 75 = .ok (.invokestatic 100, 3) := by decide +kernel
theorem dX2_seekOne_78 : decode cX2_seekOne 78 = .ok (.putfield 64, 3) := by decide +kernel
theorem dX2_seekOne_81 : decode cX2_seekOne 81 = .ok (.iinc 1 1, 3) := by decide +kernel
theorem dX2_seekOne_84 : decode cX2_seekOne 84 = .ok (.goto (-82), 3) := by decide +kernel
theorem dX2_seekOne_87 : decode cX2_seekOne 87 = .ok (.return_, 1) := by decide +kernel
theorem dX2_seekTwo_0 : decode cX2_seekTwo 0 = .ok (.iconst 0, 1) := by decide +kernel
theorem dX2_seekTwo_1 : decode cX2_seekTwo 1 = .ok (.istore_n 1, 1) := by decide +kernel
theorem dX2_seekTwo_2 : decode cX2_seekTwo 2 = .ok (.iload_n 1, 1) := by decide +kernel
theorem dX2_seekTwo_3 : decode cX2_seekTwo 3 = .ok (.aload_n 0, 1) := by decide +kernel
theorem dX2_seekTwo_4 : decode cX2_seekTwo 4 = .ok (.getfield 83, 3) := by decide +kernel
theorem dX2_seekTwo_7 : decode cX2_seekTwo 7 = .ok (.if_icmp .ge 166, 3) := by decide +kernel
theorem dX2_seekTwo_10 : decode cX2_seekTwo 10 = .ok (.aload_n 0, 1) := by decide +kernel
theorem dX2_seekTwo_11 : decode cX2_seekTwo 11 = .ok (.getfield 76, 3) := by decide +kernel
theorem dX2_seekTwo_14 : decode cX2_seekTwo 14 = .ok (.iconst (-1), 1) := by decide +kernel
theorem dX2_seekTwo_15 : decode cX2_seekTwo 15 = .ok (.if_icmp .ne 158, 3) := by decide +kernel
theorem dX2_seekTwo_18 : decode cX2_seekTwo 18 = .ok (.aload_n 0, 1) := by decide +kernel
theorem dX2_seekTwo_19 : decode cX2_seekTwo 19 = .ok (.iload_n 1, 1) := by decide +kernel
theorem dX2_seekTwo_20 : decode cX2_seekTwo 20 = .ok (.invokevirtual 92, 3) := by decide +kernel
theorem dX2_seekTwo_23 : decode cX2_seekTwo 23 = .ok (.ifCond .eq 144, 3) := by decide +kernel
theorem dX2_seekTwo_26 : decode cX2_seekTwo 26 = .ok (.aload_n 0, 1) := by decide +kernel
theorem dX2_seekTwo_27 : decode cX2_seekTwo 27 = .ok (.getfield 25, 3) := by decide +kernel
theorem dX2_seekTwo_30 : decode cX2_seekTwo 30 = .ok (.aload_n 0, 1) := by decide +kernel
theorem dX2_seekTwo_31 : decode cX2_seekTwo 31 = .ok (.getfield 45, 3) := by decide +kernel
theorem dX2_seekTwo_34 : decode cX2_seekTwo 34 = .ok (.putfield 42, 3) := by decide +kernel
theorem dX2_seekTwo_37 : decode cX2_seekTwo 37 = .ok (.aload_n 0, 1) := by decide +kernel
theorem dX2_seekTwo_38 : decode cX2_seekTwo 38 = .ok (.iload_n 1, 1) := by decide +kernel
theorem dX2_seekTwo_39 : decode cX2_seekTwo 39 = .ok (.invokevirtual 96, 3) := by decide +kernel
theorem dX2_seekTwo_42 : decode cX2_seekTwo 42 = .ok (.aload_n 0, 1) := by decide +kernel
theorem dX2_seekTwo_43 : decode cX2_seekTwo 43 = .ok (.getfield 29, 3) := by decide +kernel
theorem dX2_seekTwo_46 : decode cX2_seekTwo 46 = .ok (.aload_n 0, 1) := by decide +kernel
theorem dX2_seekTwo_47 : decode cX2_seekTwo 47 = .ok (.getfield 25, 3) := by decide +kernel
theorem dX2_seekTwo_50 : decode cX2_seekTwo 50 = .ok (.aload_n 0, 1) := by decide +kernel
theorem dX2_seekTwo_51 : decode cX2_seekTwo 51 = .ok (.getfield 21, 3) := by decide +kernel
theorem dX2_seekTwo_54 : decode cX2_seekTwo 54 = .ok (.aload_n 0, 1) := by decide +kernel
theorem dX2_seekTwo_55 : decode cX2_seekTwo 55 = .ok (.getfield 48, 3) := by decide +kernel
theorem dX2_seekTwo_58 : decode cX2_seekTwo 58 = .ok (.aload_n 0, 1) := by decide +kernel
theorem dX2_seekTwo_59 : decode cX2_seekTwo 59 = .ok (.getfield 9, 3) := by decide +kernel
theorem dX2_seekTwo_62 : decode cX2_seekTwo 62 = .ok (.invokevirtual 70, 3) := by decide +kernel
theorem dX2_seekTwo_65 : decode cX2_seekTwo 65 = .ok (.pop, 1) := by decide +kernel
theorem dX2_seekTwo_66 : decode cX2_seekTwo 66 = .ok (.aload_n 0, 1) := by decide +kernel
theorem dX2_seekTwo_67 : decode cX2_seekTwo 67 = .ok (.invokevirtual 79, 3) := by decide +kernel
theorem dX2_seekTwo_70 : decode cX2_seekTwo 70 = .ok (.istore_n 2, 1) := by decide +kernel
theorem dX2_seekTwo_71 : decode cX2_seekTwo 71 = .ok (.iload_n 1, 1) := by decide +kernel
theorem dX2_seekTwo_72 : decode cX2_seekTwo 72 = .ok (.iconst 1, 1) := by decide +kernel
theorem dX2_seekTwo_73 : decode cX2_seekTwo 73 = .ok (.iadd, 1) := by decide +kernel
theorem dX2_seekTwo_74 : decode cX2_seekTwo 74 = .ok (.istore_n 3, 1) := by decide +kernel
theorem dX2_seekTwo_75 : decode cX2_seekTwo 75 = .ok (.iload_n 3, 1) := by decide +kernel
theorem dX2_seekTwo_76 : decode cX2_seekTwo 76 = .ok (.iload_n 2, 1) := by decide +kernel
theorem dX2_seekTwo_77 : decode cX2_seekTwo 77 = .ok (.if_icmp .ge 90, 3) := by decide +kernel
theorem dX2_seekTwo_80 : decode cX2_seekTwo 80 = .ok (.aload_n 0, 1) := by decide +kernel
theorem dX2_seekTwo_81 : decode cX2_seekTwo 81 = .ok (.getfield 76, 3) := by decide +kernel
theorem dX2_seekTwo_84 : decode cX2_seekTwo 84 = .ok (.iconst (-1), 1) := by decide +kernel
theorem dX2_seekTwo_85 : decode cX2_seekTwo 85 = .ok (.if_icmp .ne 82, 3) := by decide +kernel
theorem dX2_seekTwo_88 : decode cX2_seekTwo 88 = .ok (.aload_n 0, 1) := by decide +kernel
theorem dX2_seekTwo_89 : decode cX2_seekTwo 89 = .ok (.iload_n 3, 1) := by decide +kernel
theorem dX2_seekTwo_90 : decode cX2_seekTwo 90 = .ok (.invokevirtual 92, 3) := by decide +kernel
theorem dX2_seekTwo_93 : decode cX2_seekTwo 93 = .ok (.ifCond .eq 68, 3) := by decide +kernel
theorem dX2_seekTwo_96 : decode cX2_seekTwo 96 = .ok (.aload_n 0, 1) := by decide +kernel
theorem dX2_seekTwo_97 : decode cX2_seekTwo 97 = .ok (.getfield 25, 3) := by decide +kernel
theorem dX2_seekTwo_100 : decode cX2_seekTwo 100 = .ok (.aload_n 0, 1) := by decide +kernel
theorem dX2_seekTwo_101 : decode cX2_seekTwo 101 = .ok (.getfield 45, 3) := by decide +kernel
theorem dX2_seekTwo_104 : decode cX2_seekTwo 104 = .ok (.iconst 1, 1) := by decide +kernel
theorem dX2_seekTwo_105 : decode cX2_seekTwo 105 = .ok (.iadd, 1) := by decide +kernel
theorem dX2_seekTwo_106 : decode cX2_seekTwo 106 = .ok (.putfield 42, 3) := by decide +kernel
theorem dX2_seekTwo_109 : decode cX2_seekTwo 109 = .ok (.aload_n 0, 1) := by decide +kernel
theorem dX2_seekTwo_110 : decode cX2_seekTwo 110 = .ok (.iload_n 3, 1) := by decide +kernel
theorem dX2_seekTwo_111 : decode cX2_seekTwo 111 = .ok (.invokevirtual 96, 3) := by decide +kernel
theorem dX2_seekTwo_114 : decode cX2_seekTwo 114 = .ok (.aload_n 0, 1) := by decide +kernel
theorem dX2_seekTwo_115 : decode cX2_seekTwo 115 = .ok (.getfield 29, 3) := by decide +kernel
theorem dX2_seekTwo_118 : decode cX2_seekTwo 118 = .ok (.aload_n 0, 1) := by decide +kernel
theorem dX2_seekTwo_119 : decode cX2_seekTwo 119 = .ok (.getfield 25, 3) := by decide +kernel
theorem dX2_seekTwo_122 : decode cX2_seekTwo 122 = .ok (.aload_n 0, 1) := by decide +kernel
theorem dX2_seekTwo_123 : decode cX2_seekTwo 123 = .ok (.getfield 21, 3) := by decide +kernel
theorem dX2_seekTwo_126 : decode cX2_seekTwo 126 = .ok (.aload_n 0, 1) := by decide +kernel
theorem dX2_seekTwo_127 : decode cX2_seekTwo 127 = .ok (.getfield 48, 3) := by decide +kernel
theorem dX2_seekTwo_130 : decode cX2_seekTwo 130 = .ok (.aload_n 0, 1) := by decide +kernel
theorem dX2_seekTwo_131 : decode cX2_seekTwo 131 = .ok (.getfield 9, 3) := by decide +kernel
theorem dX2_seekTwo_134 : decode cX2_seekTwo 134 = .ok (.invokevirtual 70, 3) := by decide +kernel
theorem dX2_seekTwo_137 : decode cX2_seekTwo 137 = .ok (.ifCond .eq 24, 3) := by decide +kernel
theorem dX2_seekTwo_140 : decode cX2_seekTwo 140 = .ok (.aload_n 0, 1) := by decide +kernel
theorem dX2_seekTwo_141 : decode cX2_seekTwo 141 = .ok (.iconst 2, 1) := by decide +kernel
theorem dX2_seekTwo_142 : decode cX2_seekTwo 142 = .ok (.putfield 76, 3) := by decide +kernel
theorem dX2_seekTwo_145 : decode cX2_seekTwo 145 = .ok (.aload_n 0, 1) := by decide +kernel
theorem dX2_seekTwo_146 : decode cX2_seekTwo 146 = .ok (.iload_n 1, 1) := by decide +kernel
theorem dX2_seekTwo_147 : decode cX2_seekTwo 147 = .ok (.invokestatic 100, 3) := by decide +kernel
theorem dX2_seekTwo_150 : decode cX2_seekTwo 150 = .ok (.putfield 64, 3) := by decide +kernel
theorem dX2_seekTwo_153 : decode cX2_seekTwo 153 = .ok (.aload_n 0, 1) := by decide +kernel
theorem dX2_seekTwo_154 : decode cX2_seekTwo 154 = .ok (.iload_n 3, 1) := by decide +kernel
theorem dX2_seekTwo_155 : decode cX2_seekTwo 155 = .ok (.invokestatic 100, 3) := by decide +kernel
theorem dX2_seekTwo_158 : decode cX2_seekTwo 158 = .ok (.putfield 67, 3) := by decide +kernel
theorem dX2_seekTwo_161 : decode cX2_seekTwo 161 = .ok (.iinc 3 1, 3) := by decide +kernel
theorem dX2_seekTwo_164 : decode cX2_seekTwo 164 = .ok (.goto (-89), 3) := by decide +kernel
theorem dX2_seekTwo_167 : decode cX2_seekTwo 167 = .ok (.iinc 1 1, 3) := by decide +kernel
theorem dX2_seekTwo_170 : decode cX2_seekTwo 170 = .ok (.goto (-168), 3) := by decide +kernel
theorem dX2_seekTwo_173 : decode cX2_seekTwo 173 = .ok (.return_, 1) := by decide +kernel
theorem dX2_isNaming_0 : decode cX2_isNaming 0 = .ok (.iload_n 1, 1) := by decide +kernel
theorem dX2_isNaming_1 : decode cX2_isNaming 1 = .ok (.bipush 6, 2) := by decide +kernel
theorem dX2_isNaming_3 : decode cX2_isNaming 3 = .ok (.irem, 1) := by decide +kernel
theorem dX2_isNaming_4 : decode cX2_isNaming 4 = .ok (.istore_n 2, 1) := by decide +kernel
theorem dX2_isNaming_5 : decode cX2_isNaming 5 = .ok (.iload_n 2, 1) := by decide +kernel
theorem dX2_isNaming_6 : decode cX2_isNaming 6 = .ok (.aload_n 0, 1) := by decide +kernel
theorem dX2_isNaming_7 : decode cX2_isNaming 7 = .ok (.getfield 20, 3) := by decide +kernel
theorem dX2_isNaming_10 : decode cX2_isNaming 10 = .ok (.if_icmp .ge 15, 3) := by decide +kernel
theorem dX2_isNaming_13 : decode cX2_isNaming 13 = .ok (.iload_n 2, 1) := by decide +kernel
theorem dX2_isNaming_14 : decode cX2_isNaming 14 = .ok (.aload_n 0, 1) := by decide +kernel
theorem dX2_isNaming_15 : decode cX2_isNaming 15 = .ok (.getfield 9, 3) := by decide +kernel
theorem dX2_isNaming_18 : decode cX2_isNaming 18 = .ok (.if_icmp .eq 7, 3) := by decide +kernel
theorem dX2_isNaming_21 : decode cX2_isNaming 21 = .ok (.iconst 1, 1) := by decide +kernel
theorem dX2_isNaming_22 : decode cX2_isNaming 22 = .ok (.goto 4, 3) := by decide +kernel
theorem dX2_isNaming_25 : decode cX2_isNaming 25 = .ok (.iconst 0, 1) := by decide +kernel
theorem dX2_isNaming_26 : decode cX2_isNaming 26 = .ok (.ireturn, 1) := by decide +kernel
theorem dX2_code_0 : decode cX2_code 0 = .ok (.iload_n 0, 1) := by decide +kernel
theorem dX2_code_1 : decode cX2_code 1 = .ok (.bipush 6, 2) := by decide +kernel
theorem dX2_code_3 : decode cX2_code 3 = .ok (.idiv, 1) := by decide +kernel
theorem dX2_code_4 : decode cX2_code 4 = .ok (.bipush 100, 2) := by decide +kernel
theorem dX2_code_6 : decode cX2_code 6 = .ok (.imul, 1) := by decide +kernel
theorem dX2_code_7 : decode cX2_code 7 = .ok (.iload_n 0, 1) := by decide +kernel
theorem dX2_code_8 : decode cX2_code 8 = .ok (.bipush 6, 2) := by decide +kernel
theorem dX2_code_10 : decode cX2_code 10 = .ok (.irem, 1) := by decide +kernel
theorem dX2_code_11 : decode cX2_code 11 = .ok (.iadd, 1) := by decide +kernel
theorem dX2_code_12 : decode cX2_code 12 = .ok (.ireturn, 1) := by decide +kernel
theorem dX2_tellToo_0 : decode cX2_tellToo 0 = .ok (.aload_n 0, 1) := by decide +kernel
theorem dX2_tellToo_1 : decode cX2_tellToo 1 = .ok (.getfield 25, 3) := by decide +kernel
theorem dX2_tellToo_4 : decode cX2_tellToo 4 = .ok (.iload_n 1, 1) := by decide +kernel
theorem dX2_tellToo_5 : decode cX2_tellToo 5 = .ok (.bipush 6, 2) := by decide +kernel
theorem dX2_tellToo_7 : decode cX2_tellToo 7 = .ok (.irem, 1) := by decide +kernel
theorem dX2_tellToo_8 : decode cX2_tellToo 8 = .ok (.aload_n 0, 1) := by decide +kernel
theorem dX2_tellToo_9 : decode cX2_tellToo 9 = .ok (.getfield 9, 3) := by decide +kernel
theorem dX2_tellToo_12 : decode cX2_tellToo 12 = .ok (.iload_n 1, 1) := by decide +kernel
theorem dX2_tellToo_13 : decode cX2_tellToo 13 = .ok (.bipush 6, 2) := by decide +kernel
theorem dX2_tellToo_15 : decode cX2_tellToo 15 = .ok (.idiv, 1) := by decide +kernel
theorem dX2_tellToo_16 : decode cX2_tellToo 16 = .ok (.bipush 10, 2) := by decide +kernel
theorem dX2_tellToo_18 : decode cX2_tellToo 18 = .ok (.invokevirtual 104, 3) := by decide +kernel
theorem dX2_tellToo_21 : decode cX2_tellToo 21 = .ok (.return_, 1) := by decide +kernel
theorem dX3_init_0 : decode cX3_init 0 = .ok (.aload_n 0, 1) := by decide +kernel
theorem dX3_init_1 : decode cX3_init 1 = .ok (.invokespecial 3, 3) := by decide +kernel
theorem dX3_init_4 : decode cX3_init 4 = .ok (.aload_n 0, 1) := by decide +kernel
theorem dX3_init_5 : decode cX3_init 5 = .ok (.bipush 36, 2) := by decide +kernel
theorem dX3_init_7 : decode cX3_init 7 = .ok (.newarray .int, 2) := by decide +kernel
theorem dX3_init_9 : decode cX3_init 9 = .ok (.putfield 9, 3) := by decide +kernel
theorem dX3_init_12 : decode cX3_init 12 = .ok (.aload_n 0, 1) := by decide +kernel
theorem dX3_init_13 : decode cX3_init 13 = .ok (.bipush 36, 2) := by decide +kernel
theorem dX3_init_15 : decode cX3_init 15 = .ok (.newarray .int, 2) := by decide +kernel
theorem dX3_init_17 : decode cX3_init 17 = .ok (.putfield 15, 3) := by decide +kernel
theorem dX3_init_20 : decode cX3_init 20 = .ok (.aload_n 0, 1) := by decide +kernel
theorem dX3_init_21 : decode cX3_init 21 = .ok (.bipush 36, 2) := by decide +kernel
theorem dX3_init_23 : decode cX3_init 23 = .ok (.newarray .int, 2) := by decide +kernel
theorem dX3_init_25 : decode cX3_init 25 = .ok (.putfield 18, 3) := by decide +kernel
theorem dX3_init_28 : decode cX3_init 28 = .ok (.aload_n 0, 1) := by decide +kernel
theorem dX3_init_29 : decode cX3_init 29 = .ok (.bipush 9, 2) := by decide +kernel
theorem dX3_init_31 : decode cX3_init 31 = .ok (.newarray .int, 2) := by decide +kernel
theorem dX3_init_33 : decode cX3_init 33 = .ok (.putfield 21, 3) := by decide +kernel
theorem dX3_init_36 : decode cX3_init 36 = .ok (.aload_n 0, 1) := by decide +kernel
theorem dX3_init_37 : decode cX3_init 37 = .ok (.bipush 64, 2) := by decide +kernel
theorem dX3_init_39 : decode cX3_init 39 = .ok (.newarray .int, 2) := by decide +kernel
theorem dX3_init_41 : decode cX3_init 41 = .ok (.putfield 24, 3) := by decide +kernel
theorem dX3_init_44 : decode cX3_init 44 = .ok (.aload_n 0, 1) := by decide +kernel
theorem dX3_init_45 : decode cX3_init 45 = .ok (.bipush 72, 2) := by decide +kernel
theorem dX3_init_47 : decode cX3_init 47 = .ok (.newarray .long, 2) := by decide +kernel
theorem dX3_init_49 : decode cX3_init 49 = .ok (.putfield 27, 3) := by decide +kernel
theorem dX3_init_52 : decode cX3_init 52 = .ok (.aload_n 0, 1) := by decide +kernel
theorem dX3_init_53 : decode cX3_init 53 = .ok (.bipush 72, 2) := by decide +kernel
theorem dX3_init_55 : decode cX3_init 55 = .ok (.newarray .long, 2) := by decide +kernel
theorem dX3_init_57 : decode cX3_init 57 = .ok (.putfield 31, 3) := by decide +kernel
theorem dX3_init_60 : decode cX3_init 60 = .ok (.return_, 1) := by decide +kernel
theorem dX3_take_0 : decode cX3_take 0 = .ok (.aload_n 0, 1) := by decide +kernel
theorem dX3_take_1 : decode cX3_take 1 = .ok (.aload_n 1, 1) := by decide +kernel
theorem dX3_take_2 : decode cX3_take 2 = .ok (.putfield 34, 3) := by decide +kernel
theorem dX3_take_5 : decode cX3_take 5 = .ok (.aload_n 0, 1) := by decide +kernel
theorem dX3_take_6 : decode cX3_take 6 = .ok (.aload_n 2, 1) := by decide +kernel
theorem dX3_take_7 : decode cX3_take 7 = .ok (.putfield 38, 3) := by decide +kernel
theorem dX3_take_10 : decode cX3_take 10 = .ok (.aload_n 0, 1) := by decide +kernel
theorem dX3_take_11 : decode cX3_take 11 = .ok (.getfield 27, 3) := by decide +kernel
theorem dX3_take_14 : decode cX3_take 14 = .ok (.lconst 0, 1) := by decide +kernel
theorem dX3_take_15 : decode cX3_take 15 = .ok (.invokestatic 42, 3) := by decide +kernel
theorem dX3_take_18 : decode cX3_take 18 = .ok (.aload_n 0, 1) := by decide +kernel
theorem dX3_take_19 : decode cX3_take 19 = .ok (.getfield 31, 3) := by decide +kernel
theorem dX3_take_22 : decode cX3_take 22 = .ok (.lconst 0, 1) := by decide +kernel
theorem dX3_take_23 : decode cX3_take 23 = .ok (.invokestatic 42, 3) := by decide +kernel
theorem dX3_take_26 : decode cX3_take 26 = .ok (.return_, 1) := by decide +kernel
theorem dX3_learn_0 : decode cX3_learn 0 = .ok (.aload_n 0, 1) := by decide +kernel
theorem dX3_learn_1 : decode cX3_learn 1 = .ok (.aload_n 1, 1) := by decide +kernel
theorem dX3_learn_2 : decode cX3_learn 2 = .ok (.aload_n 2, 1) := by decide +kernel
theorem dX3_learn_3 : decode cX3_learn 3 = .ok (.invokevirtual 48, 3) := by decide +kernel
theorem dX3_learn_6 : decode cX3_learn 6 = .ok (.iconst 0, 1) := by decide +kernel
theorem dX3_learn_7 : decode cX3_learn 7 = .ok (.istore_n 3, 1) := by decide +kernel
theorem dX3_learn_8 : decode cX3_learn 8 = .ok (.iload_n 3, 1) := by decide +kernel
theorem dX3_learn_9 : decode cX3_learn 9 = .ok (.aload_n 0, 1) := by decide +kernel
theorem dX3_learn_10 : decode cX3_learn 10 = .ok (.getfield 34, 3) := by decide +kernel
theorem dX3_learn_13 : decode cX3_learn 13 = .ok (.getfield 52, 3) := by decide +kernel
theorem dX3_learn_16 : decode cX3_learn 16 = .ok (.if_icmp .ge 121, 3) := by decide +kernel
theorem dX3_learn_19 : decode cX3_learn 19 = .ok (.iconst 0, 1) := by decide +kernel
theorem dX3_learn_20 : decode cX3_learn 20 = .ok (.istore 4, 2) := by decide +kernel
theorem dX3_learn_22 : decode cX3_learn 22 = .ok (.iload 4, 2) := by decide +kernel
theorem dX3_learn_24 : decode cX3_learn 24 = .ok (.aload_n 0, 1) := by decide +kernel
theorem dX3_learn_25 : decode cX3_learn 25 = .ok (.getfield 34, 3) := by decide +kernel
theorem dX3_learn_28 : decode cX3_learn 28 = .ok (.getfield 52, 3) := by decide +kernel
theorem dX3_learn_31 : decode cX3_learn 31 = .ok (.if_icmp .ge 100, 3) := by decide +kernel
theorem dX3_learn_34 : decode cX3_learn 34 = .ok (.iload_n 3, 1) := by decide +kernel
theorem dX3_learn_35 : decode cX3_learn 35 = .ok (.iload 4, 2) := by decide +kernel
theorem dX3_learn_37 : decode cX3_learn 37 = .ok (.if_icmp .eq 88, 3) := by decide +kernel
theorem dX3_learn_40 : decode cX3_learn 40 = .ok (.iload_n 3, 1) := by decide +kernel
theorem dX3_learn_41 : decode cX3_learn 41 = .ok (.bipush 6, 2) := by decide +kernel
theorem dX3_learn_43 : decode cX3_learn 43 = .ok (.imul, 1) := by decide +kernel
theorem dX3_learn_44 : decode cX3_learn 44 = .ok (.iload 4, 2) := by decide +kernel
theorem dX3_learn_46 : decode cX3_learn 46 = .ok (.iadd, 1) := by decide +kernel
theorem dX3_learn_47 : decode cX3_learn 47 = .ok (.istore 5, 2) := by decide +kernel
theorem dX3_learn_49 : decode cX3_learn 49 = .ok (.aload_n 0, 1) := by decide +kernel
theorem dX3_learn_50 : decode cX3_learn 50 = .ok (.getfield 15, 3) := by decide +kernel
theorem dX3_learn_53 : decode cX3_learn 53 = .ok (.iload 5, 2) := by decide +kernel
theorem dX3_learn_55 : decode cX3_learn 55 = .ok (.aload_n 0, 1) := by decide +kernel
theorem dX3_learn_56 : decode cX3_learn 56 = .ok (.iload_n 3, 1) := by decide +kernel
theorem dX3_learn_57 : decode cX3_learn 57 = .ok (.iload 4, 2) := by decide +kernel
theorem dX3_learn_59 : decode cX3_learn 59 = .ok (.invokevirtual 58, 3) := by decide +kernel
theorem dX3_learn_62 : decode cX3_learn 62 = .ok (.iastore, 1) := by decide +kernel
theorem dX3_learn_63 : decode cX3_learn 63 = .ok (.aload_n 0, 1) := by decide +kernel
theorem dX3_learn_64 : decode cX3_learn 64 = .ok (.getfield 9, 3) := by decide +kernel
theorem dX3_learn_67 : decode cX3_learn 67 = .ok (.iload 5, 2) := by decide +kernel
theorem dX3_learn_69 : decode cX3_learn 69 = .ok (.aload_n 0, 1) := by decide +kernel
theorem dX3_learn_70 : decode cX3_learn 70 = .ok (.getfield 21, 3) := by decide +kernel
theorem dX3_learn_73 : decode cX3_learn 73 = .ok (.bipush 6, 2) := by decide +kernel
theorem dX3_learn_75 : decode cX3_learn 75 = .ok (.iaload, 1) := by decide +kernel
theorem dX3_learn_76 : decode cX3_learn 76 = .ok (.iastore, 1) := by decide +kernel
theorem dX3_learn_77 : decode cX3_learn 77 = .ok (.aload_n 0, 1) := by decide +kernel
theorem dX3_learn_78 : decode cX3_learn 78 = .ok (.getfield 34, 3) := by decide +kernel
theorem dX3_learn_81 : decode cX3_learn 81 = .ok (.iconst 1, 1) := by decide +kernel
theorem dX3_learn_82 : decode cX3_learn 82 = .ok (.invokevirtual 62, 3) := by decide +kernel
theorem dX3_learn_85 : decode cX3_learn 85 = .ok (.ifCond .eq 11, 3) := by decide +kernel
theorem dX3_learn_88 : decode cX3_learn 88 = .ok (.aload_n 0, 1) := by decide +kernel
theorem dX3_learn_89 : decode cX3_learn 89 = .ok (.iconst 1, 1) := by decide +kernel
theorem dX3_learn_90 : decode cX3_learn 90 = .ok (.invokevirtual 66, 3) := by decide +kernel
theorem dX3_learn_93 : decode cX3_learn 93 = .ok (.goto 12, 3) := by decide +kernel
theorem dX3_learn_96 : decode cX3_learn 96 = .ok (.aload_n 0, 1) := by decide +kernel
theorem dX3_learn_97 : decode cX3_learn 97 = .ok (.getfield 34, 3) := by decide +kernel
theorem dX3_learn_100 : decode cX3_learn 100 = .ok (.getfield 70, 3) := by decide +kernel
theorem dX3_learn_103 : decode cX3_learn 103 = .ok (.iload_n 3, 1) := by decide +kernel
theorem dX3_learn_104 : decode cX3_learn 104 = .ok (.iaload, 1) := by decide +kernel
theorem dX3_learn_105 : decode cX3_learn 105 = .ok (.istore 6, 2) := by decide +kernel
theorem dX3_learn_107 : decode cX3_learn 107 = .ok (.aload_n 0, 1) := by decide +kernel
theorem dX3_learn_108 : decode cX3_learn 108 = .ok (.getfield 18, 3) := by decide +kernel
theorem dX3_learn_111 : decode cX3_learn 111 = .ok (.iload 5, 2) := by decide +kernel
theorem dX3_learn_113 : decode cX3_learn 113 = .ok (.iconst 0, 1) := by decide +kernel
theorem dX3_learn_114 : decode cX3_learn 114 = .ok (.bipush 9, 2) := by decide +kernel
theorem dX3_learn_116 : decode cX3_learn 116 = .ok (.iload 6, 2) := by decide +kernel
theorem dX3_learn_118 : decode cX3_learn 118 = .ok (.invokestatic 73, 3) := by decide +kernel
theorem dX3_learn_121 : decode cX3_learn 121 = .ok (.invokestatic 78, 3) := by decide +kernel
theorem dX3_learn_124 : decode cX3_learn 124 = .ok (.iastore, 1) := by decide +kernel
theorem dX3_learn_125 : decode cX3_learn 125 = .ok (.iinc 4 1, 3) := by decide +kernel
theorem dX3_learn_128 : decode cX3_learn 128 = .ok (.goto (-106), 3) := by decide +kernel
theorem dX3_learn_131 : decode cX3_learn 131 = .ok (.iinc 3 1, 3) := by decide +kernel
theorem dX3_learn_134 : decode cX3_learn 134 = .ok (.goto (-126), 3) := by decide +kernel
theorem dX3_learn_137 : decode cX3_learn 137 = .ok (.return_, 1) := by decide +kernel
theorem dX3_gapOf_0 : decode cX3_gapOf 0 = .ok (.aload_n 0, 1) := by decide +kernel
theorem dX3_gapOf_1 : decode cX3_gapOf 1 = .ok (.iload_n 1, 1) := by decide +kernel
theorem dX3_gapOf_2 : decode cX3_gapOf 2 = .ok (.iload_n 2, 1) := by decide +kernel
theorem dX3_gapOf_3 : decode cX3_gapOf 3 = .ok (.invokevirtual 81, 3) := by decide +kernel
theorem dX3_gapOf_6 : decode cX3_gapOf 6 = .ok (.aload_n 0, 1) := by decide +kernel
theorem dX3_gapOf_7 : decode cX3_gapOf 7 = .ok (.getfield 34, 3) := by decide +kernel
theorem dX3_gapOf_10 : decode cX3_gapOf 10 = .ok (.iconst 0, 1) := by decide +kernel
theorem dX3_gapOf_11 : decode cX3_gapOf 11 = .ok (.invokevirtual 62, 3) := by decide +kernel
theorem dX3_gapOf_14 : decode cX3_gapOf 14 = .ok (.ifCond .eq 11, 3) := by decide +kernel
theorem dX3_gapOf_17 : decode cX3_gapOf 17 = .ok (.aload_n 0, 1) := by decide +kernel
theorem dX3_gapOf_18 : decode cX3_gapOf 18 = .ok (.iconst 0, 1) := by decide +kernel
theorem dX3_gapOf_19 : decode cX3_gapOf 19 = .ok (.invokevirtual 66, 3) := by decide +kernel
theorem dX3_gapOf_22 : decode cX3_gapOf 22 = .ok (.goto 12, 3) := by decide +kernel
theorem dX3_gapOf_25 : decode cX3_gapOf 25 = .ok (.aload_n 0, 1) := by decide +kernel
theorem dX3_gapOf_26 : decode cX3_gapOf 26 = .ok (.getfield 21, 3) := by decide +kernel
theorem dX3_gapOf_29 : decode cX3_gapOf 29 = .ok (.bipush 6, 2) := by decide +kernel
theorem dX3_gapOf_31 : decode cX3_gapOf 31 = .ok (.iaload, 1) := by decide +kernel
theorem dX3_gapOf_32 : decode cX3_gapOf 32 = .ok (.iconst 1, 1) := by decide +kernel
theorem dX3_gapOf_33 : decode cX3_gapOf 33 = .ok (.iadd, 1) := by decide +kernel
theorem dX3_gapOf_34 : decode cX3_gapOf 34 = .ok (.istore_n 3, 1) := by decide +kernel
theorem dX3_gapOf_35 : decode cX3_gapOf 35 = .ok (.iconst 1, 1) := by decide +kernel
theorem dX3_gapOf_36 : decode cX3_gapOf 36 = .ok (.bipush 20, 2) := by decide +kernel
theorem dX3_gapOf_38 : decode cX3_gapOf 38 = .ok (.iload_n 3, 1) := by decide +kernel
theorem dX3_gapOf_39 : decode cX3_gapOf 39 = .ok (.invokestatic 73, 3) := by decide +kernel
theorem dX3_gapOf_42 : decode cX3_gapOf 42 = .ok (.invokestatic 78, 3) := by decide +kernel
theorem dX3_gapOf_45 : decode cX3_gapOf 45 = .ok (.ireturn, 1) := by decide +kernel
theorem dX3_nameTwo_0 : decode cX3_nameTwo 0 = .ok (.aload_n 0, 1) := by decide +kernel
theorem dX3_nameTwo_1 : decode cX3_nameTwo 1 = .ok (.getfield 34, 3) := by decide +kernel
theorem dX3_nameTwo_4 : decode cX3_nameTwo 4 = .ok (.getfield 85, 3) := by decide +kernel
theorem dX3_nameTwo_7 : decode cX3_nameTwo 7 = .ok (.iconst 1, 1) := by decide +kernel
theorem dX3_nameTwo_8 : decode cX3_nameTwo 8 = .ok (.if_icmp .ge 7, 3) := by decide +kernel
theorem dX3_nameTwo_11 : decode cX3_nameTwo 11 = .ok (.iconst 1, 1) := by decide +kernel
theorem dX3_nameTwo_12 : decode cX3_nameTwo 12 = .ok (.goto 10, 3) := by decide +kernel
theorem dX3_nameTwo_15 : decode cX3_nameTwo 15 = .ok (.aload_n 0, 1) := by decide +kernel
theorem dX3_nameTwo_16 : decode cX3_nameTwo 16 = .ok (.getfield 34, 3) := by decide +kernel
theorem dX3_nameTwo_19 : decode cX3_nameTwo 19 = .ok (.getfield 85, 3) := by decide +kernel
theorem dX3_nameTwo_22 : decode cX3_nameTwo 22 = .ok (.istore_n 3, 1) := by decide +kernel
theorem dX3_nameTwo_23 : decode cX3_nameTwo 23 = .ok (.aload_n 0, 1) := by decide +kernel
theorem dX3_nameTwo_24 : decode cX3_nameTwo 24 = .ok (.getfield 38, 3) := by decide +kernel
theorem dX3_nameTwo_27 : decode cX3_nameTwo 27 = .ok (.getfield 88, 3) := by decide +kernel
theorem dX3_nameTwo_30 : decode cX3_nameTwo 30 = .ok (.iload_n 1, 1) := by decide +kernel
theorem dX3_nameTwo_31 : decode cX3_nameTwo 31 = .ok (.iaload, 1) := by decide +kernel
theorem dX3_nameTwo_32 : decode cX3_nameTwo 32 = .ok (.istore 4, 2) := by decide +kernel
theorem dX3_nameTwo_34 : decode cX3_nameTwo 34 = .ok (.aload_n 0, 1) := by decide +kernel
theorem dX3_nameTwo_35 : decode cX3_nameTwo 35 = .ok (.getfield 38, 3) := by decide +kernel
theorem dX3_nameTwo_38 : decode cX3_nameTwo 38 = .ok (.getfield 88, 3) := by decide +kernel
theorem dX3_nameTwo_41 : decode cX3_nameTwo 41 = .ok (.iload_n 2, 1) := by decide +kernel
theorem dX3_nameTwo_42 : decode cX3_nameTwo 42 = .ok (.iaload, 1) := by decide +kernel
theorem dX3_nameTwo_43 : decode cX3_nameTwo 43 = .ok (.istore 5, 2) := by decide +kernel
theorem dX3_nameTwo_45 : decode cX3_nameTwo 45 = .ok (.aload_n 0, 1) := by decide +kernel
theorem dX3_nameTwo_46 : decode cX3_nameTwo 46 = .ok (.getfield 21, 3) := by decide +kernel
theorem dX3_nameTwo_49 : decode cX3_nameTwo 49 = .ok (.iconst 0, 1) := by decide +kernel
theorem dX3_nameTwo_50 : decode cX3_nameTwo 50 = .ok (.aload_n 0, 1) := by decide +kernel
theorem dX3_nameTwo_51 : decode cX3_nameTwo 51 = .ok (.getfield 38, 3) := by decide +kernel
theorem dX3_nameTwo_54 : decode cX3_nameTwo 54 = .ok (.getfield 93, 3) := by decide +kernel
theorem dX3_nameTwo_57 : decode cX3_nameTwo 57 = .ok (.iastore, 1) := by decide +kernel
theorem dX3_nameTwo_58 : decode cX3_nameTwo 58 = .ok (.aload_n 0, 1) := by decide +kernel
theorem dX3_nameTwo_59 : decode cX3_nameTwo 59 = .ok (.getfield 21, 3) := by decide +kernel
theorem dX3_nameTwo_62 : decode cX3_nameTwo 62 = .ok (.iconst 1, 1) := by decide +kernel
theorem dX3_nameTwo_63 : decode cX3_nameTwo 63 = .ok (.aload_n 0, 1) := by decide +kernel
theorem dX3_nameTwo_64 : decode cX3_nameTwo 64 = .ok (.getfield 34, 3) := by decide +kernel
theorem dX3_nameTwo_67 : decode cX3_nameTwo 67 = .ok (.getfield 96, 3) := by decide +kernel
theorem dX3_nameTwo_70 : decode cX3_nameTwo 70 = .ok (.iload_n 1, 1) := by decide +kernel
theorem dX3_nameTwo_71 : decode cX3_nameTwo 71 = .ok (.iaload, 1) := by decide +kernel
theorem dX3_nameTwo_72 : decode cX3_nameTwo 72 = .ok (.iastore, 1) := by decide +kernel
theorem dX3_nameTwo_73 : decode cX3_nameTwo 73 = .ok (.aload_n 0, 1) := by decide +kernel
theorem dX3_nameTwo_74 : decode cX3_nameTwo 74 = .ok (.getfield 21, 3) := by decide +kernel
theorem dX3_nameTwo_77 : decode cX3_nameTwo 77 = .ok (.iconst 2, 1) := by decide +kernel
theorem dX3_nameTwo_78 : decode cX3_nameTwo 78 = .ok (.aload_n 0, 1) := by decide +kernel
theorem dX3_nameTwo_79 : decode cX3_nameTwo 79 = .ok (.getfield 34, 3) := by decide +kernel
theorem dX3_nameTwo_82 : decode cX3_nameTwo 82 = .ok (.getfield 99, 3) := by decide +kernel
theorem dX3_nameTwo_85 : decode cX3_nameTwo 85 = .ok (.iload_n 2, 1) := by decide +kernel
theorem dX3_nameTwo_86 : decode cX3_nameTwo 86 = .ok (.iaload, 1) := by decide +kernel
theorem dX3_nameTwo_87 : decode cX3_nameTwo 87 = .ok (.iastore, 1) := by decide +kernel
theorem dX3_nameTwo_88 : decode cX3_nameTwo 88 = .ok (.aload_n 0, 1) := by decide +kernel
theorem dX3_nameTwo_89 : decode cX3_nameTwo 89 = .ok (.getfield 21, 3) := by decide +kernel
theorem dX3_nameTwo_92 : decode cX3_nameTwo 92 = .ok (.iconst 3, 1) := by decide +kernel
theorem dX3_nameTwo_93 : decode cX3_nameTwo 93 = .ok (.aload_n 0, 1) := by decide +kernel
theorem dX3_nameTwo_94 : decode cX3_nameTwo 94 = .ok (.getfield 34, 3) := by decide +kernel
theorem dX3_nameTwo_97 : decode cX3_nameTwo 97 = .ok (.getfield 70, 3) := by decide +kernel
theorem dX3_nameTwo_100 : decode cX3_nameTwo 100 = .ok (.iload_n 1, 1) := by decide +kernel
theorem dX3_nameTwo_101 : decode cX3_nameTwo 101 = .ok (.iaload, 1) := by decide +kernel
theorem dX3_nameTwo_102 : decode cX3_nameTwo 102 = .ok (.iastore, 1) := by decide +kernel
theorem dX3_nameTwo_103 : decode cX3_nameTwo 103 = .ok (.aload_n 0, 1) := by decide +kernel
theorem dX3_nameTwo_104 : decode cX3_nameTwo 104 = .ok (.getfield 21, 3) := by decide +kernel
theorem dX3_nameTwo_107 : decode cX3_nameTwo 107 = .ok (.iconst 4, 1) := by decide +kernel
theorem dX3_nameTwo_108 : decode cX3_nameTwo 108 = .ok (.iload_n 1, 1) := by decide +kernel
theorem dX3_nameTwo_109 : decode cX3_nameTwo 109 = .ok (.iastore, 1) := by decide +kernel
theorem dX3_nameTwo_110 : decode cX3_nameTwo 110 = .ok (.aload_n 0, 1) := by decide +kernel
theorem dX3_nameTwo_111 : decode cX3_nameTwo 111 = .ok (.getfield 21, 3) := by decide +kernel
theorem dX3_nameTwo_114 : decode cX3_nameTwo 114 = .ok (.iconst 5, 1) := by decide +kernel
theorem dX3_nameTwo_115 : decode cX3_nameTwo 115 = .ok (.iload_n 2, 1) := by decide +kernel
theorem dX3_nameTwo_116 : decode cX3_nameTwo 116 = .ok (.iastore, 1) := by decide +kernel
theorem dX3_nameTwo_117 : decode cX3_nameTwo 117 = .ok (.aload_n 0, 1) := by decide +kernel
theorem dX3_nameTwo_118 : decode cX3_nameTwo 118 = .ok (.getfield 21, 3) := by decide +kernel
theorem dX3_nameTwo_121 : decode cX3_nameTwo 121 = .ok (.bipush 6, 2) := by decide +kernel
theorem dX3_nameTwo_123 : decode cX3_nameTwo 123 = .ok (.iload 4, 2) := by decide +kernel
theorem dX3_nameTwo_125 : decode cX3_nameTwo 125 = .ok (.iload_n 3, 1) := by decide +kernel
theorem dX3_nameTwo_126 : decode cX3_nameTwo 126 = .ok (.idiv, 1) := by decide +kernel
theorem dX3_nameTwo_127 : decode cX3_nameTwo 127 = .ok (.iload 5, 2) := by decide +kernel
theorem dX3_nameTwo_129 : decode cX3_nameTwo 129 = .ok (.iload_n 3, 1) := by decide +kernel
theorem dX3_nameTwo_130 : decode cX3_nameTwo 130 = .ok (.idiv, 1) := by decide +kernel
theorem dX3_nameTwo_131 : decode cX3_nameTwo 131 = .ok (.isub, 1) := by decide +kernel
theorem dX3_nameTwo_132 : decode cX3_nameTwo 132 = .ok (.invokestatic 102, 3) := by decide +kernel
theorem dX3_nameTwo_135 : decode cX3_nameTwo 135 = .ok (.iload 4, 2) := by decide +kernel
theorem dX3_nameTwo_137 : decode cX3_nameTwo 137 = .ok (.iload_n 3, 1) := by decide +kernel
theorem dX3_nameTwo_138 : decode cX3_nameTwo 138 = .ok (.irem, 1) := by decide +kernel
theorem dX3_nameTwo_139 : decode cX3_nameTwo 139 = .ok (.iload 5, 2) := by decide +kernel
theorem dX3_nameTwo_141 : decode cX3_nameTwo 141 = .ok (.iload_n 3, 1) := by decide +kernel
theorem dX3_nameTwo_142 : decode cX3_nameTwo 142 = .ok (.irem, 1) := by decide +kernel
theorem dX3_nameTwo_143 : decode cX3_nameTwo 143 = .ok (.isub, 1) := by decide +kernel
theorem dX3_nameTwo_144 : decode cX3_nameTwo 144 = .ok (.invokestatic 102, 3) := by decide +kernel
theorem dX3_nameTwo_147 : decode cX3_nameTwo 147 = .ok (.iadd, 1) := by decide +kernel
theorem dX3_nameTwo_148 : decode cX3_nameTwo 148 = .ok (.iastore, 1) := by decide +kernel
theorem dX3_nameTwo_149 : decode cX3_nameTwo 149 = .ok (.return_, 1) := by decide +kernel
theorem dX3_isAnswered_0 : decode cX3_isAnswered 0 = .ok (.aload_n 0, 1) := by decide +kernel
theorem dX3_isAnswered_1 : decode cX3_isAnswered 1 = .ok (.getfield 34, 3) := by decide +kernel
theorem dX3_isAnswered_4 : decode cX3_isAnswered 4 = .ok (.iconst 2, 1) := by decide +kernel
theorem dX3_isAnswered_5 : decode cX3_isAnswered 5 = .ok (.invokevirtual 62, 3) := by decide +kernel
theorem dX3_isAnswered_8 : decode cX3_isAnswered 8 = .ok (.ifCond .ne 5, 3) := by decide +kernel
theorem dX3_isAnswered_11 : decode cX3_isAnswered 11 = .ok (.iconst 0, 1) := by decide +kernel
theorem dX3_isAnswered_12 : decode cX3_isAnswered 12 = .ok (.ireturn, 1) := by decide +kernel
theorem dX3_isAnswered_13 : decode cX3_isAnswered 13 = .ok (.iconst 2, 1) := by decide +kernel
theorem dX3_isAnswered_14 : decode cX3_isAnswered 14 = .ok (.iload_n 1, 1) := by decide +kernel
theorem dX3_isAnswered_15 : decode cX3_isAnswered 15 = .ok (.imul, 1) := by decide +kernel
theorem dX3_isAnswered_16 : decode cX3_isAnswered 16 = .ok (.iload_n 2, 1) := by decide +kernel
theorem dX3_isAnswered_17 : decode cX3_isAnswered 17 = .ok (.bipush 6, 2) := by decide +kernel
theorem dX3_isAnswered_19 : decode cX3_isAnswered 19 = .ok (.ishr, 1) := by decide +kernel
theorem dX3_isAnswered_20 : decode cX3_isAnswered 20 = .ok (.iadd, 1) := by decide +kernel
theorem dX3_isAnswered_21 : decode cX3_isAnswered 21 = .ok (.istore_n 3, 1) := by decide +kernel
theorem dX3_isAnswered_22 : decode cX3_isAnswered 22 = .ok (.lconst 1, 1) := by decide +kernel
theorem dX3_isAnswered_23 : decode cX3_isAnswered 23 = .ok (.iload_n 2, 1) := by decide +kernel
theorem dX3_isAnswered_24 : decode cX3_isAnswered 24 = .ok (.bipush 63, 2) := by decide +kernel
theorem dX3_isAnswered_26 : decode cX3_isAnswered 26 = .ok (.iand, 1) := by decide +kernel
theorem dX3_isAnswered_27 : decode cX3_isAnswered 27 = .ok (.lshl, 1) := by decide +kernel
theorem dX3_isAnswered_28 : decode cX3_isAnswered 28 = .ok (.lstore 4, 2) := by decide +kernel
theorem dX3_isAnswered_30 : decode cX3_isAnswered 30 = .ok (.aload_n 0, 1) := by decide +kernel
theorem dX3_isAnswered_31 : decode cX3_isAnswered 31 = .ok (.getfield 27, 3) := by decide +kernel
theorem dX3_isAnswered_34 : decode cX3_isAnswered 34 = .ok (.iload_n 3, 1) := by decide +kernel
theorem dX3_isAnswered_35 : decode cX3_isAnswered 35 = .ok (.laload, 1) := by decide +kernel
theorem dX3_isAnswered_36 : decode cX3_isAnswered 36 = .ok (.lload 4, 2) := by decide +kernel
theorem dX3_isAnswered_38 : decode cX3_isAnswered 38 = .ok (.land, 1) := by decide +kernel
theorem dX3_isAnswered_39 : decode cX3_isAnswered 39 = .ok (.lconst 0, 1) := by decide +kernel
theorem dX3_isAnswered_40 : decode cX3_isAnswered 40 = .ok (.lcmp, 1) := by decide +kernel
theorem dX3_isAnswered_41 : decode cX3_isAnswered 41 = .ok (.ifCond .ne 70, 3) := by decide +kernel
theorem dX3_isAnswered_44 : decode cX3_isAnswered 44 = .ok (.aload_n 0, 1) := by decide +kernel
theorem dX3_isAnswered_45 : decode cX3_isAnswered 45 = .ok (.iload_n 1, 1) := by decide +kernel
theorem dX3_isAnswered_46 : decode cX3_isAnswered 46 = .ok (.bipush 6, 2) := by decide +kernel
theorem dX3_isAnswered_48 : decode cX3_isAnswered 48 = .ok (.idiv, 1) := by decide +kernel
theorem dX3_isAnswered_49 : decode cX3_isAnswered 49 = .ok (.iload_n 1, 1) := by decide +kernel
theorem dX3_isAnswered_50 : decode cX3_isAnswered 50 = .ok (.bipush 6, 2) := by decide +kernel
theorem dX3_isAnswered_52 : decode cX3_isAnswered 52 = .ok (.irem, 1) := by decide +kernel
theorem dX3_isAnswered_53 : decode cX3_isAnswered 53 = .ok (.invokevirtual 81, 3) := by decide +kernel
theorem dX3_isAnswered_56 : decode cX3_isAnswered 56 = .ok (.aload_n 0, 1) := by decide +kernel
theorem dX3_isAnswered_57 : decode cX3_isAnswered 57 = .ok (.getfield 21, 3) := by decide +kernel
theorem dX3_isAnswered_60 : decode cX3_isAnswered 60 = .ok (.bipush 7, 2) := by decide +kernel
theorem dX3_isAnswered_62 : decode cX3_isAnswered 62 = .ok (.aload_n 0, 1) := by decide +kernel
theorem dX3_isAnswered_63 : decode cX3_isAnswered 63 = .ok (.getfield 15, 3) := by decide +kernel
theorem dX3_isAnswered_66 : decode cX3_isAnswered 66 = .ok (.iload_n 1, 1) := by decide +kernel
theorem dX3_isAnswered_67 : decode cX3_isAnswered 67 = .ok (.iaload, 1) := by decide +kernel
theorem dX3_isAnswered_68 : decode cX3_isAnswered 68 = .ok (.iastore, 1) := by decide +kernel
theorem dX3_isAnswered_69 : decode cX3_isAnswered 69 = .ok (.aload_n 0, 1) := by decide +kernel
theorem dX3_isAnswered_70 : decode cX3_isAnswered 70 = .ok (.getfield 21, 3) := by decide +kernel
theorem dX3_isAnswered_73 : decode cX3_isAnswered 73 = .ok (.bipush 8, 2) := by decide +kernel
theorem dX3_isAnswered_75 : decode cX3_isAnswered 75 = .ok (.iload_n 2, 1) := by decide +kernel
theorem dX3_isAnswered_76 : decode cX3_isAnswered 76 = .ok (.iastore, 1) := by decide +kernel
theorem dX3_isAnswered_77 : decode cX3_isAnswered 77 = .ok (.aload_n 0, 1) := by decide +kernel
theorem dX3_isAnswered_78 : decode cX3_isAnswered 78 = .ok (.getfield 27, 3) := by decide +kernel
theorem dX3_isAnswered_81 : decode cX3_isAnswered 81 = .ok (.iload_n 3, 1) := by decide +kernel
theorem dX3_isAnswered_82 : decode cX3_isAnswered 82 = .ok (.dup2, 1) := by decide +kernel
theorem dX3_isAnswered_83 : decode cX3_isAnswered 83 = .ok (.laload, 1) := by decide +kernel
theorem dX3_isAnswered_84 : decode cX3_isAnswered 84 = .ok (.lload 4, 2) := by decide +kernel
theorem dX3_isAnswered_86 : decode cX3_isAnswered 86 = .ok (.lor, 1) := by decide +kernel
theorem dX3_isAnswered_87 : decode cX3_isAnswered 87 = .ok (.lastore, 1) := by decide +kernel
theorem dX3_isAnswered_88 : decode cX3_isAnswered 88 = .ok (.aload_n 0, 1) := by decide +kernel
theorem dX3_isAnswered_89 : decode cX3_isAnswered 89 = .ok (.getfield 31, 3) := by decide +kernel
theorem dX3_isAnswered_92 : decode cX3_isAnswered 92 = .ok (.iload_n 3, 1) := by decide +kernel
theorem dX3_isAnswered_93 : decode cX3_isAnswered 93 = .ok (.dup2, 1) := by decide +kernel
theorem dX3_isAnswered_94 : decode cX3_isAnswered 94 = .ok (.laload, 1) := by decide +kernel
theorem dX3_isAnswered_95 : decode cX3_isAnswered 95 = .ok (.aload_n 0, 1) := by decide +kernel
theorem dX3_isAnswered_96 : decode cX3_isAnswered 96 = .ok (.iconst 2, 1) := by decide +kernel
theorem dX3_isAnswered_97 : decode cX3_isAnswered 97 = .ok (.invokevirtual 66, 3) := by decide +kernel
theorem dX3_isAnswered_100 : decode cX3_isAnswered 100 = .ok (.ifCond .eq 8, 3) := by decide +kernel
theorem dX3_isAnswered_103 : decode cX3_isAnswered 103 = .ok (.lload 4, 2) := by decide +kernel
theorem dX3_isAnswered_105 : decode cX3_isAnswered 105 = .ok (.goto 4, 3) := by decide +kernel
theorem dX3_isAnswered_108 : decode cX3_isAnswered 108 = .ok (.lconst 0, 1) := by decide +kernel
theorem dX3_isAnswered_109 : decode cX3_isAnswered 109 = .ok (.lor, 1) := by decide +kernel
theorem dX3_isAnswered_110 : decode cX3_isAnswered 110 = .ok (.lastore, 1) := by decide +kernel
theorem dX3_isAnswered_111 : decode cX3_isAnswered 111 = .ok (.aload_n 0, 1) := by decide +kernel
theorem dX3_isAnswered_112 : decode cX3_isAnswered 112 = .ok (.getfield 31, 3) := by decide +kernel
theorem dX3_isAnswered_115 : decode cX3_isAnswered 115 = .ok (.iload_n 3, 1) := by decide +kernel
theorem dX3_isAnswered_116 : decode cX3_isAnswered 116 = .ok (.laload, 1) := by decide +kernel
theorem dX3_isAnswered_117 : decode cX3_isAnswered 117 = .ok (.lload 4, 2) := by decide +kernel
theorem dX3_isAnswered_119 : decode cX3_isAnswered 119 = .ok (.land, 1) := by decide +kernel
theorem dX3_isAnswered_120 : decode cX3_isAnswered 120 = .ok (.lconst 0, 1) := by decide +kernel
theorem dX3_isAnswered_121 : decode cX3_isAnswered 121 = .ok (.lcmp, 1) := by decide +kernel
theorem dX3_isAnswered_122 : decode cX3_isAnswered 122 = .ok (.ifCond .eq 7, 3) := by decide +kernel
theorem dX3_isAnswered_125 : decode cX3_isAnswered 125 = .ok (.iconst 1, 1) := by decide +kernel
theorem dX3_isAnswered_126 : decode cX3_isAnswered 126 = .ok (.goto 4, 3) := by decide +kernel
theorem dX3_isAnswered_129 : decode cX3_isAnswered 129 = .ok (.iconst 0, 1) := by decide +kernel
theorem dX3_isAnswered_130 : decode cX3_isAnswered 130 = .ok (.ireturn, 1) := by decide +kernel
theorem dX3_work_0 : decode cX3_work 0 = .ok (.iconst 0, 1) := by decide +kernel
theorem dX3_work_1 : decode cX3_work 1 = .ok (.istore_n 2, 1) := by decide +kernel
theorem dX3_work_2 : decode cX3_work 2 = .ok (.aload_n 0, 1) := by decide +kernel
theorem dX3_work_3 : decode cX3_work 3 = .ok (.getfield 34, 3) := by decide +kernel
theorem dX3_work_6 : decode cX3_work 6 = .ok (.getfield 105, 3) := by decide +kernel
theorem dX3_work_9 : decode cX3_work 9 = .ok (.iload_n 1, 1) := by decide +kernel
theorem dX3_work_10 : decode cX3_work 10 = .ok (.iaload, 1) := by decide +kernel
theorem dX3_work_11 : decode cX3_work 11 = .ok (.istore_n 3, 1) := by decide +kernel
theorem dX3_work_12 : decode cX3_work 12 = .ok (.iload_n 3, 1) := by decide +kernel
theorem dX3_work_13 : decode cX3_work 13 = .ok (.aload_n 0, 1) := by decide +kernel
theorem dX3_work_14 : decode cX3_work 14 = .ok (.getfield 34, 3) := by decide +kernel
theorem dX3_work_17 : decode cX3_work 17 = .ok (.getfield 108, 3) := by decide +kernel
theorem dX3_work_20 : decode cX3_work 20 = .ok (.iload_n 1, 1) := by decide +kernel
theorem dX3_work_21 : decode cX3_work 21 = .ok (.iaload, 1) := by decide +kernel
theorem dX3_work_22 : decode cX3_work 22 = .ok (.if_icmp .ge 490, 3) := by decide +kernel
theorem dX3_work_25 : decode cX3_work 25 = .ok (.aload_n 0, 1) := by decide +kernel
theorem dX3_work_26 : decode cX3_work 26 = .ok (.getfield 34, 3) := by decide +kernel
theorem dX3_work_29 : decode cX3_work 29 = .ok (.getfield 111, 3) := by decide +kernel
theorem dX3_work_32 : decode cX3_work 32 = .ok (.iload_n 3, 1) := by decide +kernel
theorem dX3_work_33 : decode cX3_work 33 = .ok (.iaload, 1) := by decide +kernel
theorem dX3_work_34 : decode cX3_work 34 = .ok (.istore 4, 2) := by decide +kernel
theorem dX3_work_36 : decode cX3_work 36 = .ok (.iload 4, 2) := by decide +kernel
theorem dX3_work_38 : decode cX3_work 38 = .ok (.sipush 1000, 3) := by decide +kernel
theorem dX3_work_41 : decode cX3_work 41 = .ok (.isub, 1) := by decide +kernel
theorem dX3_work_42 : decode cX3_work 42 = .ok (.istore 5, 2) := by decide +kernel
theorem dX3_work_44 : decode cX3_work 44 = .ok (.iload 5, 2) := by decide +kernel
theorem dX3_work_46 : decode cX3_work 46 = .ok (.bipush 15, 2) := by decide +kernel
theorem dX3_work_48 : decode cX3_work 48 = .ok (.if_icmp .lt 14, 3) := by decide +kernel
theorem dX3_work_51 : decode cX3_work 51 = .ok (.iload 5, 2) := by decide +kernel
theorem dX3_work_53 : decode cX3_work 53 = .ok (.bipush 23, 2) := by decide +kernel
theorem dX3_work_55 : decode cX3_work 55 = .ok (.if_icmp .gt 7, 3) := by decide +kernel
theorem dX3_work_58 : decode cX3_work 58 = .ok (.iconst 1, 1) := by decide +kernel
theorem dX3_work_59 : decode cX3_work 59 = .ok (.goto 4, 3) := by decide +kernel
theorem dX3_work_62 : decode cX3_work 62 = .ok (.iconst 0, 1) := by decide +kernel
theorem dX3_work_63 : decode cX3_work 63 = .ok (.istore 6, 2) := by decide +kernel
theorem dX3_work_65 : decode cX3_work 65 = .ok (.iload 5, 2) := by decide +kernel
theorem dX3_work_67 : decode cX3_work 67 = .ok (.ifCond .lt 8, 3) := by decide +kernel
theorem dX3_work_70 : decode cX3_work 70 = .ok (.iload 6, 2) := by decide +kernel
theorem dX3_work_72 : decode cX3_work 72 = .ok (.ifCond .eq 7, 3) := by decide +kernel
theorem dX3_work_75 : decode cX3_work 75 = .ok (.iconst 0, 1) := by decide +kernel
theorem dX3_work_76 : decode cX3_work 76 = .ok (.goto 26, 3) := by decide +kernel
theorem dX3_work_79 : decode cX3_work 79 = .ok (.iload 5, 2) := by decide +kernel
theorem dX3_work_81 : decode cX3_work 81 = .ok (.bipush 14, 2) := by decide +kernel
theorem dX3_work_83 : decode cX3_work 83 = .ok (.if_icmp .ne 7, 3) := by decide +kernel
theorem dX3_work_86 : decode cX3_work 86 = .ok (.iconst 1, 1) := by decide +kernel
theorem dX3_work_87 : decode cX3_work 87 = .ok (.goto 15, 3) := by decide +kernel
theorem dX3_work_90 : decode cX3_work 90 = .ok (.iload 5, 2) := by decide +kernel
theorem dX3_work_92 : decode cX3_work 92 = .ok (.bipush 8, 2) := by decide +kernel
theorem dX3_work_94 : decode cX3_work 94 = .ok (.if_icmp .ne 7, 3) := by decide +kernel
theorem dX3_work_97 : decode cX3_work 97 = .ok (.iconst 3, 1) := by decide +kernel
theorem dX3_work_98 : decode cX3_work 98 = .ok (.goto 4, 3) := by decide +kernel
theorem dX3_work_101 : decode cX3_work 101 = .ok (.iconst 2, 1) := by decide +kernel
theorem dX3_work_102 : decode cX3_work 102 = .ok (.istore 7, 2) := by decide +kernel
theorem dX3_work_104 : decode cX3_work 104 = .ok (.iload_n 2, 1) := by decide +kernel
theorem dX3_work_105 : decode cX3_work 105 = .ok (.iload 7, 2) := by decide +kernel
theorem dX3_work_107 : decode cX3_work 107 = .ok (.if_icmp .lt 12, 3) := by decide +kernel
theorem dX3_work_110 : decode cX3_work 110 = .ok (.iload_n 2, 1) := by decide +kernel
theorem dX3_work_111 : decode cX3_work 111 = .ok (.iload 7, 2) := by decide +kernel
theorem dX3_work_113 : decode cX3_work 113 = .ok (.isub, 1) := by decide +kernel
theorem dX3_work_114 : decode cX3_work 114 = .ok (.bipush 64, 2) := by decide +kernel
theorem dX3_work_116 : decode cX3_work 116 = .ok (.if_icmp .lt 5, 3) := by decide +kernel
theorem dX3_work_119 : decode cX3_work 119 = .ok (.iconst 0, 1) := by decide +kernel
theorem dX3_work_120 : decode cX3_work 120 = .ok (.ireturn, 1) := by decide +kernel
theorem dX3_work_121 : decode cX3_work 121 = .ok (.iload_n 2, 1) := by decide +kernel
theorem dX3_work_122 : decode cX3_work 122 = .ok (.iload 7, 2) := by decide +kernel
theorem dX3_work_124 : decode cX3_work 124 = .ok (.isub, 1) := by decide +kernel
theorem dX3_work_125 : decode cX3_work 125 = .ok (.istore_n 2, 1) := by decide +kernel
theorem dX3_work_126 : decode cX3_work 126 = .ok (.iload 7, 2) := by decide +kernel
theorem dX3_work_128 : decode cX3_work 128 = .ok (.ifCond .le 12, 3) := by decide +kernel
theorem dX3_work_131 : decode cX3_work 131 = .ok (.aload_n 0, 1) := by decide +kernel
theorem dX3_work_132 : decode cX3_work 132 = .ok (.getfield 24, 3) := by decide +kernel
theorem dX3_work_135 : decode cX3_work 135 = .ok (.iload_n 2, 1) := by decide +kernel
theorem dX3_work_136 : decode cX3_work 136 = .ok (.iaload, 1) := by decide +kernel
theorem dX3_work_137 : decode cX3_work 137 = .ok (.goto 4, 3) := by decide +kernel
theorem dX3_work_140 : decode cX3_work 140 = .ok (.iconst 0, 1) := by decide +kernel
theorem dX3_work_141 : decode cX3_work 141 = .ok (.istore 8, 2) := by decide +kernel
theorem dX3_work_143 : decode cX3_work 143 = .ok (.iload 7, 2) := by decide +kernel
theorem dX3_work_145 : decode cX3_work 145 = .ok (.iconst 1, 1) := by decide +kernel
theorem dX3_work_146 : decode cX3_work 146 = .ok (.if_icmp .le 14, 3) := by decide +kernel
theorem dX3_work_149 : decode cX3_work 149 = .ok (.aload_n 0, 1) := by decide +kernel
theorem dX3_work_150 : decode cX3_work 150 = .ok (.getfield 24, 3) := by decide +kernel
theorem dX3_work_153 : decode cX3_work 153 = .ok (.iload_n 2, 1) := by decide +kernel
theorem dX3_work_154 : decode cX3_work 154 = .ok (.iconst 1, 1) := by decide +kernel
theorem dX3_work_155 : decode cX3_work 155 = .ok (.iadd, 1) := by decide +kernel
theorem dX3_work_156 : decode cX3_work 156 = .ok (.iaload, 1) := by decide +kernel
theorem dX3_work_157 : decode cX3_work 157 = .ok (.goto 4, 3) := by decide +kernel
theorem dX3_work_160 : decode cX3_work 160 = .ok (.iconst 0, 1) := by decide +kernel
theorem dX3_work_161 : decode cX3_work 161 = .ok (.istore 9, 2) := by decide +kernel
theorem dX3_work_163 : decode cX3_work 163 = .ok (.iload 5, 2) := by decide +kernel
theorem dX3_work_165 : decode cX3_work 165 = .ok (.tableswitch 293 8 41 #[161, 293, 293, 293, 186, 197, 151, 293, 293, 293, 293, 293, 293, 293, 293, 293, 293, 293, 293, 293, 293, 293, 293, 293, 259, 270, 281, 293, 293, 293, 293, 208, 225, 242], 151) := by decide +kernel
theorem dX3_work_316 : decode cX3_work 316 = .ok (.iconst 1, 1) := by decide +kernel
theorem dX3_work_317 : decode cX3_work 317 = .ok (.iload 8, 2) := by decide +kernel
theorem dX3_work_319 : decode cX3_work 319 = .ok (.isub, 1) := by decide +kernel
theorem dX3_work_320 : decode cX3_work 320 = .ok (.i2l, 1) := by decide +kernel
theorem dX3_work_321 : decode cX3_work 321 = .ok (.lstore 10, 2) := by decide +kernel
theorem dX3_work_323 : decode cX3_work 323 = .ok (.goto 159, 3) := by decide +kernel
theorem dX3_work_326 : decode cX3_work 326 = .ok (.iload 8, 2) := by decide +kernel
theorem dX3_work_328 : decode cX3_work 328 = .ok (.ifCond .eq 9, 3) := by decide +kernel
theorem dX3_work_331 : decode cX3_work 331 = .ok (.iload 9, 2) := by decide +kernel
theorem dX3_work_333 : decode cX3_work 333 = .ok (.i2l, 1) := by decide +kernel
theorem dX3_work_334 : decode cX3_work 334 = .ok (.goto 12, 3) := by decide +kernel
theorem dX3_work_337 : decode cX3_work 337 = .ok (.aload_n 0, 1) := by decide +kernel
theorem dX3_work_338 : decode cX3_work 338 = .ok (.getfield 24, 3) := by decide +kernel
theorem dX3_work_341 : decode cX3_work 341 = .ok (.iload_n 2, 1) := by decide +kernel
theorem dX3_work_342 : decode cX3_work 342 = .ok (.iconst 2, 1) := by decide +kernel
theorem dX3_work_343 : decode cX3_work 343 = .ok (.iadd, 1) := by decide +kernel
theorem dX3_work_344 : decode cX3_work 344 = .ok (.iaload, 1) := by decide +kernel
theorem dX3_work_345 : decode cX3_work 345 = .ok (.i2l, 1) := by decide +kernel
theorem dX3_work_346 : decode cX3_work 346 = .ok (.lstore 10, 2) := by decide +kernel
theorem dX3_work_348 : decode cX3_work 348 = .ok (.goto 134, 3) := by decide +kernel
theorem dX3_work_351 : decode cX3_work 351 = .ok (.iload 8, 2) := by decide +kernel
theorem dX3_work_353 : decode cX3_work 353 = .ok (.iload 9, 2) := by decide +kernel
theorem dX3_work_355 : decode cX3_work 355 = .ok (.iand, 1) := by decide +kernel
theorem dX3_work_356 : decode cX3_work 356 = .ok (.i2l, 1) := by decide +kernel
theorem dX3_work_357 : decode cX3_work 357 = .ok (.lstore 10, 2) := by decide +kernel
theorem dX3_work_359 : decode cX3_work 359 = .ok (.goto 123, 3) := by decide +kernel
theorem dX3_work_362 : decode cX3_work 362 = .ok (.iload 8, 2) := by decide +kernel
theorem dX3_work_364 : decode cX3_work 364 = .ok (.iload 9, 2) := by decide +kernel
theorem dX3_work_366 : decode cX3_work 366 = .ok (.ior, 1) := by decide +kernel
theorem dX3_work_367 : decode cX3_work 367 = .ok (.i2l, 1) := by decide +kernel
theorem dX3_work_368 : decode cX3_work 368 = .ok (.lstore 10, 2) := by decide +kernel
theorem dX3_work_370 : decode cX3_work 370 = .ok (.goto 112, 3) := by decide +kernel
theorem dX3_work_373 : decode cX3_work 373 = .ok (.iload 8, 2) := by decide +kernel
theorem dX3_work_375 : decode cX3_work 375 = .ok (.iload 9, 2) := by decide +kernel
theorem dX3_work_377 : decode cX3_work 377 = .ok (.if_icmp .ne 7, 3) := by decide +kernel
theorem dX3_work_380 : decode cX3_work 380 = .ok (.lconst 1, 1) := by decide +kernel
theorem dX3_work_381 : decode cX3_work 381 = .ok (.goto 4, 3) := by decide +kernel
theorem dX3_work_384 : decode cX3_work 384 = .ok (.lconst 0, 1) := by decide +kernel
theorem dX3_work_385 : decode cX3_work 385 = .ok (.lstore 10, 2) := by decide +kernel
theorem dX3_work_387 : decode cX3_work 387 = .ok (.goto 95, 3) := by decide +kernel
theorem dX3_work_390 : decode cX3_work 390 = .ok (.iload 8, 2) := by decide +kernel
theorem dX3_work_392 : decode cX3_work 392 = .ok (.iload 9, 2) := by decide +kernel
theorem dX3_work_394 : decode cX3_work 394 = .ok (.if_icmp .ge 7, 3) := by decide +kernel
theorem dX3_work_397 : decode cX3_work 397 = .ok (.lconst 1, 1) := by decide +kernel
theorem dX3_work_398 : decode cX3_work 398 = .ok (.goto 4, 3) := by decide +kernel
theorem dX3_work_401 : decode cX3_work 401 = .ok (.lconst 0, 1) := by decide +kernel
theorem dX3_work_402 : decode cX3_work 402 = .ok (.lstore 10, 2) := by decide +kernel
theorem dX3_work_404 : decode cX3_work 404 = .ok (.goto 78, 3) := by decide +kernel
theorem dX3_work_407 : decode cX3_work 407 = .ok (.iload 8, 2) := by decide +kernel
theorem dX3_work_409 : decode cX3_work 409 = .ok (.iload 9, 2) := by decide +kernel
theorem dX3_work_411 : decode cX3_work 411 = .ok (.if_icmp .le 7, 3) := by decide +kernel
theorem dX3_work_414 : decode cX3_work 414 = .ok (.lconst 1, 1) := by decide +kernel
theorem dX3_work_415 : decode cX3_work 415 = .ok (.goto 4, 3) := by decide +kernel
theorem dX3_work_418 : decode cX3_work 418 = .ok (.lconst 0, 1) := by decide +kernel
theorem dX3_work_419 : decode cX3_work 419 = .ok (.lstore 10, 2) := by decide +kernel
theorem dX3_work_421 : decode cX3_work 421 = .ok (.goto 61, 3) := by decide +kernel
theorem dX3_work_424 : decode cX3_work 424 = .ok (.iload 8, 2) := by decide +kernel
theorem dX3_work_426 : decode cX3_work 426 = .ok (.iload 9, 2) := by decide +kernel
theorem dX3_work_428 : decode cX3_work 428 = .ok (.iadd, 1) := by decide +kernel
theorem dX3_work_429 : decode cX3_work 429 = .ok (.i2l, 1) := by decide +kernel
theorem dX3_work_430 : decode cX3_work 430 = .ok (.lstore 10, 2) := by decide +kernel
theorem dX3_work_432 : decode cX3_work 432 = .ok (.goto 50, 3) := by decide +kernel
theorem dX3_work_435 : decode cX3_work 435 = .ok (.iload 8, 2) := by decide +kernel
theorem dX3_work_437 : decode cX3_work 437 = .ok (.iload 9, 2) := by decide +kernel
theorem dX3_work_439 : decode cX3_work 439 = .ok (.isub, 1) := by decide +kernel
theorem dX3_work_440 : decode cX3_work 440 = .ok (.i2l, 1) := by decide +kernel
theorem dX3_work_441 : decode cX3_work 441 = .ok (.lstore 10, 2) := by decide +kernel
theorem dX3_work_443 : decode cX3_work 443 = .ok (.goto 39, 3) := by decide +kernel
theorem dX3_work_446 : decode cX3_work 446 = .ok (.iload 8, 2) := by decide +kernel
theorem dX3_work_448 : decode cX3_work 448 = .ok (.i2l, 1) := by decide +kernel
theorem dX3_work_449 : decode cX3_work 449 = .ok (.iload 9, 2) := by decide +kernel
theorem dX3_work_451 : decode cX3_work 451 = .ok (.i2l, 1) := by decide +kernel
theorem dX3_work_452 : decode cX3_work 452 = .ok (.lmul, 1) := by decide +kernel
theorem dX3_work_453 : decode cX3_work 453 = .ok (.lstore 10, 2) := by decide +kernel
theorem dX3_work_455 : decode cX3_work 455 = .ok (.goto 27, 3) := by decide +kernel
theorem dX3_work_458 : decode cX3_work 458 = .ok (.iload 6, 2) := by decide +kernel
theorem dX3_work_460 : decode cX3_work 460 = .ok (.ifCond .eq 17, 3) := by decide +kernel
theorem dX3_work_463 : decode cX3_work 463 = .ok (.aload_n 0, 1) := by decide +kernel
theorem dX3_work_464 : decode cX3_work 464 = .ok (.getfield 21, 3) := by decide +kernel
theorem dX3_work_467 : decode cX3_work 467 = .ok (.iload 5, 2) := by decide +kernel
theorem dX3_work_469 : decode cX3_work 469 = .ok (.bipush 15, 2) := by decide +kernel
theorem dX3_work_471 : decode cX3_work 471 = .ok (.isub, 1) := by decide +kernel
theorem dX3_work_472 : decode cX3_work 472 = .ok (.iaload, 1) := by decide +kernel
theorem dX3_work_473 : decode cX3_work 473 = .ok (.i2l, 1) := by decide +kernel
theorem dX3_work_474 : decode cX3_work 474 = .ok (.goto 6, 3) := by decide +kernel
theorem dX3_work_477 : decode cX3_work 477 = .ok (.iload 4, 2) := by decide +kernel
theorem dX3_work_479 : decode cX3_work 479 = .ok (.i2l, 1) := by decide +kernel
theorem dX3_work_480 : decode cX3_work 480 = .ok (.lstore 10, 2) := by decide +kernel
theorem dX3_work_482 : decode cX3_work 482 = .ok (.aload_n 0, 1) := by decide +kernel
theorem dX3_work_483 : decode cX3_work 483 = .ok (.getfield 24, 3) := by decide +kernel
theorem dX3_work_486 : decode cX3_work 486 = .ok (.iload_n 2, 1) := by decide +kernel
theorem dX3_work_487 : decode cX3_work 487 = .ok (.ldc2_w 114, 3) := by decide +kernel
theorem dX3_work_490 : decode cX3_work 490 = .ok (.ldc2_w 116, 3) := by decide +kernel
theorem dX3_work_493 : decode cX3_work 493 = .ok (.lload 10, 2) := by decide +kernel
theorem dX3_work_495 : decode cX3_work 495 = .ok (.invokestatic 118, 3) := by decide +kernel
theorem dX3_work_498 : decode cX3_work 498 = .ok (.invokestatic 121, 3) := by decide +kernel
theorem dX3_work_501 : decode cX3_work 501 = .ok (.l2i, 1) := by decide +kernel
theorem dX3_work_502 : decode cX3_work 502 = .ok (.iastore, 1) := by decide +kernel
theorem dX3_work_503 : decode cX3_work 503 = .ok (.iinc 2 1, 3) := by decide +kernel
theorem dX3_work_506 : decode cX3_work 506 = .ok (.iinc 3 1, 3) := by decide +kernel
theorem dX3_work_509 : decode cX3_work 509 = .ok (.goto (-497), 3) := by decide +kernel
theorem dX3_work_512 : decode cX3_work 512 = .ok (.iload_n 2, 1) := by decide +kernel
theorem dX3_work_513 : decode cX3_work 513 = .ok (.ifCond .le 14, 3) := by decide +kernel
theorem dX3_work_516 : decode cX3_work 516 = .ok (.aload_n 0, 1) := by decide +kernel
theorem dX3_work_517 : decode cX3_work 517 = .ok (.getfield 24, 3) := by decide +kernel
theorem dX3_work_520 : decode cX3_work 520 = .ok (.iload_n 2, 1) := by decide +kernel
theorem dX3_work_521 : decode cX3_work 521 = .ok (.iconst 1, 1) := by decide +kernel
theorem dX3_work_522 : decode cX3_work 522 = .ok (.isub, 1) := by decide +kernel
theorem dX3_work_523 : decode cX3_work 523 = .ok (.iaload, 1) := by decide +kernel
theorem dX3_work_524 : decode cX3_work 524 = .ok (.goto 4, 3) := by decide +kernel
theorem dX3_work_527 : decode cX3_work 527 = .ok (.iconst 0, 1) := by decide +kernel
theorem dX3_work_528 : decode cX3_work 528 = .ok (.ireturn, 1) := by decide +kernel
theorem dX4_init_0 : decode cX4_init 0 = .ok (.aload_n 0, 1) := by decide +kernel
theorem dX4_init_1 : decode cX4_init 1 = .ok (.invokespecial 3, 3) := by decide +kernel
theorem dX4_init_4 : decode cX4_init 4 = .ok (.aload_n 0, 1) := by decide +kernel
theorem dX4_init_5 : decode cX4_init 5 = .ok (.bipush 6, 2) := by decide +kernel
theorem dX4_init_7 : decode cX4_init 7 = .ok (.newarray .long, 2) := by decide +kernel
theorem dX4_init_9 : decode cX4_init 9 = .ok (.putfield 9, 3) := by decide +kernel
theorem dX4_init_12 : decode cX4_init 12 = .ok (.aload_n 0, 1) := by decide +kernel
theorem dX4_init_13 : decode cX4_init 13 = .ok (.bipush 6, 2) := by decide +kernel
theorem dX4_init_15 : decode cX4_init 15 = .ok (.newarray .long, 2) := by decide +kernel
theorem dX4_init_17 : decode cX4_init 17 = .ok (.putfield 15, 3) := by decide +kernel
theorem dX4_init_20 : decode cX4_init 20 = .ok (.return_, 1) := by decide +kernel
theorem dX4_reckon_0 : decode cX4_reckon 0 = .ok (.aload_n 1, 1) := by decide +kernel
theorem dX4_reckon_1 : decode cX4_reckon 1 = .ok (.getfield 18, 3) := by decide +kernel
theorem dX4_reckon_4 : decode cX4_reckon 4 = .ok (.astore 5, 2) := by decide +kernel
theorem dX4_reckon_6 : decode cX4_reckon 6 = .ok (.aload_n 0, 1) := by decide +kernel
theorem dX4_reckon_7 : decode cX4_reckon 7 = .ok (.getfield 9, 3) := by decide +kernel
theorem dX4_reckon_10 : decode cX4_reckon 10 = .ok (.lconst 0, 1) := by decide +kernel
theorem dX4_reckon_11 : decode cX4_reckon 11 = .ok (.invokestatic 24, 3) := by decide +kernel
theorem dX4_reckon_14 : decode cX4_reckon 14 = .ok (.aload_n 0, 1) := by decide +kernel
theorem dX4_reckon_15 : decode cX4_reckon 15 = .ok (.getfield 15, 3) := by decide +kernel
theorem dX4_reckon_18 : decode cX4_reckon 18 = .ok (.lconst 0, 1) := by decide +kernel
theorem dX4_reckon_19 : decode cX4_reckon 19 = .ok (.invokestatic 24, 3) := by decide +kernel
theorem dX4_reckon_22 : decode cX4_reckon 22 = .ok (.aload_n 0, 1) := by decide +kernel
theorem dX4_reckon_23 : decode cX4_reckon 23 = .ok (.lconst 1, 1) := by decide +kernel
theorem dX4_reckon_24 : decode cX4_reckon 24 = .ok (.putfield 30, 3) := by decide +kernel
theorem dX4_reckon_27 : decode cX4_reckon 27 = .ok (.iconst 0, 1) := by decide +kernel
theorem dX4_reckon_28 : decode cX4_reckon 28 = .ok (.istore 6, 2) := by decide +kernel
theorem dX4_reckon_30 : decode cX4_reckon 30 = .ok (.iload 6, 2) := by decide +kernel
theorem dX4_reckon_32 : decode cX4_reckon 32 = .ok (.aload 5, 2) := by decide +kernel
theorem dX4_reckon_34 : decode cX4_reckon 34 = .ok (.getfield 34, 3) := by decide +kernel
theorem dX4_reckon_37 : decode cX4_reckon 37 = .ok (.if_icmp .ge 21, 3) := by decide +kernel
theorem dX4_reckon_40 : decode cX4_reckon 40 = .ok (.aload_n 0, 1) := by decide +kernel
theorem dX4_reckon_41 : decode cX4_reckon 41 = .ok (.dup, 1) := by decide +kernel
theorem dX4_reckon_42 : decode cX4_reckon 42 = .ok (.getfield 30, 3) := by decide +kernel
theorem dX4_reckon_45 : decode cX4_reckon 45 = .ok (.ldc2_w 40, 3) := by decide +kernel
theorem dX4_reckon_48 : decode cX4_reckon 48 = .ok (.lmul, 1) := by decide +kernel
theorem dX4_reckon_49 : decode cX4_reckon 49 = .ok (.putfield 30, 3) := by decide +kernel
theorem dX4_reckon_52 : decode cX4_reckon 52 = .ok (.iinc 6 1, 3) := by decide +kernel
theorem dX4_reckon_55 : decode cX4_reckon 55 = .ok (.goto (-25), 3) := by decide +kernel
theorem dX4_reckon_58 : decode cX4_reckon 58 = .ok (.iconst 0, 1) := by decide +kernel
theorem dX4_reckon_59 : decode cX4_reckon 59 = .ok (.istore 6, 2) := by decide +kernel
theorem dX4_reckon_61 : decode cX4_reckon 61 = .ok (.iload 6, 2) := by decide +kernel
theorem dX4_reckon_63 : decode cX4_reckon 63 = .ok (.iconst 1, 1) := by decide +kernel
theorem dX4_reckon_64 : decode cX4_reckon 64 = .ok (.aload 5, 2) := by decide +kernel
theorem dX4_reckon_66 : decode cX4_reckon 66 = .ok (.getfield 34, 3) := by decide +kernel
theorem dX4_reckon_69 : decode cX4_reckon 69 = .ok (.ishl, 1) := by decide +kernel
theorem dX4_reckon_70 : decode cX4_reckon 70 = .ok (.if_icmp .ge 104, 3) := by decide +kernel
theorem dX4_reckon_73 : decode cX4_reckon 73 = .ok (.aload 5, 2) := by decide +kernel
theorem dX4_reckon_75 : decode cX4_reckon 75 = .ok (.iload 6, 2) := by decide +kernel
theorem dX4_reckon_77 : decode cX4_reckon 77 = .ok (.aload_n 3, 1) := by decide +kernel
theorem dX4_reckon_78 : decode cX4_reckon 78 = .ok (.invokestatic 42, 3) := by decide +kernel
theorem dX4_reckon_81 : decode cX4_reckon 81 = .ok (.lstore 7, 2) := by decide +kernel
theorem dX4_reckon_83 : decode cX4_reckon 83 = .ok (.lload 7, 2) := by decide +kernel
theorem dX4_reckon_85 : decode cX4_reckon 85 = .ok (.lconst 0, 1) := by decide +kernel
theorem dX4_reckon_86 : decode cX4_reckon 86 = .ok (.lcmp, 1) := by decide +kernel
theorem dX4_reckon_87 : decode cX4_reckon 87 = .ok (.ifCond .eq 81, 3) := by decide +kernel
theorem dX4_reckon_90 : decode cX4_reckon 90 = .ok (.aload 4, 2) := by decide +kernel
theorem dX4_reckon_92 : decode cX4_reckon 92 = .ok (.aload_n 3, 1) := by decide +kernel
theorem dX4_reckon_93 : decode cX4_reckon 93 = .ok (.aload_n 2, 1) := by decide +kernel
theorem dX4_reckon_94 : decode cX4_reckon 94 = .ok (.bipush 99, 2) := by decide +kernel
theorem dX4_reckon_96 : decode cX4_reckon 96 = .ok (.iconst (-1), 1) := by decide +kernel
theorem dX4_reckon_97 : decode cX4_reckon 97 = .ok (.invokevirtual 46, 3) := by decide +kernel
theorem dX4_reckon_100 : decode cX4_reckon 100 = .ok (.pop, 1) := by decide +kernel
theorem dX4_reckon_101 : decode cX4_reckon 101 = .ok (.iconst 0, 1) := by decide +kernel
theorem dX4_reckon_102 : decode cX4_reckon 102 = .ok (.istore 9, 2) := by decide +kernel
theorem dX4_reckon_104 : decode cX4_reckon 104 = .ok (.iload 9, 2) := by decide +kernel
theorem dX4_reckon_106 : decode cX4_reckon 106 = .ok (.aload_n 1, 1) := by decide +kernel
theorem dX4_reckon_107 : decode cX4_reckon 107 = .ok (.getfield 52, 3) := by decide +kernel
theorem dX4_reckon_110 : decode cX4_reckon 110 = .ok (.if_icmp .ge 58, 3) := by decide +kernel
theorem dX4_reckon_113 : decode cX4_reckon 113 = .ok (.aload_n 0, 1) := by decide +kernel
theorem dX4_reckon_114 : decode cX4_reckon 114 = .ok (.getfield 9, 3) := by decide +kernel
theorem dX4_reckon_117 : decode cX4_reckon 117 = .ok (.iload 9, 2) := by decide +kernel
theorem dX4_reckon_119 : decode cX4_reckon 119 = .ok (.dup2, 1) := by decide +kernel
theorem dX4_reckon_120 : decode cX4_reckon 120 = .ok (.laload, 1) := by decide +kernel
theorem dX4_reckon_121 : decode cX4_reckon 121 = .ok (.aload 4, 2) := by decide +kernel
theorem dX4_reckon_123 : decode cX4_reckon 123 = .ok (.getfield 55, 3) := by decide +kernel
theorem dX4_reckon_126 : decode cX4_reckon 126 = .ok (.iload 9, 2) := by decide +kernel
theorem dX4_reckon_128 : decode cX4_reckon 128 = .ok (.iaload, 1) := by decide +kernel
theorem dX4_reckon_129 : decode cX4_reckon 129 = .ok (.ifCond .ne 8, 3) := by decide +kernel
theorem dX4_reckon_132 : decode cX4_reckon 132 = .ok (.lload 7, 2) := by decide +kernel
theorem dX4_reckon_134 : decode cX4_reckon 134 = .ok (.goto 4, 3) := by decide +kernel
theorem dX4_reckon_137 : decode cX4_reckon 137 = .ok (.lconst 0, 1) := by decide +kernel
theorem dX4_reckon_138 : decode cX4_reckon 138 = .ok (.ladd, 1) := by decide +kernel
theorem dX4_reckon_139 : decode cX4_reckon 139 = .ok (.lastore, 1) := by decide +kernel
theorem dX4_reckon_140 : decode cX4_reckon 140 = .ok (.aload_n 0, 1) := by decide +kernel
theorem dX4_reckon_141 : decode cX4_reckon 141 = .ok (.getfield 15, 3) := by decide +kernel
theorem dX4_reckon_144 : decode cX4_reckon 144 = .ok (.iload 9, 2) := by decide +kernel
theorem dX4_reckon_146 : decode cX4_reckon 146 = .ok (.dup2, 1) := by decide +kernel
theorem dX4_reckon_147 : decode cX4_reckon 147 = .ok (.laload, 1) := by decide +kernel
theorem dX4_reckon_148 : decode cX4_reckon 148 = .ok (.lload 7, 2) := by decide +kernel
theorem dX4_reckon_150 : decode cX4_reckon 150 = .ok (.aload 4, 2) := by decide +kernel
theorem dX4_reckon_152 : decode cX4_reckon 152 = .ok (.getfield 55, 3) := by decide +kernel
theorem dX4_reckon_155 : decode cX4_reckon 155 = .ok (.iload 9, 2) := by decide +kernel
theorem dX4_reckon_157 : decode cX4_reckon 157 = .ok (.iaload, 1) := by decide +kernel
theorem dX4_reckon_158 : decode cX4_reckon 158 = .ok (.i2l, 1) := by decide +kernel
theorem dX4_reckon_159 : decode cX4_reckon 159 = .ok (.lmul, 1) := by decide +kernel
theorem dX4_reckon_160 : decode cX4_reckon 160 = .ok (.ladd, 1) := by decide +kernel
theorem dX4_reckon_161 : decode cX4_reckon 161 = .ok (.lastore, 1) := by decide +kernel
theorem dX4_reckon_162 : decode cX4_reckon 162 = .ok (.iinc 9 1, 3) := by decide +kernel
theorem dX4_reckon_165 : decode cX4_reckon 165 = .ok (.goto (-61), 3) := by decide +kernel
theorem dX4_reckon_168 : decode cX4_reckon 168 = .ok (.iinc 6 1, 3) := by decide +kernel
theorem dX4_reckon_171 : decode cX4_reckon 171 = .ok (.goto (-110), 3) := by decide +kernel
theorem dX4_reckon_174 : decode cX4_reckon 174 = .ok (.aload_n 0, 1) := by decide +kernel
theorem dX4_reckon_175 : decode cX4_reckon 175 = .ok (.iconst 1, 1) := by decide +kernel
theorem dX4_reckon_176 : decode cX4_reckon 176 = .ok (.putfield 59, 3) := by decide +kernel
theorem dX4_reckon_179 : decode cX4_reckon 179 = .ok (.return_, 1) := by decide +kernel
theorem dX4_tellSome_0 : decode cX4_tellSome 0 = .ok (.aload_n 2, 1) := by decide +kernel
theorem dX4_tellSome_1 : decode cX4_tellSome 1 = .ok (.iconst 0, 1) := by decide +kernel
theorem dX4_tellSome_2 : decode cX4_tellSome 2 = .ok (.putfield 34, 3) := by decide +kernel
theorem dX4_tellSome_5 : decode cX4_tellSome 5 = .ok (.lconst 1, 1) := by decide +kernel
theorem dX4_tellSome_6 : decode cX4_tellSome 6 = .ok (.lstore_n 3, 1) := by decide +kernel
theorem dX4_tellSome_7 : decode cX4_tellSome 7 = .ok (.iconst 0, 1) := by decide +kernel
theorem dX4_tellSome_8 : decode cX4_tellSome 8 = .ok (.istore 5, 2) := by decide +kernel
theorem dX4_tellSome_10 : decode cX4_tellSome 10 = .ok (.iload 5, 2) := by decide +kernel
theorem dX4_tellSome_12 : decode cX4_tellSome 12 = .ok (.aload_n 0, 1) := by decide +kernel
theorem dX4_tellSome_13 : decode cX4_tellSome 13 = .ok (.getfield 34, 3) := by decide +kernel
theorem dX4_tellSome_16 : decode cX4_tellSome 16 = .ok (.if_icmp .ge 79, 3) := by decide +kernel
theorem dX4_tellSome_19 : decode cX4_tellSome 19 = .ok (.lload_n 3, 1) := by decide +kernel
theorem dX4_tellSome_20 : decode cX4_tellSome 20 = .ok (.lconst 0, 1) := by decide +kernel
theorem dX4_tellSome_21 : decode cX4_tellSome 21 = .ok (.lcmp, 1) := by decide +kernel
theorem dX4_tellSome_22 : decode cX4_tellSome 22 = .ok (.ifCond .eq 73, 3) := by decide +kernel
theorem dX4_tellSome_25 : decode cX4_tellSome 25 = .ok (.iload_n 1, 1) := by decide +kernel
theorem dX4_tellSome_26 : decode cX4_tellSome 26 = .ok (.iload 5, 2) := by decide +kernel
theorem dX4_tellSome_28 : decode cX4_tellSome 28 = .ok (.ishr, 1) := by decide +kernel
theorem dX4_tellSome_29 : decode cX4_tellSome 29 = .ok (.iconst 1, 1) := by decide +kernel
theorem dX4_tellSome_30 : decode cX4_tellSome 30 = .ok (.iand, 1) := by decide +kernel
theorem dX4_tellSome_31 : decode cX4_tellSome 31 = .ok (.ifCond .eq 44, 3) := by decide +kernel
theorem dX4_tellSome_34 : decode cX4_tellSome 34 = .ok (.lload_n 3, 1) := by decide +kernel
theorem dX4_tellSome_35 : decode cX4_tellSome 35 = .ok (.aload_n 0, 1) := by decide +kernel
theorem dX4_tellSome_36 : decode cX4_tellSome 36 = .ok (.getfield 63, 3) := by decide +kernel
theorem dX4_tellSome_39 : decode cX4_tellSome 39 = .ok (.iload 5, 2) := by decide +kernel
theorem dX4_tellSome_41 : decode cX4_tellSome 41 = .ok (.iaload, 1) := by decide +kernel
theorem dX4_tellSome_42 : decode cX4_tellSome 42 = .ok (.i2l, 1) := by decide +kernel
theorem dX4_tellSome_43 : decode cX4_tellSome 43 = .ok (.lmul, 1) := by decide +kernel
theorem dX4_tellSome_44 : decode cX4_tellSome 44 = .ok (.lstore_n 3, 1) := by decide +kernel
theorem dX4_tellSome_45 : decode cX4_tellSome 45 = .ok (.aload_n 2, 1) := by decide +kernel
theorem dX4_tellSome_46 : decode cX4_tellSome 46 = .ok (.aload_n 0, 1) := by decide +kernel
theorem dX4_tellSome_47 : decode cX4_tellSome 47 = .ok (.getfield 66, 3) := by decide +kernel
theorem dX4_tellSome_50 : decode cX4_tellSome 50 = .ok (.iload 5, 2) := by decide +kernel
theorem dX4_tellSome_52 : decode cX4_tellSome 52 = .ok (.iaload, 1) := by decide +kernel
theorem dX4_tellSome_53 : decode cX4_tellSome 53 = .ok (.aload_n 0, 1) := by decide +kernel
theorem dX4_tellSome_54 : decode cX4_tellSome 54 = .ok (.getfield 69, 3) := by decide +kernel
theorem dX4_tellSome_57 : decode cX4_tellSome 57 = .ok (.iload 5, 2) := by decide +kernel
theorem dX4_tellSome_59 : decode cX4_tellSome 59 = .ok (.iaload, 1) := by decide +kernel
theorem dX4_tellSome_60 : decode cX4_tellSome 60 = .ok (.aload_n 0, 1) := by decide +kernel
theorem dX4_tellSome_61 : decode cX4_tellSome 61 = .ok (.getfield 72, 3) := by decide +kernel
theorem dX4_tellSome_64 : decode cX4_tellSome 64 = .ok (.iload 5, 2) := by decide +kernel
theorem dX4_tellSome_66 : decode cX4_tellSome 66 = .ok (.iaload, 1) := by decide +kernel
theorem dX4_tellSome_67 : decode cX4_tellSome 67 = .ok (.bipush 10, 2) := by decide +kernel
theorem dX4_tellSome_69 : decode cX4_tellSome 69 = .ok (.invokevirtual 75, 3) := by decide +kernel
theorem dX4_tellSome_72 : decode cX4_tellSome 72 = .ok (.goto 17, 3) := by decide +kernel
theorem dX4_tellSome_75 : decode cX4_tellSome 75 = .ok (.lload_n 3, 1) := by decide +kernel
theorem dX4_tellSome_76 : decode cX4_tellSome 76 = .ok (.bipush 10, 2) := by decide +kernel
theorem dX4_tellSome_78 : decode cX4_tellSome 78 = .ok (.aload_n 0, 1) := by decide +kernel
theorem dX4_tellSome_79 : decode cX4_tellSome 79 = .ok (.getfield 63, 3) := by decide +kernel
theorem dX4_tellSome_82 : decode cX4_tellSome 82 = .ok (.iload 5, 2) := by decide +kernel
theorem dX4_tellSome_84 : decode cX4_tellSome 84 = .ok (.iaload, 1) := by decide +kernel
theorem dX4_tellSome_85 : decode cX4_tellSome 85 = .ok (.isub, 1) := by decide +kernel
theorem dX4_tellSome_86 : decode cX4_tellSome 86 = .ok (.i2l, 1) := by decide +kernel
theorem dX4_tellSome_87 : decode cX4_tellSome 87 = .ok (.lmul, 1) := by decide +kernel
theorem dX4_tellSome_88 : decode cX4_tellSome 88 = .ok (.lstore_n 3, 1) := by decide +kernel
theorem dX4_tellSome_89 : decode cX4_tellSome 89 = .ok (.iinc 5 1, 3) := by decide +kernel
theorem dX4_tellSome_92 : decode cX4_tellSome 92 = .ok (.goto (-82), 3) := by decide +kernel
theorem dX4_tellSome_95 : decode cX4_tellSome 95 = .ok (.lload_n 3, 1) := by decide +kernel
theorem dX4_tellSome_96 : decode cX4_tellSome 96 = .ok (.lreturn, 1) := by decide +kernel
theorem dX5_init_0 : decode cX5_init 0 = .ok (.aload_n 0, 1) := by decide +kernel
theorem dX5_init_1 : decode cX5_init 1 = .ok (.invokespecial 3, 3) := by decide +kernel
theorem dX5_init_4 : decode cX5_init 4 = .ok (.aload_n 0, 1) := by decide +kernel
theorem dX5_init_5 : decode cX5_init 5 = .ok (.bipush 10, 2) := by decide +kernel
theorem dX5_init_7 : decode cX5_init 7 = .ok (.anewarray 9, 3) := by decide +kernel
theorem dX5_init_10 : decode cX5_init 10 = .ok (.putfield 11, 3) := by decide +kernel
theorem dX5_init_13 : decode cX5_init 13 = .ok (.iconst 0, 1) := by decide +kernel
theorem dX5_init_14 : decode cX5_init 14 = .ok (.istore_n 1, 1) := by decide +kernel
theorem dX5_init_15 : decode cX5_init 15 = .ok (.iload_n 1, 1) := by decide +kernel
theorem dX5_init_16 : decode cX5_init 16 = .ok (.bipush 10, 2) := by decide +kernel
theorem dX5_init_18 : decode cX5_init 18 = .ok (.if_icmp .ge 22, 3) := by decide +kernel
theorem dX5_init_21 : decode cX5_init 21 = .ok (.aload_n 0, 1) := by decide +kernel
theorem dX5_init_22 : decode cX5_init 22 = .ok (.getfield 11, 3) := by decide +kernel
theorem dX5_init_25 : decode cX5_init 25 = .ok (.iload_n 1, 1) := by decide +kernel
theorem dX5_init_26 : decode cX5_init 26 = .ok (.new 9, 3) := by decide +kernel
theorem dX5_init_29 : decode cX5_init 29 = .ok (.dup, 1) := by decide +kernel
theorem dX5_init_30 : decode cX5_init 30 = .ok (.invokespecial 17, 3) := by decide +kernel
theorem dX5_init_33 : decode cX5_init 33 = .ok (.aastore, 1) := by decide +kernel
theorem dX5_init_34 : decode cX5_init 34 = .ok (.iinc 1 1, 3) := by decide +kernel
theorem dX5_init_37 : decode cX5_init 37 = .ok (.goto (-22), 3) := by decide +kernel
theorem dX5_init_40 : decode cX5_init 40 = .ok (.return_, 1) := by decide +kernel
theorem dX5_forget_0 : decode cX5_forget 0 = .ok (.aload_n 0, 1) := by decide +kernel
theorem dX5_forget_1 : decode cX5_forget 1 = .ok (.iconst 0, 1) := by decide +kernel
theorem dX5_forget_2 : decode cX5_forget 2 = .ok (.putfield 18, 3) := by decide +kernel
theorem dX5_forget_5 : decode cX5_forget 5 = .ok (.return_, 1) := by decide +kernel
theorem dX5_keep_0 : decode cX5_keep 0 = .ok (.aload_n 0, 1) := by decide +kernel
theorem dX5_keep_1 : decode cX5_keep 1 = .ok (.getfield 18, 3) := by decide +kernel
theorem dX5_keep_4 : decode cX5_keep 4 = .ok (.bipush 10, 2) := by decide +kernel
theorem dX5_keep_6 : decode cX5_keep 6 = .ok (.if_icmp .lt 52, 3) := by decide +kernel
theorem dX5_keep_9 : decode cX5_keep 9 = .ok (.aload_n 0, 1) := by decide +kernel
theorem dX5_keep_10 : decode cX5_keep 10 = .ok (.getfield 11, 3) := by decide +kernel
theorem dX5_keep_13 : decode cX5_keep 13 = .ok (.iconst 0, 1) := by decide +kernel
theorem dX5_keep_14 : decode cX5_keep 14 = .ok (.aaload, 1) := by decide +kernel
theorem dX5_keep_15 : decode cX5_keep 15 = .ok (.astore_n 2, 1) := by decide +kernel
theorem dX5_keep_16 : decode cX5_keep 16 = .ok (.iconst 1, 1) := by decide +kernel
theorem dX5_keep_17 : decode cX5_keep 17 = .ok (.istore_n 3, 1) := by decide +kernel
theorem dX5_keep_18 : decode cX5_keep 18 = .ok (.iload_n 3, 1) := by decide +kernel
theorem dX5_keep_19 : decode cX5_keep 19 = .ok (.bipush 10, 2) := by decide +kernel
theorem dX5_keep_21 : decode cX5_keep 21 = .ok (.if_icmp .ge 23, 3) := by decide +kernel
theorem dX5_keep_24 : decode cX5_keep 24 = .ok (.aload_n 0, 1) := by decide +kernel
theorem dX5_keep_25 : decode cX5_keep 25 = .ok (.getfield 11, 3) := by decide +kernel
theorem dX5_keep_28 : decode cX5_keep 28 = .ok (.iload_n 3, 1) := by decide +kernel
theorem dX5_keep_29 : decode cX5_keep 29 = .ok (.iconst 1, 1) := by decide +kernel
theorem dX5_keep_30 : decode cX5_keep 30 = .ok (.isub, 1) := by decide +kernel
theorem dX5_keep_31 : decode cX5_keep 31 = .ok (.aload_n 0, 1) := by decide +kernel
theorem dX5_keep_32 : decode cX5_keep 32 = .ok (.getfield 11, 3) := by decide +kernel
theorem dX5_keep_35 : decode cX5_keep 35 = .ok (.iload_n 3, 1) := by decide +kernel
theorem dX5_keep_36 : decode cX5_keep 36 = .ok (.aaload, 1) := by decide +kernel
theorem dX5_keep_37 : decode cX5_keep 37 = .ok (.aastore, 1) := by decide +kernel
theorem dX5_keep_38 : decode cX5_keep 38 = .ok (.iinc 3 1, 3) := by decide +kernel
theorem dX5_keep_41 : decode cX5_keep 41 = .ok (.goto (-23), 3) := by decide +kernel
theorem dX5_keep_44 : decode cX5_keep 44 = .ok (.aload_n 0, 1) := by decide +kernel
theorem dX5_keep_45 : decode cX5_keep 45 = .ok (.getfield 11, 3) := by decide +kernel
theorem dX5_keep_48 : decode cX5_keep 48 = .ok (.bipush 9, 2) := by decide +kernel
theorem dX5_keep_50 : decode cX5_keep 50 = .ok (.aload_n 2, 1) := by decide +kernel
theorem dX5_keep_51 : decode cX5_keep 51 = .ok (.aastore, 1) := by decide +kernel
theorem dX5_keep_52 : decode cX5_keep 52 = .ok (.aload_n 0, 1) := by decide +kernel
theorem dX5_keep_53 : decode cX5_keep 53 = .ok (.bipush 9, 2) := by decide +kernel
theorem dX5_keep_55 : decode cX5_keep 55 = .ok (.putfield 18, 3) := by decide +kernel
theorem dX5_keep_58 : decode cX5_keep 58 = .ok (.aload_n 0, 1) := by decide +kernel
theorem dX5_keep_59 : decode cX5_keep 59 = .ok (.getfield 11, 3) := by decide +kernel
theorem dX5_keep_62 : decode cX5_keep 62 = .ok (.aload_n 0, 1) := by decide +kernel
theorem dX5_keep_63 : decode cX5_keep 63 = .ok (.getfield 18, 3) := by decide +kernel
theorem dX5_keep_66 : decode cX5_keep 66 = .ok (.aaload, 1) := by decide +kernel
theorem dX5_keep_67 : decode cX5_keep 67 = .ok (.aload_n 1, 1) := by decide +kernel
theorem dX5_keep_68 : decode cX5_keep 68 = .ok (.invokevirtual 22, 3) := by decide +kernel
theorem dX5_keep_71 : decode cX5_keep 71 = .ok (.aload_n 0, 1) := by decide +kernel
theorem dX5_keep_72 : decode cX5_keep 72 = .ok (.dup, 1) := by decide +kernel
theorem dX5_keep_73 : decode cX5_keep 73 = .ok (.getfield 18, 3) := by decide +kernel
theorem dX5_keep_76 : decode cX5_keep 76 = .ok (.iconst 1, 1) := by decide +kernel
theorem dX5_keep_77 : decode cX5_keep 77 = .ok (.iadd, 1) := by decide +kernel
theorem dX5_keep_78 : decode cX5_keep 78 = .ok (.putfield 18, 3) := by decide +kernel
theorem dX5_keep_81 : decode cX5_keep 81 = .ok (.return_, 1) := by decide +kernel
theorem dX5_takeBack_0 : decode cX5_takeBack 0 = .ok (.iload_n 1, 1) := by decide +kernel
theorem dX5_takeBack_1 : decode cX5_takeBack 1 = .ok (.iconst 1, 1) := by decide +kernel
theorem dX5_takeBack_2 : decode cX5_takeBack 2 = .ok (.if_icmp .lt 11, 3) := by decide +kernel
theorem dX5_takeBack_5 : decode cX5_takeBack 5 = .ok (.iload_n 1, 1) := by decide +kernel
theorem dX5_takeBack_6 : decode cX5_takeBack 6 = .ok (.aload_n 0, 1) := by decide +kernel
theorem dX5_takeBack_7 : decode cX5_takeBack 7 = .ok (.getfield 18, 3) := by decide +kernel
theorem dX5_takeBack_10 : decode cX5_takeBack 10 = .ok (.if_icmp .le 4, 3) := by decide +kernel
theorem dX5_takeBack_13 : decode cX5_takeBack 13 = .ok (.return_, 1) := by decide +kernel
theorem dX5_takeBack_14 : decode cX5_takeBack 14 = .ok (.aload_n 0, 1) := by decide +kernel
theorem dX5_takeBack_15 : decode cX5_takeBack 15 = .ok (.dup, 1) := by decide +kernel
theorem dX5_takeBack_16 : decode cX5_takeBack 16 = .ok (.getfield 18, 3) := by decide +kernel
theorem dX5_takeBack_19 : decode cX5_takeBack 19 = .ok (.iload_n 1, 1) := by decide +kernel
theorem dX5_takeBack_20 : decode cX5_takeBack 20 = .ok (.isub, 1) := by decide +kernel
theorem dX5_takeBack_21 : decode cX5_takeBack 21 = .ok (.putfield 18, 3) := by decide +kernel
theorem dX5_takeBack_24 : decode cX5_takeBack 24 = .ok (.aload_n 2, 1) := by decide +kernel
theorem dX5_takeBack_25 : decode cX5_takeBack 25 = .ok (.aload_n 0, 1) := by decide +kernel
theorem dX5_takeBack_26 : decode cX5_takeBack 26 = .ok (.getfield 11, 3) := by decide +kernel
theorem dX5_takeBack_29 : decode cX5_takeBack 29 = .ok (.aload_n 0, 1) := by decide +kernel
theorem dX5_takeBack_30 : decode cX5_takeBack 30 = .ok (.getfield 18, 3) := by decide +kernel
theorem dX5_takeBack_33 : decode cX5_takeBack 33 = .ok (.aaload, 1) := by decide +kernel
theorem dX5_takeBack_34 : decode cX5_takeBack 34 = .ok (.invokevirtual 22, 3) := by decide +kernel
theorem dX5_takeBack_37 : decode cX5_takeBack 37 = .ok (.return_, 1) := by decide +kernel
theorem dX6_init_0 : decode cX6_init 0 = .ok (.aload_n 0, 1) := by decide +kernel
theorem dX6_init_1 : decode cX6_init 1 = .ok (.invokespecial 3, 3) := by decide +kernel
theorem dX6_init_4 : decode cX6_init 4 = .ok (.aload_n 0, 1) := by decide +kernel
theorem dX6_init_5 : decode cX6_init 5 = .ok (.bipush 10, 2) := by decide +kernel
theorem dX6_init_7 : decode cX6_init 7 = .ok (.newarray .int, 2) := by decide +kernel
theorem dX6_init_9 : decode cX6_init 9 = .ok (.putfield 9, 3) := by decide +kernel
theorem dX6_init_12 : decode cX6_init 12 = .ok (.aload_n 0, 1) := by decide +kernel
theorem dX6_init_13 : decode cX6_init 13 = .ok (.bipush 10, 2) := by decide +kernel
theorem dX6_init_15 : decode cX6_init 15 = .ok (.newarray .int, 2) := by decide +kernel
theorem dX6_init_17 : decode cX6_init 17 = .ok (.putfield 15, 3) := by decide +kernel
theorem dX6_init_20 : decode cX6_init 20 = .ok (.aload_n 0, 1) := by decide +kernel
theorem dX6_init_21 : decode cX6_init 21 = .ok (.bipush 10, 2) := by decide +kernel
theorem dX6_init_23 : decode cX6_init 23 = .ok (.newarray .int, 2) := by decide +kernel
theorem dX6_init_25 : decode cX6_init 25 = .ok (.putfield 18, 3) := by decide +kernel
theorem dX6_init_28 : decode cX6_init 28 = .ok (.aload_n 0, 1) := by decide +kernel
theorem dX6_init_29 : decode cX6_init 29 = .ok (.bipush 10, 2) := by decide +kernel
theorem dX6_init_31 : decode cX6_init 31 = .ok (.newarray .int, 2) := by decide +kernel
theorem dX6_init_33 : decode cX6_init 33 = .ok (.putfield 21, 3) := by decide +kernel
theorem dX6_init_36 : decode cX6_init 36 = .ok (.aload_n 0, 1) := by decide +kernel
theorem dX6_init_37 : decode cX6_init 37 = .ok (.bipush 6, 2) := by decide +kernel
theorem dX6_init_39 : decode cX6_init 39 = .ok (.newarray .int, 2) := by decide +kernel
theorem dX6_init_41 : decode cX6_init 41 = .ok (.putfield 24, 3) := by decide +kernel
theorem dX6_init_44 : decode cX6_init 44 = .ok (.return_, 1) := by decide +kernel
theorem dX6_copyFrom_0 : decode cX6_copyFrom 0 = .ok (.aload_n 0, 1) := by decide +kernel
theorem dX6_copyFrom_1 : decode cX6_copyFrom 1 = .ok (.aload_n 1, 1) := by decide +kernel
theorem dX6_copyFrom_2 : decode cX6_copyFrom 2 = .ok (.getfield 27, 3) := by decide +kernel
theorem dX6_copyFrom_5 : decode cX6_copyFrom 5 = .ok (.putfield 27, 3) := by decide +kernel
theorem dX6_copyFrom_8 : decode cX6_copyFrom 8 = .ok (.aload_n 1, 1) := by decide +kernel
theorem dX6_copyFrom_9 : decode cX6_copyFrom 9 = .ok (.getfield 9, 3) := by decide +kernel
theorem dX6_copyFrom_12 : decode cX6_copyFrom 12 = .ok (.iconst 0, 1) := by decide +kernel
theorem dX6_copyFrom_13 : decode cX6_copyFrom 13 = .ok (.aload_n 0, 1) := by decide +kernel
theorem dX6_copyFrom_14 : decode cX6_copyFrom 14 = .ok (.getfield 9, 3) := by decide +kernel
theorem dX6_copyFrom_17 : decode cX6_copyFrom 17 = .ok (.iconst 0, 1) := by decide +kernel
theorem dX6_copyFrom_18 : decode cX6_copyFrom 18 = .ok (.bipush 10, 2) := by decide +kernel
theorem dX6_copyFrom_20 : decode cX6_copyFrom 20 = .ok (.invokestatic 31, 3) := by decide +kernel
theorem dX6_copyFrom_23 : decode cX6_copyFrom 23 = .ok (.aload_n 1, 1) := by decide +kernel
theorem dX6_copyFrom_24 : decode cX6_copyFrom 24 = .ok (.getfield 15, 3) := by decide +kernel
theorem dX6_copyFrom_27 : decode cX6_copyFrom 27 = .ok (.iconst 0, 1) := by decide +kernel
theorem dX6_copyFrom_28 : decode cX6_copyFrom 28 = .ok (.aload_n 0, 1) := by decide +kernel
theorem dX6_copyFrom_29 : decode cX6_copyFrom 29 = .ok (.getfield 15, 3) := by decide +kernel
theorem dX6_copyFrom_32 : decode cX6_copyFrom 32 = .ok (.iconst 0, 1) := by decide +kernel
theorem dX6_copyFrom_33 : decode cX6_copyFrom 33 = .ok (.bipush 10, 2) := by decide +kernel
theorem dX6_copyFrom_35 : decode cX6_copyFrom 35 = .ok (.invokestatic 31, 3) := by decide +kernel
theorem dX6_copyFrom_38 : decode cX6_copyFrom 38 = .ok (.aload_n 1, 1) := by decide +kernel
theorem dX6_copyFrom_39 : decode cX6_copyFrom 39 = .ok (.getfield 18, 3) := by decide +kernel
theorem dX6_copyFrom_42 : decode cX6_copyFrom 42 = .ok (.iconst 0, 1) := by decide +kernel
theorem dX6_copyFrom_43 : decode cX6_copyFrom 43 = .ok (.aload_n 0, 1) := by decide +kernel
theorem dX6_copyFrom_44 : decode cX6_copyFrom 44 = .ok (.getfield 18, 3) := by decide +kernel
theorem dX6_copyFrom_47 : decode cX6_copyFrom 47 = .ok (.iconst 0, 1) := by decide +kernel
theorem dX6_copyFrom_48 : decode cX6_copyFrom 48 = .ok (.bipush 10, 2) := by decide +kernel
theorem dX6_copyFrom_50 : decode cX6_copyFrom 50 = .ok (.invokestatic 31, 3) := by decide +kernel
theorem dX6_copyFrom_53 : decode cX6_copyFrom 53 = .ok (.aload_n 1, 1) := by decide +kernel
theorem dX6_copyFrom_54 : decode cX6_copyFrom 54 = .ok (.getfield 21, 3) := by decide +kernel
theorem dX6_copyFrom_57 : decode cX6_copyFrom 57 = .ok (.iconst 0, 1) := by decide +kernel
theorem dX6_copyFrom_58 : decode cX6_copyFrom 58 = .ok (.aload_n 0, 1) := by decide +kernel
theorem dX6_copyFrom_59 : decode cX6_copyFrom 59 = .ok (.getfield 21, 3) := by decide +kernel
theorem dX6_copyFrom_62 : decode cX6_copyFrom 62 = .ok (.iconst 0, 1) := by decide +kernel
theorem dX6_copyFrom_63 : decode cX6_copyFrom 63 = .ok (.bipush 10, 2) := by decide +kernel
theorem dX6_copyFrom_65 : decode cX6_copyFrom 65 = .ok (.invokestatic 31, 3) := by decide +kernel
theorem dX6_copyFrom_68 : decode cX6_copyFrom 68 = .ok (.aload_n 1, 1) := by decide +kernel
theorem dX6_copyFrom_69 : decode cX6_copyFrom 69 = .ok (.getfield 24, 3) := by decide +kernel
theorem dX6_copyFrom_72 : decode cX6_copyFrom 72 = .ok (.iconst 0, 1) := by decide +kernel
theorem dX6_copyFrom_73 : decode cX6_copyFrom 73 = .ok (.aload_n 0, 1) := by decide +kernel
theorem dX6_copyFrom_74 : decode cX6_copyFrom 74 = .ok (.getfield 24, 3) := by decide +kernel
theorem dX6_copyFrom_77 : decode cX6_copyFrom 77 = .ok (.iconst 0, 1) := by decide +kernel
theorem dX6_copyFrom_78 : decode cX6_copyFrom 78 = .ok (.bipush 6, 2) := by decide +kernel
theorem dX6_copyFrom_80 : decode cX6_copyFrom 80 = .ok (.invokestatic 31, 3) := by decide +kernel
theorem dX6_copyFrom_83 : decode cX6_copyFrom 83 = .ok (.aload_n 0, 1) := by decide +kernel
theorem dX6_copyFrom_84 : decode cX6_copyFrom 84 = .ok (.aload_n 1, 1) := by decide +kernel
theorem dX6_copyFrom_85 : decode cX6_copyFrom 85 = .ok (.getfield 37, 3) := by decide +kernel
theorem dX6_copyFrom_88 : decode cX6_copyFrom 88 = .ok (.putfield 37, 3) := by decide +kernel
theorem dX6_copyFrom_91 : decode cX6_copyFrom 91 = .ok (.return_, 1) := by decide +kernel
theorem dX6_add_0 : decode cX6_add 0 = .ok (.aload_n 0, 1) := by decide +kernel
theorem dX6_add_1 : decode cX6_add 1 = .ok (.getfield 27, 3) := by decide +kernel
theorem dX6_add_4 : decode cX6_add 4 = .ok (.ifCond .lt 12, 3) := by decide +kernel
theorem dX6_add_7 : decode cX6_add 7 = .ok (.aload_n 0, 1) := by decide +kernel
theorem dX6_add_8 : decode cX6_add 8 = .ok (.getfield 27, 3) := by decide +kernel
theorem dX6_add_11 : decode cX6_add 11 = .ok (.bipush 10, 2) := by decide +kernel
theorem dX6_add_13 : decode cX6_add 13 = .ok (.if_icmp .lt 4, 3) := by decide +kernel
theorem dX6_add_16 : decode cX6_add 16 = .ok (.return_, 1) := by decide +kernel
theorem dX6_add_17 : decode cX6_add 17 = .ok (.aload_n 0, 1) := by decide +kernel
theorem dX6_add_18 : decode cX6_add 18 = .ok (.getfield 9, 3) := by decide +kernel
theorem dX6_add_21 : decode cX6_add 21 = .ok (.aload_n 0, 1) := by decide +kernel
theorem dX6_add_22 : decode cX6_add 22 = .ok (.getfield 27, 3) := by decide +kernel
theorem dX6_add_25 : decode cX6_add 25 = .ok (.iload_n 1, 1) := by decide +kernel
theorem dX6_add_26 : decode cX6_add 26 = .ok (.iastore, 1) := by decide +kernel
theorem dX6_add_27 : decode cX6_add 27 = .ok (.aload_n 0, 1) := by decide +kernel
theorem dX6_add_28 : decode cX6_add 28 = .ok (.getfield 15, 3) := by decide +kernel
theorem dX6_add_31 : decode cX6_add 31 = .ok (.aload_n 0, 1) := by decide +kernel
theorem dX6_add_32 : decode cX6_add 32 = .ok (.getfield 27, 3) := by decide +kernel
theorem dX6_add_35 : decode cX6_add 35 = .ok (.iload_n 2, 1) := by decide +kernel
theorem dX6_add_36 : decode cX6_add 36 = .ok (.iastore, 1) := by decide +kernel
theorem dX6_add_37 : decode cX6_add 37 = .ok (.aload_n 0, 1) := by decide +kernel
theorem dX6_add_38 : decode cX6_add 38 = .ok (.getfield 18, 3) := by decide +kernel
theorem dX6_add_41 : decode cX6_add 41 = .ok (.aload_n 0, 1) := by decide +kernel
theorem dX6_add_42 : decode cX6_add 42 = .ok (.getfield 27, 3) := by decide +kernel
theorem dX6_add_45 : decode cX6_add 45 = .ok (.iload_n 3, 1) := by decide +kernel
theorem dX6_add_46 : decode cX6_add 46 = .ok (.iastore, 1) := by decide +kernel
theorem dX6_add_47 : decode cX6_add 47 = .ok (.aload_n 0, 1) := by decide +kernel
theorem dX6_add_48 : decode cX6_add 48 = .ok (.getfield 21, 3) := by decide +kernel
theorem dX6_add_51 : decode cX6_add 51 = .ok (.aload_n 0, 1) := by decide +kernel
theorem dX6_add_52 : decode cX6_add 52 = .ok (.getfield 27, 3) := by decide +kernel
theorem dX6_add_55 : decode cX6_add 55 = .ok (.iload 4, 2) := by decide +kernel
theorem dX6_add_57 : decode cX6_add 57 = .ok (.iastore, 1) := by decide +kernel
theorem dX6_add_58 : decode cX6_add 58 = .ok (.aload_n 0, 1) := by decide +kernel
theorem dX6_add_59 : decode cX6_add 59 = .ok (.dup, 1) := by decide +kernel
theorem dX6_add_60 : decode cX6_add 60 = .ok (.getfield 27, 3) := by decide +kernel
theorem dX6_add_63 : decode cX6_add 63 = .ok (.iconst 1, 1) := by decide +kernel
theorem dX6_add_64 : decode cX6_add 64 = .ok (.iadd, 1) := by decide +kernel
theorem dX6_add_65 : decode cX6_add 65 = .ok (.putfield 27, 3) := by decide +kernel
theorem dX6_add_68 : decode cX6_add 68 = .ok (.return_, 1) := by decide +kernel
theorem dX6_remove_0 : decode cX6_remove 0 = .ok (.iload_n 1, 1) := by decide +kernel
theorem dX6_remove_1 : decode cX6_remove 1 = .ok (.istore_n 2, 1) := by decide +kernel
theorem dX6_remove_2 : decode cX6_remove 2 = .ok (.iload_n 2, 1) := by decide +kernel
theorem dX6_remove_3 : decode cX6_remove 3 = .ok (.ifCond .lt 75, 3) := by decide +kernel
theorem dX6_remove_6 : decode cX6_remove 6 = .ok (.iload_n 2, 1) := by decide +kernel
theorem dX6_remove_7 : decode cX6_remove 7 = .ok (.iconst 1, 1) := by decide +kernel
theorem dX6_remove_8 : decode cX6_remove 8 = .ok (.iadd, 1) := by decide +kernel
theorem dX6_remove_9 : decode cX6_remove 9 = .ok (.aload_n 0, 1) := by decide +kernel
theorem dX6_remove_10 : decode cX6_remove 10 = .ok (.getfield 27, 3) := by decide +kernel
theorem dX6_remove_13 : decode cX6_remove 13 = .ok (.if_icmp .ge 65, 3) := by decide +kernel
theorem dX6_remove_16 : decode cX6_remove 16 = .ok (.aload_n 0, 1) := by decide +kernel
theorem dX6_remove_17 : decode cX6_remove 17 = .ok (.getfield 9, 3) := by decide +kernel
theorem dX6_remove_20 : decode cX6_remove 20 = .ok (.iload_n 2, 1) := by decide +kernel
theorem dX6_remove_21 : decode cX6_remove 21 = .ok (.aload_n 0, 1) := by decide +kernel
theorem dX6_remove_22 : decode cX6_remove 22 = .ok (.getfield 9, 3) := by decide +kernel
theorem dX6_remove_25 : decode cX6_remove 25 = .ok (.iload_n 2, 1) := by decide +kernel
theorem dX6_remove_26 : decode cX6_remove 26 = .ok (.iconst 1, 1) := by decide +kernel
theorem dX6_remove_27 : decode cX6_remove 27 = .ok (.iadd, 1) := by decide +kernel
theorem dX6_remove_28 : decode cX6_remove 28 = .ok (.iaload, 1) := by decide +kernel
theorem dX6_remove_29 : decode cX6_remove 29 = .ok (.iastore, 1) := by decide +kernel
theorem dX6_remove_30 : decode cX6_remove 30 = .ok (.aload_n 0, 1) := by decide +kernel
theorem dX6_remove_31 : decode cX6_remove 31 = .ok (.getfield 15, 3) := by decide +kernel
theorem dX6_remove_34 : decode cX6_remove 34 = .ok (.iload_n 2, 1) := by decide +kernel
theorem dX6_remove_35 : decode cX6_remove 35 = .ok (.aload_n 0, 1) := by decide +kernel
theorem dX6_remove_36 : decode cX6_remove 36 = .ok (.getfield 15, 3) := by decide +kernel
theorem dX6_remove_39 : decode cX6_remove 39 = .ok (.iload_n 2, 1) := by decide +kernel
theorem dX6_remove_40 : decode cX6_remove 40 = .ok (.iconst 1, 1) := by decide +kernel
theorem dX6_remove_41 : decode cX6_remove 41 = .ok (.iadd, 1) := by decide +kernel
theorem dX6_remove_42 : decode cX6_remove 42 = .ok (.iaload, 1) := by decide +kernel
theorem dX6_remove_43 : decode cX6_remove 43 = .ok (.iastore, 1) := by decide +kernel
theorem dX6_remove_44 : decode cX6_remove 44 = .ok (.aload_n 0, 1) := by decide +kernel
theorem dX6_remove_45 : decode cX6_remove 45 = .ok (.getfield 18, 3) := by decide +kernel
theorem dX6_remove_48 : decode cX6_remove 48 = .ok (.iload_n 2, 1) := by decide +kernel
theorem dX6_remove_49 : decode cX6_remove 49 = .ok (.aload_n 0, 1) := by decide +kernel
theorem dX6_remove_50 : decode cX6_remove 50 = .ok (.getfield 18, 3) := by decide +kernel
theorem dX6_remove_53 : decode cX6_remove 53 = .ok (.iload_n 2, 1) := by decide +kernel
theorem dX6_remove_54 : decode cX6_remove 54 = .ok (.iconst 1, 1) := by decide +kernel
theorem dX6_remove_55 : decode cX6_remove 55 = .ok (.iadd, 1) := by decide +kernel
theorem dX6_remove_56 : decode cX6_remove 56 = .ok (.iaload, 1) := by decide +kernel
theorem dX6_remove_57 : decode cX6_remove 57 = .ok (.iastore, 1) := by decide +kernel
theorem dX6_remove_58 : decode cX6_remove 58 = .ok (.aload_n 0, 1) := by decide +kernel
theorem dX6_remove_59 : decode cX6_remove 59 = .ok (.getfield 21, 3) := by decide +kernel
theorem dX6_remove_62 : decode cX6_remove 62 = .ok (.iload_n 2, 1) := by decide +kernel
theorem dX6_remove_63 : decode cX6_remove 63 = .ok (.aload_n 0, 1) := by decide +kernel
theorem dX6_remove_64 : decode cX6_remove 64 = .ok (.getfield 21, 3) := by decide +kernel
theorem dX6_remove_67 : decode cX6_remove 67 = .ok (.iload_n 2, 1) := by decide +kernel
theorem dX6_remove_68 : decode cX6_remove 68 = .ok (.iconst 1, 1) := by decide +kernel
theorem dX6_remove_69 : decode cX6_remove 69 = .ok (.iadd, 1) := by decide +kernel
theorem dX6_remove_70 : decode cX6_remove 70 = .ok (.iaload, 1) := by decide +kernel
theorem dX6_remove_71 : decode cX6_remove 71 = .ok (.iastore, 1) := by decide +kernel
theorem dX6_remove_72 : decode cX6_remove 72 = .ok (.iinc 2 1, 3) := by decide +kernel
theorem dX6_remove_75 : decode cX6_remove 75 = .ok (.goto (-73), 3) := by decide +kernel
theorem dX6_remove_78 : decode cX6_remove 78 = .ok (.aload_n 0, 1) := by decide +kernel
theorem dX6_remove_79 : decode cX6_remove 79 = .ok (.dup, 1) := by decide +kernel
theorem dX6_remove_80 : decode cX6_remove 80 = .ok (.getfield 27, 3) := by decide +kernel
theorem dX6_remove_83 : decode cX6_remove 83 = .ok (.iconst 1, 1) := by decide +kernel
theorem dX6_remove_84 : decode cX6_remove 84 = .ok (.isub, 1) := by decide +kernel
theorem dX6_remove_85 : decode cX6_remove 85 = .ok (.putfield 27, 3) := by decide +kernel
theorem dX6_remove_88 : decode cX6_remove 88 = .ok (.return_, 1) := by decide +kernel
theorem dX7_init_0 : decode cX7_init 0 = .ok (.aload_n 0, 1) := by decide +kernel
theorem dX7_init_1 : decode cX7_init 1 = .ok (.invokespecial 3, 3) := by decide +kernel
theorem dX7_init_4 : decode cX7_init 4 = .ok (.aload_n 0, 1) := by decide +kernel
theorem dX7_init_5 : decode cX7_init 5 = .ok (.iconst (-1), 1) := by decide +kernel
theorem dX7_init_6 : decode cX7_init 6 = .ok (.putfield 9, 3) := by decide +kernel
theorem dX7_init_9 : decode cX7_init 9 = .ok (.aload_n 0, 1) := by decide +kernel
theorem dX7_init_10 : decode cX7_init 10 = .ok (.sipush 901, 3) := by decide +kernel
theorem dX7_init_13 : decode cX7_init 13 = .ok (.newarray .int, 2) := by decide +kernel
theorem dX7_init_15 : decode cX7_init 15 = .ok (.putfield 15, 3) := by decide +kernel
theorem dX7_init_18 : decode cX7_init 18 = .ok (.aload_n 0, 1) := by decide +kernel
theorem dX7_init_19 : decode cX7_init 19 = .ok (.sipush 901, 3) := by decide +kernel
theorem dX7_init_22 : decode cX7_init 22 = .ok (.newarray .int, 2) := by decide +kernel
theorem dX7_init_24 : decode cX7_init 24 = .ok (.putfield 19, 3) := by decide +kernel
theorem dX7_init_27 : decode cX7_init 27 = .ok (.aload_n 0, 1) := by decide +kernel
theorem dX7_init_28 : decode cX7_init 28 = .ok (.sipush 901, 3) := by decide +kernel
theorem dX7_init_31 : decode cX7_init 31 = .ok (.newarray .int, 2) := by decide +kernel
theorem dX7_init_33 : decode cX7_init 33 = .ok (.putfield 22, 3) := by decide +kernel
theorem dX7_init_36 : decode cX7_init 36 = .ok (.return_, 1) := by decide +kernel
theorem dX7_read_0 : decode cX7_read 0 = .ok (.aload_n 0, 1) := by decide +kernel
theorem dX7_read_1 : decode cX7_read 1 = .ok (.aload_n 1, 1) := by decide +kernel
theorem dX7_read_2 : decode cX7_read 2 = .ok (.putfield 25, 3) := by decide +kernel
theorem dX7_read_5 : decode cX7_read 5 = .ok (.aload_n 0, 1) := by decide +kernel
theorem dX7_read_6 : decode cX7_read 6 = .ok (.aload_n 3, 1) := by decide +kernel
theorem dX7_read_7 : decode cX7_read 7 = .ok (.putfield 29, 3) := by decide +kernel
theorem dX7_read_10 : decode cX7_read 10 = .ok (.aload_n 0, 1) := by decide +kernel
theorem dX7_read_11 : decode cX7_read 11 = .ok (.iload_n 2, 1) := by decide +kernel
theorem dX7_read_12 : decode cX7_read 12 = .ok (.invokevirtual 33, 3) := by decide +kernel
theorem dX7_read_15 : decode cX7_read 15 = .ok (.aload_n 0, 1) := by decide +kernel
theorem dX7_read_16 : decode cX7_read 16 = .ok (.getfield 29, 3) := by decide +kernel
theorem dX7_read_19 : decode cX7_read 19 = .ok (.invokevirtual 37, 3) := by decide +kernel
theorem dX7_read_22 : decode cX7_read 22 = .ok (.aload_n 0, 1) := by decide +kernel
theorem dX7_read_23 : decode cX7_read 23 = .ok (.iconst 0, 1) := by decide +kernel
theorem dX7_read_24 : decode cX7_read 24 = .ok (.putfield 42, 3) := by decide +kernel
theorem dX7_read_27 : decode cX7_read 27 = .ok (.aload_n 0, 1) := by decide +kernel
theorem dX7_read_28 : decode cX7_read 28 = .ok (.iconst 0, 1) := by decide +kernel
theorem dX7_read_29 : decode cX7_read 29 = .ok (.putfield 45, 3) := by decide +kernel
theorem dX7_read_32 : decode cX7_read 32 = .ok (.aload_n 0, 1) := by decide +kernel
theorem dX7_read_33 : decode cX7_read 33 = .ok (.iconst 0, 1) := by decide +kernel
theorem dX7_read_34 : decode cX7_read 34 = .ok (.putfield 48, 3) := by decide +kernel
theorem dX7_read_37 : decode cX7_read 37 = .ok (.aload_n 0, 1) := by decide +kernel
theorem dX7_read_38 : decode cX7_read 38 = .ok (.iconst (-1), 1) := by decide +kernel
theorem dX7_read_39 : decode cX7_read 39 = .ok (.putfield 9, 3) := by decide +kernel
theorem dX7_read_42 : decode cX7_read 42 = .ok (.aload_n 0, 1) := by decide +kernel
theorem dX7_read_43 : decode cX7_read 43 = .ok (.invokevirtual 51, 3) := by decide +kernel
theorem dX7_read_46 : decode cX7_read 46 = .ok (.iconst 0, 1) := by decide +kernel
theorem dX7_read_47 : decode cX7_read 47 = .ok (.istore 4, 2) := by decide +kernel
theorem dX7_read_49 : decode cX7_read 49 = .ok (.iload 4, 2) := by decide +kernel
theorem dX7_read_51 : decode cX7_read 51 = .ok (.aload_n 0, 1) := by decide +kernel
theorem dX7_read_52 : decode cX7_read 52 = .ok (.getfield 54, 3) := by decide +kernel
theorem dX7_read_55 : decode cX7_read 55 = .ok (.if_icmp .ge 34, 3) := by decide +kernel
theorem dX7_read_58 : decode cX7_read 58 = .ok (.aload_n 0, 1) := by decide +kernel
theorem dX7_read_59 : decode cX7_read 59 = .ok (.getfield 48, 3) := by decide +kernel
theorem dX7_read_62 : decode cX7_read 62 = .ok (.ifCond .ne 27, 3) := by decide +kernel
theorem dX7_read_65 : decode cX7_read 65 = .ok (.aload_n 0, 1) := by decide +kernel
theorem dX7_read_66 : decode cX7_read 66 = .ok (.getfield 15, 3) := by decide +kernel
theorem dX7_read_69 : decode cX7_read 69 = .ok (.aload_n 0, 1) := by decide +kernel
theorem dX7_read_70 : decode cX7_read 70 = .ok (.getfield 42, 3) := by decide +kernel
theorem dX7_read_73 : decode cX7_read 73 = .ok (.iaload, 1) := by decide +kernel
theorem dX7_read_74 : decode cX7_read 74 = .ok (.bipush 52, 2) := by decide +kernel
theorem dX7_read_76 : decode cX7_read 76 = .ok (.if_icmp .eq 13, 3) := by decide +kernel
theorem dX7_read_79 : decode cX7_read 79 = .ok (.aload_n 0, 1) := by decide +kernel
theorem dX7_read_80 : decode cX7_read 80 = .ok (.invokevirtual 57, 3) := by decide +kernel
theorem dX7_read_83 : decode cX7_read 83 = .ok (.iinc 4 1, 3) := by decide +kernel
theorem dX7_read_86 : decode cX7_read 86 = .ok (.goto (-37), 3) := by decide +kernel
theorem dX7_read_89 : decode cX7_read 89 = .ok (.aload_n 0, 1) := by decide +kernel
theorem dX7_read_90 : decode cX7_read 90 = .ok (.getfield 48, 3) := by decide +kernel
theorem dX7_read_93 : decode cX7_read 93 = .ok (.ifCond .ne 7, 3) := by decide +kernel
theorem dX7_read_96 : decode cX7_read 96 = .ok (.iconst 1, 1) := by decide +kernel
theorem dX7_read_97 : decode cX7_read 97 = .ok (.goto 4, 3) := by decide +kernel
theorem dX7_read_100 : decode cX7_read 100 = .ok (.iconst 0, 1) := by decide +kernel
theorem dX7_read_101 : decode cX7_read 101 = .ok (.ireturn, 1) := by decide +kernel
theorem dX7_split_0 : decode cX7_split 0 = .ok (.aload_n 0, 1) := by decide +kernel
theorem dX7_split_1 : decode cX7_split 1 = .ok (.iconst 0, 1) := by decide +kernel
theorem dX7_split_2 : decode cX7_split 2 = .ok (.putfield 54, 3) := by decide +kernel
theorem dX7_split_5 : decode cX7_split 5 = .ok (.iconst 0, 1) := by decide +kernel
theorem dX7_split_6 : decode cX7_split 6 = .ok (.istore_n 3, 1) := by decide +kernel
theorem dX7_split_7 : decode cX7_split 7 = .ok (.iload_n 3, 1) := by decide +kernel
theorem dX7_split_8 : decode cX7_split 8 = .ok (.iload_n 1, 1) := by decide +kernel
theorem dX7_split_9 : decode cX7_split 9 = .ok (.if_icmp .ge 160, 3) := by decide +kernel
theorem dX7_split_12 : decode cX7_split 12 = .ok (.iload_n 3, 1) := by decide +kernel
theorem dX7_split_13 : decode cX7_split 13 = .ok (.iconst 1, 1) := by decide +kernel
theorem dX7_split_14 : decode cX7_split 14 = .ok (.iadd, 1) := by decide +kernel
theorem dX7_split_15 : decode cX7_split 15 = .ok (.istore_n 2, 1) := by decide +kernel
theorem dX7_split_16 : decode cX7_split 16 = .ok (.aload_n 0, 1) := by decide +kernel
theorem dX7_split_17 : decode cX7_split 17 = .ok (.getfield 25, 3) := by decide +kernel
theorem dX7_split_20 : decode cX7_split 20 = .ok (.iload_n 3, 1) := by decide +kernel
theorem dX7_split_21 : decode cX7_split 21 = .ok (.baload, 1) := by decide +kernel
theorem dX7_split_22 : decode cX7_split 22 = .ok (.istore 4, 2) := by decide +kernel
theorem dX7_split_24 : decode cX7_split 24 = .ok (.iload 4, 2) := by decide +kernel
theorem dX7_split_26 : decode cX7_split 26 = .ok (.invokestatic 60, 3) := by decide +kernel
theorem dX7_split_29 : decode cX7_split 29 = .ok (.ifCond .eq 41, 3) := by decide +kernel
theorem dX7_split_32 : decode cX7_split 32 = .ok (.iload_n 2, 1) := by decide +kernel
theorem dX7_split_33 : decode cX7_split 33 = .ok (.iload_n 1, 1) := by decide +kernel
theorem dX7_split_34 : decode cX7_split 34 = .ok (.if_icmp .ge 21, 3) := by decide +kernel
theorem dX7_split_37 : decode cX7_split 37 = .ok (.aload_n 0, 1) := by decide +kernel
theorem dX7_split_38 : decode cX7_split 38 = .ok (.getfield 25, 3) := by decide +kernel
theorem dX7_split_41 : decode cX7_split 41 = .ok (.iload_n 2, 1) := by decide +kernel
theorem dX7_split_42 : decode cX7_split 42 = .ok (.baload, 1) := by decide +kernel
theorem dX7_split_43 : decode cX7_split 43 = .ok (.invokestatic 60, 3) := by decide +kernel
theorem dX7_split_46 : decode cX7_split 46 = .ok (.ifCond .eq 9, 3) := by decide +kernel
theorem dX7_split_49 : decode cX7_split 49 = .ok (.iinc 2 1, 3) := by decide +kernel
theorem dX7_split_52 : decode cX7_split 52 = .ok (.goto (-20), 3) := by decide +kernel
theorem dX7_split_55 : decode cX7_split 55 = .ok (.aload_n 0, 1) := by decide +kernel
theorem dX7_split_56 : decode cX7_split 56 = .ok (.aload_n 0, 1) := by decide +kernel
theorem dX7_split_57 : decode cX7_split 57 = .ok (.iload_n 3, 1) := by decide +kernel
theorem dX7_split_58 : decode cX7_split 58 = .ok (.iload_n 2, 1) := by decide +kernel
theorem dX7_split_59 : decode cX7_split 59 = .ok (.invokevirtual 64, 3) := by decide +kernel
theorem dX7_split_62 : decode cX7_split 62 = .ok (.iload_n 3, 1) := by decide +kernel
theorem dX7_split_63 : decode cX7_split 63 = .ok (.iconst 0, 1) := by decide +kernel
theorem dX7_split_64 : decode cX7_split 64 = .ok (.invokevirtual 68, 3) := by decide +kernel
theorem dX7_split_67 : decode cX7_split 67 = .ok (.goto 97, 3) := by decide +kernel
theorem dX7_split_70 : decode cX7_split 70 = .ok (.iload 4, 2) := by decide +kernel
theorem dX7_split_72 : decode cX7_split 72 = .ok (.invokestatic 72, 3) := by decide +kernel
theorem dX7_split_75 : decode cX7_split 75 = .ok (.ifCond .eq 35, 3) := by decide +kernel
theorem dX7_split_78 : decode cX7_split 78 = .ok (.iload_n 2, 1) := by decide +kernel
theorem dX7_split_79 : decode cX7_split 79 = .ok (.iload_n 1, 1) := by decide +kernel
theorem dX7_split_80 : decode cX7_split 80 = .ok (.if_icmp .ge 21, 3) := by decide +kernel
theorem dX7_split_83 : decode cX7_split 83 = .ok (.aload_n 0, 1) := by decide +kernel
theorem dX7_split_84 : decode cX7_split 84 = .ok (.getfield 25, 3) := by decide +kernel
theorem dX7_split_87 : decode cX7_split 87 = .ok (.iload_n 2, 1) := by decide +kernel
theorem dX7_split_88 : decode cX7_split 88 = .ok (.baload, 1) := by decide +kernel
theorem dX7_split_89 : decode cX7_split 89 = .ok (.invokestatic 72, 3) := by decide +kernel
theorem dX7_split_92 : decode cX7_split 92 = .ok (.ifCond .eq 9, 3) := by decide +kernel
theorem dX7_split_95 : decode cX7_split 95 = .ok (.iinc 2 1, 3) := by decide +kernel
theorem dX7_split_98 : decode cX7_split 98 = .ok (.goto (-20), 3) := by decide +kernel
theorem dX7_split_101 : decode cX7_split 101 = .ok (.aload_n 0, 1) := by decide +kernel
theorem dX7_split_102 : decode cX7_split 102 = .ok (.iload_n 3, 1) := by decide +kernel
theorem dX7_split_103 : decode cX7_split 103 = .ok (.iload_n 2, 1) := by decide +kernel
theorem dX7_split_104 : decode cX7_split 104 = .ok (.invokevirtual 75, 3) := by decide +kernel
theorem dX7_split_107 : decode cX7_split 107 = .ok (.goto 57, 3) := by decide +kernel
theorem dX7_split_110 : decode cX7_split 110 = .ok (.iload 4, 2) := by decide +kernel
theorem dX7_split_112 : decode cX7_split 112 = .ok (.bipush 10, 2) := by decide +kernel
theorem dX7_split_114 : decode cX7_split 114 = .ok (.if_icmp .eq 50, 3) := by decide +kernel
theorem dX7_split_117 : decode cX7_split 117 = .ok (.iload 4, 2) := by decide +kernel
theorem dX7_split_119 : decode cX7_split 119 = .ok (.bipush 32, 2) := by decide +kernel
theorem dX7_split_121 : decode cX7_split 121 = .ok (.if_icmp .eq 43, 3) := by decide +kernel
theorem dX7_split_124 : decode cX7_split 124 = .ok (.iload 4, 2) := by decide +kernel
theorem dX7_split_126 : decode cX7_split 126 = .ok (.ifCond .ge 7, 3) := by decide +kernel
theorem dX7_split_129 : decode cX7_split 129 = .ok (.iconst (-1), 1) := by decide +kernel
theorem dX7_split_130 : decode cX7_split 130 = .ok (.goto 11, 3) := by decide +kernel
theorem dX7_split_133 : decode cX7_split 133 = .ok (.ldc 79, 2) := by decide +kernel
theorem dX7_split_135 : decode cX7_split 135 = .ok (.iload 4, 2) := by decide +kernel
theorem dX7_split_137 : decode cX7_split 137 = .ok (.i2c, 1) := by decide +kernel
theorem dX7_split_138 : decode cX7_split 138 = .ok (.invokevirtual 81, 3) := by decide +kernel
theorem dX7_split_141 : decode cX7_split 141 = .ok (.istore 5, 2) := by decide +kernel
theorem dX7_split_143 : decode cX7_split 143 = .ok (.aload_n 0, 1) := by decide +kernel
theorem dX7_split_144 : decode cX7_split 144 = .ok (.iload 5, 2) := by decide +kernel
theorem dX7_split_146 : decode cX7_split 146 = .ok (.ifCond .ge 8, 3) := by decide +kernel
theorem dX7_split_149 : decode cX7_split 149 = .ok (.bipush 53, 2) := by decide +kernel
theorem dX7_split_151 : decode cX7_split 151 = .ok (.goto 8, 3) := by decide +kernel
theorem dX7_split_154 : decode cX7_split 154 = .ok (.bipush 30, 2) := by decide +kernel
theorem dX7_split_156 : decode cX7_split 156 = .ok (.iload 5, 2) := by decide +kernel
theorem dX7_split_158 : decode cX7_split 158 = .ok (.iadd, 1) := by decide +kernel
theorem dX7_split_159 : decode cX7_split 159 = .ok (.iload_n 3, 1) := by decide +kernel
theorem dX7_split_160 : decode cX7_split 160 = .ok (.iconst 0, 1) := by decide +kernel
theorem dX7_split_161 : decode cX7_split 161 = .ok (.invokevirtual 68, 3) := by decide +kernel
theorem dX7_split_164 : decode cX7_split 164 = .ok (.iload_n 2, 1) := by decide +kernel
theorem dX7_split_165 : decode cX7_split 165 = .ok (.istore_n 3, 1) := by decide +kernel
theorem dX7_split_166 : decode cX7_split 166 = .ok (.goto (-159), 3) := by decide +kernel
theorem dX7_split_169 : decode cX7_split 169 = .ok (.aload_n 0, 1) := by decide +kernel
theorem dX7_split_170 : decode cX7_split 170 = .ok (.bipush 52, 2) := by decide +kernel
theorem dX7_split_172 : decode cX7_split 172 = .ok (.iload_n 1, 1) := by decide +kernel
theorem dX7_split_173 : decode cX7_split 173 = .ok (.iconst 0, 1) := by decide +kernel
theorem dX7_split_174 : decode cX7_split 174 = .ok (.invokevirtual 68, 3) := by decide +kernel
theorem dX7_split_177 : decode cX7_split 177 = .ok (.return_, 1) := by decide +kernel
theorem dX7_isLetter_0 : decode cX7_isLetter 0 = .ok (.iload_n 0, 1) := by decide +kernel
theorem dX7_isLetter_1 : decode cX7_isLetter 1 = .ok (.bipush 97, 2) := by decide +kernel
theorem dX7_isLetter_3 : decode cX7_isLetter 3 = .ok (.if_icmp .lt 13, 3) := by decide +kernel
theorem dX7_isLetter_6 : decode cX7_isLetter 6 = .ok (.iload_n 0, 1) := by decide +kernel
theorem dX7_isLetter_7 : decode cX7_isLetter 7 = .ok (.bipush 122, 2) := by decide +kernel
theorem dX7_isLetter_9 : decode cX7_isLetter 9 = .ok (.if_icmp .gt 7, 3) := by decide +kernel
theorem dX7_isLetter_12 : decode cX7_isLetter 12 = .ok (.iconst 1, 1) := by decide +kernel
theorem dX7_isLetter_13 : decode cX7_isLetter 13 = .ok (.goto 4, 3) := by decide +kernel
theorem dX7_isLetter_16 : decode cX7_isLetter 16 = .ok (.iconst 0, 1) := by decide +kernel
theorem dX7_isLetter_17 : decode cX7_isLetter 17 = .ok (.ireturn, 1) := by decide +kernel
theorem dX7_isDigit_0 : decode cX7_isDigit 0 = .ok (.iload_n 0, 1) := by decide +kernel
theorem dX7_isDigit_1 : decode cX7_isDigit 1 = .ok (.bipush 48, 2) := by decide +kernel
theorem dX7_isDigit_3 : decode cX7_isDigit 3 = .ok (.if_icmp .lt 13, 3) := by decide +kernel
theorem dX7_isDigit_6 : decode cX7_isDigit 6 = .ok (.iload_n 0, 1) := by decide +kernel
theorem dX7_isDigit_7 : decode cX7_isDigit 7 = .ok (.bipush 57, 2) := by decide +kernel
theorem dX7_isDigit_9 : decode cX7_isDigit 9 = .ok (.if_icmp .gt 7, 3) := by decide +kernel
theorem dX7_isDigit_12 : decode cX7_isDigit 12 = .ok (.iconst 1, 1) := by decide +kernel
theorem dX7_isDigit_13 : decode cX7_isDigit 13 = .ok (.goto 4, 3) := by decide +kernel
theorem dX7_isDigit_16 : decode cX7_isDigit 16 = .ok (.iconst 0, 1) := by decide +kernel
theorem dX7_isDigit_17 : decode cX7_isDigit 17 = .ok (.ireturn, 1) := by decide +kernel
theorem dX7_putToken_0 : decode cX7_putToken 0 = .ok (.aload_n 0, 1) := by decide +kernel
theorem dX7_putToken_1 : decode cX7_putToken 1 = .ok (.getfield 54, 3) := by decide +kernel
theorem dX7_putToken_4 : decode cX7_putToken 4 = .ok (.aload_n 0, 1) := by decide +kernel
theorem dX7_putToken_5 : decode cX7_putToken 5 = .ok (.getfield 15, 3) := by decide +kernel
theorem dX7_putToken_8 : decode cX7_putToken 8 = .ok (.arraylength, 1) := by decide +kernel
theorem dX7_putToken_9 : decode cX7_putToken 9 = .ok (.if_icmp .ge 43, 3) := by decide +kernel
theorem dX7_putToken_12 : decode cX7_putToken 12 = .ok (.aload_n 0, 1) := by decide +kernel
theorem dX7_putToken_13 : decode cX7_putToken 13 = .ok (.getfield 15, 3) := by decide +kernel
theorem dX7_putToken_16 : decode cX7_putToken 16 = .ok (.aload_n 0, 1) := by decide +kernel
theorem dX7_putToken_17 : decode cX7_putToken 17 = .ok (.getfield 54, 3) := by decide +kernel
theorem dX7_putToken_20 : decode cX7_putToken 20 = .ok (.iload_n 1, 1) := by decide +kernel
theorem dX7_putToken_21 : decode cX7_putToken 21 = .ok (.iastore, 1) := by decide +kernel
theorem dX7_putToken_22 : decode cX7_putToken 22 = .ok (.aload_n 0, 1) := by decide +kernel
theorem dX7_putToken_23 : decode cX7_putToken 23 = .ok (.getfield 19, 3) := by decide +kernel
theorem dX7_putToken_26 : decode cX7_putToken 26 = .ok (.aload_n 0, 1) := by decide +kernel
theorem dX7_putToken_27 : decode cX7_putToken 27 = .ok (.getfield 54, 3) := by decide +kernel
theorem dX7_putToken_30 : decode cX7_putToken 30 = .ok (.iload_n 2, 1) := by decide +kernel
theorem dX7_putToken_31 : decode cX7_putToken 31 = .ok (.iastore, 1) := by decide +kernel
theorem dX7_putToken_32 : decode cX7_putToken 32 = .ok (.aload_n 0, 1) := by decide +kernel
theorem dX7_putToken_33 : decode cX7_putToken 33 = .ok (.getfield 22, 3) := by decide +kernel
theorem dX7_putToken_36 : decode cX7_putToken 36 = .ok (.aload_n 0, 1) := by decide +kernel
theorem dX7_putToken_37 : decode cX7_putToken 37 = .ok (.getfield 54, 3) := by decide +kernel
theorem dX7_putToken_40 : decode cX7_putToken 40 = .ok (.iload_n 3, 1) := by decide +kernel
theorem dX7_putToken_41 : decode cX7_putToken 41 = .ok (.iastore, 1) := by decide +kernel
theorem dX7_putToken_42 : decode cX7_putToken 42 = .ok (.aload_n 0, 1) := by decide +kernel
theorem dX7_putToken_43 : decode cX7_putToken 43 = .ok (.dup, 1) := by decide +kernel
theorem dX7_putToken_44 : decode cX7_putToken 44 = .ok (.getfield 54, 3) := by decide +kernel
theorem dX7_putToken_47 : decode cX7_putToken 47 = .ok (.iconst 1, 1) := by decide +kernel
theorem dX7_putToken_48 : decode cX7_putToken 48 = .ok (.iadd, 1) := by decide +kernel
theorem dX7_putToken_49 : decode cX7_putToken 49 = .ok (.putfield 54, 3) := by decide +kernel
theorem dX7_putToken_52 : decode cX7_putToken 52 = .ok (.return_, 1) := by decide +kernel
theorem dX7_putNumber_0 : decode cX7_putNumber 0 = .ok (.iload_n 2, 1) := by decide +kernel
theorem dX7_putNumber_1 : decode cX7_putNumber 1 = .ok (.iload_n 1, 1) := by decide +kernel
theorem dX7_putNumber_2 : decode cX7_putNumber 2 = .ok (.isub, 1) := by decide +kernel
theorem dX7_putNumber_3 : decode cX7_putNumber 3 = .ok (.iconst 3, 1) := by decide +kernel
theorem dX7_putNumber_4 : decode cX7_putNumber 4 = .ok (.if_icmp .le 12, 3) := by decide +kernel
theorem dX7_putNumber_7 : decode cX7_putNumber 7 = .ok (.aload_n 0, 1) := by decide +kernel
theorem dX7_putNumber_8 : decode cX7_putNumber 8 = .ok (.bipush 53, 2) := by decide +kernel
theorem dX7_putNumber_10 : decode cX7_putNumber 10 = .ok (.iload_n 1, 1) := by decide +kernel
theorem dX7_putNumber_11 : decode cX7_putNumber 11 = .ok (.iconst 0, 1) := by decide +kernel
theorem dX7_putNumber_12 : decode cX7_putNumber 12 = .ok (.invokevirtual 68, 3) := by decide +kernel
theorem dX7_putNumber_15 : decode cX7_putNumber 15 = .ok (.return_, 1) := by decide +kernel
theorem dX7_putNumber_16 : decode cX7_putNumber 16 = .ok (.iconst 0, 1) := by decide +kernel
theorem dX7_putNumber_17 : decode cX7_putNumber 17 = .ok (.istore_n 3, 1) := by decide +kernel
theorem dX7_putNumber_18 : decode cX7_putNumber 18 = .ok (.iload_n 1, 1) := by decide +kernel
theorem dX7_putNumber_19 : decode cX7_putNumber 19 = .ok (.istore 4, 2) := by decide +kernel
theorem dX7_putNumber_21 : decode cX7_putNumber 21 = .ok (.iload 4, 2) := by decide +kernel
theorem dX7_putNumber_23 : decode cX7_putNumber 23 = .ok (.iload_n 2, 1) := by decide +kernel
theorem dX7_putNumber_24 : decode cX7_putNumber 24 = .ok (.if_icmp .ge 25, 3) := by decide +kernel
theorem dX7_putNumber_27 : decode cX7_putNumber 27 = .ok (.iload_n 3, 1) := by decide +kernel
theorem dX7_putNumber_28 : decode cX7_putNumber 28 = .ok (.bipush 10, 2) := by decide +kernel
theorem dX7_putNumber_30 : decode cX7_putNumber 30 = .ok (.imul, 1) := by decide +kernel
theorem dX7_putNumber_31 : decode cX7_putNumber 31 = .ok (.aload_n 0, 1) := by decide +kernel
theorem dX7_putNumber_32 : decode cX7_putNumber 32 = .ok (.getfield 25, 3) := by decide +kernel
theorem dX7_putNumber_35 : decode cX7_putNumber 35 = .ok (.iload 4, 2) := by decide +kernel
theorem dX7_putNumber_37 : decode cX7_putNumber 37 = .ok (.baload, 1) := by decide +kernel
theorem dX7_putNumber_38 : decode cX7_putNumber 38 = .ok (.iadd, 1) := by decide +kernel
theorem dX7_putNumber_39 : decode cX7_putNumber 39 = .ok (.bipush 48, 2) := by decide +kernel
theorem dX7_putNumber_41 : decode cX7_putNumber 41 = .ok (.isub, 1) := by decide +kernel
theorem dX7_putNumber_42 : decode cX7_putNumber 42 = .ok (.istore_n 3, 1) := by decide +kernel
theorem dX7_putNumber_43 : decode cX7_putNumber 43 = .ok (.iinc 4 1, 3) := by decide +kernel
theorem dX7_putNumber_46 : decode cX7_putNumber 46 = .ok (.goto (-25), 3) := by decide +kernel
theorem dX7_putNumber_49 : decode cX7_putNumber 49 = .ok (.aload_n 0, 1) := by decide +kernel
theorem dX7_putNumber_50 : decode cX7_putNumber 50 = .ok (.bipush 50, 2) := by decide +kernel
theorem dX7_putNumber_52 : decode cX7_putNumber 52 = .ok (.iload_n 1, 1) := by decide +kernel
theorem dX7_putNumber_53 : decode cX7_putNumber 53 = .ok (.iload_n 3, 1) := by decide +kernel
theorem dX7_putNumber_54 : decode cX7_putNumber 54 = .ok (.invokevirtual 68, 3) := by decide +kernel
theorem dX7_putNumber_57 : decode cX7_putNumber 57 = .ok (.return_, 1) := by decide +kernel
theorem dX7_wordKind_0 : decode cX7_wordKind 0 = .ok (.iconst 0, 1) := by decide +kernel
theorem dX7_wordKind_1 : decode cX7_wordKind 1 = .ok (.istore_n 3, 1) := by decide +kernel
theorem dX7_wordKind_2 : decode cX7_wordKind 2 = .ok (.iload_n 3, 1) := by decide +kernel
theorem dX7_wordKind_3 : decode cX7_wordKind 3 = .ok (.bipush 24, 2) := by decide +kernel
theorem dX7_wordKind_5 : decode cX7_wordKind 5 = .ok (.if_icmp .ge 85, 3) := by decide +kernel
theorem dX7_wordKind_8 : decode cX7_wordKind 8 = .ok (.iload_n 2, 1) := by decide +kernel
theorem dX7_wordKind_9 : decode cX7_wordKind 9 = .ok (.iload_n 1, 1) := by decide +kernel
theorem dX7_wordKind_10 : decode cX7_wordKind 10 = .ok (.isub, 1) := by decide +kernel
theorem dX7_wordKind_11 : decode cX7_wordKind 11 = .ok (.bipush 8, 2) := by decide +kernel
theorem dX7_wordKind_13 : decode cX7_wordKind 13 = .ok (.if_icmp .ge 77, 3) := by decide +kernel
theorem dX7_wordKind_16 : decode cX7_wordKind 16 = .ok (.iconst 0, 1) := by decide +kernel
theorem dX7_wordKind_17 : decode cX7_wordKind 17 = .ok (.istore 4, 2) := by decide +kernel
theorem dX7_wordKind_19 : decode cX7_wordKind 19 = .ok (.iload_n 1, 1) := by decide +kernel
theorem dX7_wordKind_20 : decode cX7_wordKind 20 = .ok (.iload 4, 2) := by decide +kernel
theorem dX7_wordKind_22 : decode cX7_wordKind 22 = .ok (.iadd, 1) := by decide +kernel
theorem dX7_wordKind_23 : decode cX7_wordKind 23 = .ok (.iload_n 2, 1) := by decide +kernel
theorem dX7_wordKind_24 : decode cX7_wordKind 24 = .ok (.if_icmp .ge 33, 3) := by decide +kernel
theorem dX7_wordKind_27 : decode cX7_wordKind 27 = .ok (.aload_n 0, 1) := by decide +kernel
theorem dX7_wordKind_28 : decode cX7_wordKind 28 = .ok (.getfield 25, 3) := by decide +kernel
theorem dX7_wordKind_31 : decode cX7_wordKind 31 = .ok (.iload_n 1, 1) := by decide +kernel
theorem dX7_wordKind_32 : decode cX7_wordKind 32 = .ok (.iload 4, 2) := by decide +kernel
theorem dX7_wordKind_34 : decode cX7_wordKind 34 = .ok (.iadd, 1) := by decide +kernel
theorem dX7_wordKind_35 : decode cX7_wordKind 35 = .ok (.baload, 1) := by decide +kernel
theorem dX7_wordKind_36 : decode cX7_wordKind 36 = .ok (.ldc 87, 2) := by decide +kernel
theorem dX7_wordKind_38 : decode cX7_wordKind 38 = .ok (.iload_n 3, 1) := by decide +kernel
theorem dX7_wordKind_39 : decode cX7_wordKind 39 = .ok (.bipush 8, 2) := by decide +kernel
theorem dX7_wordKind_41 : decode cX7_wordKind 41 = .ok (.imul, 1) := by decide +kernel
theorem dX7_wordKind_42 : decode cX7_wordKind 42 = .ok (.iload 4, 2) := by decide +kernel
theorem dX7_wordKind_44 : decode cX7_wordKind 44 = .ok (.iadd, 1) := by decide +kernel
theorem dX7_wordKind_45 : decode cX7_wordKind 45 = .ok (.invokevirtual 89, 3) := by decide +kernel
theorem dX7_wordKind_48 : decode cX7_wordKind 48 = .ok (.if_icmp .ne 9, 3) := by decide +kernel
theorem dX7_wordKind_51 : decode cX7_wordKind 51 = .ok (.iinc 4 1, 3) := by decide +kernel
theorem dX7_wordKind_54 : decode cX7_wordKind 54 = .ok (.goto (-35), 3) := by decide +kernel
theorem dX7_wordKind_57 : decode cX7_wordKind 57 = .ok (.iload_n 1, 1) := by decide +kernel
theorem dX7_wordKind_58 : decode cX7_wordKind 58 = .ok (.iload 4, 2) := by decide +kernel
theorem dX7_wordKind_60 : decode cX7_wordKind 60 = .ok (.iadd, 1) := by decide +kernel
theorem dX7_wordKind_61 : decode cX7_wordKind 61 = .ok (.iload_n 2, 1) := by decide +kernel
theorem dX7_wordKind_62 : decode cX7_wordKind 62 = .ok (.if_icmp .ne 22, 3) := by decide +kernel
theorem dX7_wordKind_65 : decode cX7_wordKind 65 = .ok (.ldc 87, 2) := by decide +kernel
theorem dX7_wordKind_67 : decode cX7_wordKind 67 = .ok (.iload_n 3, 1) := by decide +kernel
theorem dX7_wordKind_68 : decode cX7_wordKind 68 = .ok (.bipush 8, 2) := by decide +kernel
theorem dX7_wordKind_70 : decode cX7_wordKind 70 = .ok (.imul, 1) := by decide +kernel
theorem dX7_wordKind_71 : decode cX7_wordKind 71 = .ok (.iload 4, 2) := by decide +kernel
theorem dX7_wordKind_73 : decode cX7_wordKind 73 = .ok (.iadd, 1) := by decide +kernel
theorem dX7_wordKind_74 : decode cX7_wordKind 74 = .ok (.invokevirtual 89, 3) := by decide +kernel
theorem dX7_wordKind_77 : decode cX7_wordKind 77 = .ok (.bipush 32, 2) := by decide +kernel
theorem dX7_wordKind_79 : decode cX7_wordKind 79 = .ok (.if_icmp .ne 5, 3) := by decide +kernel
theorem dX7_wordKind_82 : decode cX7_wordKind 82 = .ok (.iload_n 3, 1) := by decide +kernel
theorem dX7_wordKind_83 : decode cX7_wordKind 83 = .ok (.ireturn, 1) := by decide +kernel
theorem dX7_wordKind_84 : decode cX7_wordKind 84 = .ok (.iinc 3 1, 3) := by decide +kernel
theorem dX7_wordKind_87 : decode cX7_wordKind 87 = .ok (.goto (-85), 3) := by decide +kernel
theorem dX7_wordKind_90 : decode cX7_wordKind 90 = .ok (.bipush 51, 2) := by decide +kernel
theorem dX7_wordKind_92 : decode cX7_wordKind 92 = .ok (.ireturn, 1) := by decide +kernel
theorem dX7_fail_0 : decode cX7_fail 0 = .ok (.aload_n 0, 1) := by decide +kernel
theorem dX7_fail_1 : decode cX7_fail 1 = .ok (.getfield 48, 3) := by decide +kernel
theorem dX7_fail_4 : decode cX7_fail 4 = .ok (.ifCond .ne 39, 3) := by decide +kernel
theorem dX7_fail_7 : decode cX7_fail 7 = .ok (.aload_n 0, 1) := by decide +kernel
theorem dX7_fail_8 : decode cX7_fail 8 = .ok (.aload_n 0, 1) := by decide +kernel
theorem dX7_fail_9 : decode cX7_fail 9 = .ok (.getfield 15, 3) := by decide +kernel
theorem dX7_fail_12 : decode cX7_fail 12 = .ok (.aload_n 0, 1) := by decide +kernel
theorem dX7_fail_13 : decode cX7_fail 13 = .ok (.getfield 42, 3) := by decide +kernel
theorem dX7_fail_16 : decode cX7_fail 16 = .ok (.iaload, 1) := by decide +kernel
theorem dX7_fail_17 : decode cX7_fail 17 = .ok (.bipush 53, 2) := by decide +kernel
theorem dX7_fail_19 : decode cX7_fail 19 = .ok (.if_icmp .ne 7, 3) := by decide +kernel
theorem dX7_fail_22 : decode cX7_fail 22 = .ok (.iconst 1, 1) := by decide +kernel
theorem dX7_fail_23 : decode cX7_fail 23 = .ok (.goto 4, 3) := by decide +kernel
theorem dX7_fail_26 : decode cX7_fail 26 = .ok (.iload_n 1, 1) := by decide +kernel
theorem dX7_fail_27 : decode cX7_fail 27 = .ok (.putfield 48, 3) := by decide +kernel
theorem dX7_fail_30 : decode cX7_fail 30 = .ok (.aload_n 0, 1) := by decide +kernel
theorem dX7_fail_31 : decode cX7_fail 31 = .ok (.aload_n 0, 1) := by decide +kernel
theorem dX7_fail_32 : decode cX7_fail 32 = .ok (.getfield 19, 3) := by decide +kernel
theorem dX7_fail_35 : decode cX7_fail 35 = .ok (.aload_n 0, 1) := by decide +kernel
theorem dX7_fail_36 : decode cX7_fail 36 = .ok (.getfield 42, 3) := by decide +kernel
theorem dX7_fail_39 : decode cX7_fail 39 = .ok (.iaload, 1) := by decide +kernel
theorem dX7_fail_40 : decode cX7_fail 40 = .ok (.putfield 9, 3) := by decide +kernel
theorem dX7_fail_43 : decode cX7_fail 43 = .ok (.return_, 1) := by decide +kernel
theorem dX7_isAt_0 : decode cX7_isAt 0 = .ok (.aload_n 0, 1) := by decide +kernel
theorem dX7_isAt_1 : decode cX7_isAt 1 = .ok (.getfield 48, 3) := by decide +kernel
theorem dX7_isAt_4 : decode cX7_isAt 4 = .ok (.ifCond .ne 20, 3) := by decide +kernel
theorem dX7_isAt_7 : decode cX7_isAt 7 = .ok (.aload_n 0, 1) := by decide +kernel
theorem dX7_isAt_8 : decode cX7_isAt 8 = .ok (.getfield 15, 3) := by decide +kernel
theorem dX7_isAt_11 : decode cX7_isAt 11 = .ok (.aload_n 0, 1) := by decide +kernel
theorem dX7_isAt_12 : decode cX7_isAt 12 = .ok (.getfield 42, 3) := by decide +kernel
theorem dX7_isAt_15 : decode cX7_isAt 15 = .ok (.iaload, 1) := by decide +kernel
theorem dX7_isAt_16 : decode cX7_isAt 16 = .ok (.iload_n 1, 1) := by decide +kernel
theorem dX7_isAt_17 : decode cX7_isAt 17 = .ok (.if_icmp .ne 7, 3) := by decide +kernel
theorem dX7_isAt_20 : decode cX7_isAt 20 = .ok (.iconst 1, 1) := by decide +kernel
theorem dX7_isAt_21 : decode cX7_isAt 21 = .ok (.goto 4, 3) := by decide +kernel
theorem dX7_isAt_24 : decode cX7_isAt 24 = .ok (.iconst 0, 1) := by decide +kernel
theorem dX7_isAt_25 : decode cX7_isAt 25 = .ok (.ireturn, 1) := by decide +kernel
theorem dX7_step_0 : decode cX7_step 0 = .ok (.aload_n 0, 1) := by decide +kernel
theorem dX7_step_1 : decode cX7_step 1 = .ok (.getfield 48, 3) := by decide +kernel
theorem dX7_step_4 : decode cX7_step 4 = .ok (.ifCond .ne 26, 3) := by decide +kernel
theorem dX7_step_7 : decode cX7_step 7 = .ok (.aload_n 0, 1) := by decide +kernel
theorem dX7_step_8 : decode cX7_step 8 = .ok (.getfield 42, 3) := by decide +kernel
theorem dX7_step_11 : decode cX7_step 11 = .ok (.iconst 1, 1) := by decide +kernel
theorem dX7_step_12 : decode cX7_step 12 = .ok (.iadd, 1) := by decide +kernel
theorem dX7_step_13 : decode cX7_step 13 = .ok (.aload_n 0, 1) := by decide +kernel
theorem dX7_step_14 : decode cX7_step 14 = .ok (.getfield 54, 3) := by decide +kernel
theorem dX7_step_17 : decode cX7_step 17 = .ok (.if_icmp .ge 13, 3) := by decide +kernel
theorem dX7_step_20 : decode cX7_step 20 = .ok (.aload_n 0, 1) := by decide +kernel
theorem dX7_step_21 : decode cX7_step 21 = .ok (.dup, 1) := by decide +kernel
theorem dX7_step_22 : decode cX7_step 22 = .ok (.getfield 42, 3) := by decide +kernel
theorem dX7_step_25 : decode cX7_step 25 = .ok (.iconst 1, 1) := by decide +kernel
theorem dX7_step_26 : decode cX7_step 26 = .ok (.iadd, 1) := by decide +kernel
theorem dX7_step_27 : decode cX7_step 27 = .ok (.putfield 42, 3) := by decide +kernel
theorem dX7_step_30 : decode cX7_step 30 = .ok (.return_, 1) := by decide +kernel
theorem dX7_expect_0 : decode cX7_expect 0 = .ok (.aload_n 0, 1) := by decide +kernel
theorem dX7_expect_1 : decode cX7_expect 1 = .ok (.iload_n 1, 1) := by decide +kernel
theorem dX7_expect_2 : decode cX7_expect 2 = .ok (.invokevirtual 93, 3) := by decide +kernel
theorem dX7_expect_5 : decode cX7_expect 5 = .ok (.ifCond .eq 10, 3) := by decide +kernel
theorem dX7_expect_8 : decode cX7_expect 8 = .ok (.aload_n 0, 1) := by decide +kernel
theorem dX7_expect_9 : decode cX7_expect 9 = .ok (.invokevirtual 96, 3) := by decide +kernel
theorem dX7_expect_12 : decode cX7_expect 12 = .ok (.goto 8, 3) := by decide +kernel
theorem dX7_expect_15 : decode cX7_expect 15 = .ok (.aload_n 0, 1) := by decide +kernel
theorem dX7_expect_16 : decode cX7_expect 16 = .ok (.iconst 2, 1) := by decide +kernel
theorem dX7_expect_17 : decode cX7_expect 17 = .ok (.invokevirtual 99, 3) := by decide +kernel
theorem dX7_expect_20 : decode cX7_expect 20 = .ok (.return_, 1) := by decide +kernel
theorem dX7_readNumber_0 : decode cX7_readNumber 0 = .ok (.aload_n 0, 1) := by decide +kernel
theorem dX7_readNumber_1 : decode cX7_readNumber 1 = .ok (.bipush 50, 2) := by decide +kernel
theorem dX7_readNumber_3 : decode cX7_readNumber 3 = .ok (.invokevirtual 93, 3) := by decide +kernel
theorem dX7_readNumber_6 : decode cX7_readNumber 6 = .ok (.ifCond .ne 10, 3) := by decide +kernel
theorem dX7_readNumber_9 : decode cX7_readNumber 9 = .ok (.aload_n 0, 1) := by decide +kernel
theorem dX7_readNumber_10 : decode cX7_readNumber 10 = .ok (.iconst 2, 1) := by decide +kernel
theorem dX7_readNumber_11 : decode cX7_readNumber 11 = .ok (.invokevirtual 99, 3) := by decide +kernel
theorem dX7_readNumber_14 : decode cX7_readNumber 14 = .ok (.iconst 0, 1) := by decide +kernel
theorem dX7_readNumber_15 : decode cX7_readNumber 15 = .ok (.ireturn, 1) := by decide +kernel
theorem dX7_readNumber_16 : decode cX7_readNumber 16 = .ok (.aload_n 0, 1) := by decide +kernel
theorem dX7_readNumber_17 : decode cX7_readNumber 17 = .ok (.getfield 22, 3) := by decide +kernel
theorem dX7_readNumber_20 : decode cX7_readNumber 20 = .ok (.aload_n 0, 1) := by decide +kernel
theorem dX7_readNumber_21 : decode cX7_readNumber 21 = .ok (.getfield 42, 3) := by decide +kernel
theorem dX7_readNumber_24 : decode cX7_readNumber 24 = .ok (.iaload, 1) := by decide +kernel
theorem dX7_readNumber_25 : decode cX7_readNumber 25 = .ok (.istore_n 3, 1) := by decide +kernel
theorem dX7_readNumber_26 : decode cX7_readNumber 26 = .ok (.iload_n 3, 1) := by decide +kernel
theorem dX7_readNumber_27 : decode cX7_readNumber 27 = .ok (.iload_n 1, 1) := by decide +kernel
theorem dX7_readNumber_28 : decode cX7_readNumber 28 = .ok (.if_icmp .lt 8, 3) := by decide +kernel
theorem dX7_readNumber_31 : decode cX7_readNumber 31 = .ok (.iload_n 3, 1) := by decide +kernel
theorem dX7_readNumber_32 : decode cX7_readNumber 32 = .ok (.iload_n 2, 1) := by decide +kernel
theorem dX7_readNumber_33 : decode cX7_readNumber 33 = .ok (.if_icmp .le 10, 3) := by decide +kernel
theorem dX7_readNumber_36 : decode cX7_readNumber 36 = .ok (.aload_n 0, 1) := by decide +kernel
theorem dX7_readNumber_37 : decode cX7_readNumber 37 = .ok (.iconst 3, 1) := by decide +kernel
theorem dX7_readNumber_38 : decode cX7_readNumber 38 = .ok (.invokevirtual 99, 3) := by decide +kernel
theorem dX7_readNumber_41 : decode cX7_readNumber 41 = .ok (.iconst 0, 1) := by decide +kernel
theorem dX7_readNumber_42 : decode cX7_readNumber 42 = .ok (.ireturn, 1) := by decide +kernel
theorem dX7_readNumber_43 : decode cX7_readNumber 43 = .ok (.aload_n 0, 1) := by decide +kernel
theorem dX7_readNumber_44 : decode cX7_readNumber 44 = .ok (.invokevirtual 96, 3) := by decide +kernel
theorem dX7_readNumber_47 : decode cX7_readNumber 47 = .ok (.iload_n 3, 1) := by decide +kernel
theorem dX7_readNumber_48 : decode cX7_readNumber 48 = .ok (.ireturn, 1) := by decide +kernel
theorem dX7_readFirstLine_0 : decode cX7_readFirstLine 0 = .ok (.aload_n 0, 1) := by decide +kernel
theorem dX7_readFirstLine_1 : decode cX7_readFirstLine 1 = .ok (.iconst 0, 1) := by decide +kernel
theorem dX7_readFirstLine_2 : decode cX7_readFirstLine 2 = .ok (.invokevirtual 102, 3) := by decide +kernel
theorem dX7_readFirstLine_5 : decode cX7_readFirstLine 5 = .ok (.aload_n 0, 1) := by decide +kernel
theorem dX7_readFirstLine_6 : decode cX7_readFirstLine 6 = .ok (.getfield 29, 3) := by decide +kernel
theorem dX7_readFirstLine_9 : decode cX7_readFirstLine 9 = .ok (.aload_n 0, 1) := by decide +kernel
theorem dX7_readFirstLine_10 : decode cX7_readFirstLine 10 = .ok (.iconst 1, 1) := by decide +kernel
theorem dX7_readFirstLine_11 : decode cX7_readFirstLine 11 = .ok (.bipush 8, 2) := by decide +kernel
theorem dX7_readFirstLine_13 : decode cX7_readFirstLine 13 = .ok (.invokevirtual 105, 3) := by decide +kernel
theorem dX7_readFirstLine_16 : decode cX7_readFirstLine 16 = .ok (.putfield 108, 3) := by decide +kernel
theorem dX7_readFirstLine_19 : decode cX7_readFirstLine 19 = .ok (.aload_n 0, 1) := by decide +kernel
theorem dX7_readFirstLine_20 : decode cX7_readFirstLine 20 = .ok (.getfield 29, 3) := by decide +kernel
theorem dX7_readFirstLine_23 : decode cX7_readFirstLine 23 = .ok (.aload_n 0, 1) := by decide +kernel
theorem dX7_readFirstLine_24 : decode cX7_readFirstLine 24 = .ok (.iconst 1, 1) := by decide +kernel
theorem dX7_readFirstLine_25 : decode cX7_readFirstLine 25 = .ok (.bipush 8, 2) := by decide +kernel
theorem dX7_readFirstLine_27 : decode cX7_readFirstLine 27 = .ok (.invokevirtual 105, 3) := by decide +kernel
theorem dX7_readFirstLine_30 : decode cX7_readFirstLine 30 = .ok (.putfield 111, 3) := by decide +kernel
theorem dX7_readFirstLine_33 : decode cX7_readFirstLine 33 = .ok (.aload_n 0, 1) := by decide +kernel
theorem dX7_readFirstLine_34 : decode cX7_readFirstLine 34 = .ok (.bipush 30, 2) := by decide +kernel
theorem dX7_readFirstLine_36 : decode cX7_readFirstLine 36 = .ok (.invokevirtual 102, 3) := by decide +kernel
theorem dX7_readFirstLine_39 : decode cX7_readFirstLine 39 = .ok (.aload_n 0, 1) := by decide +kernel
theorem dX7_readFirstLine_40 : decode cX7_readFirstLine 40 = .ok (.getfield 29, 3) := by decide +kernel
theorem dX7_readFirstLine_43 : decode cX7_readFirstLine 43 = .ok (.iconst 1, 1) := by decide +kernel
theorem dX7_readFirstLine_44 : decode cX7_readFirstLine 44 = .ok (.putfield 114, 3) := by decide +kernel
theorem dX7_readFirstLine_47 : decode cX7_readFirstLine 47 = .ok (.return_, 1) := by decide +kernel
theorem dX7_readLine_0 : decode cX7_readLine 0 = .ok (.aload_n 0, 1) := by decide +kernel
theorem dX7_readLine_1 : decode cX7_readLine 1 = .ok (.getfield 15, 3) := by decide +kernel
theorem dX7_readLine_4 : decode cX7_readLine 4 = .ok (.aload_n 0, 1) := by decide +kernel
theorem dX7_readLine_5 : decode cX7_readLine 5 = .ok (.getfield 42, 3) := by decide +kernel
theorem dX7_readLine_8 : decode cX7_readLine 8 = .ok (.iaload, 1) := by decide +kernel
theorem dX7_readLine_9 : decode cX7_readLine 9 = .ok (.tableswitch 137 1 15 #[75, 82, 137, 137, 113, 121, 129, 137, 137, 137, 137, 137, 137, 137, 89], 75) := by decide +kernel
theorem dX7_readLine_84 : decode cX7_readLine 84 = .ok (.aload_n 0, 1) := by decide +kernel
theorem dX7_readLine_85 : decode cX7_readLine 85 = .ok (.invokevirtual 117, 3) := by decide +kernel
theorem dX7_readLine_88 : decode cX7_readLine 88 = .ok (.goto 63, 3) := by decide +kernel
theorem dX7_readLine_91 : decode cX7_readLine 91 = .ok (.aload_n 0, 1) := by decide +kernel
theorem dX7_readLine_92 : decode cX7_readLine 92 = .ok (.invokevirtual 120, 3) := by decide +kernel
theorem dX7_readLine_95 : decode cX7_readLine 95 = .ok (.goto 56, 3) := by decide +kernel
theorem dX7_readLine_98 : decode cX7_readLine 98 = .ok (.aload_n 0, 1) := by decide +kernel
theorem dX7_readLine_99 : decode cX7_readLine 99 = .ok (.invokevirtual 96, 3) := by decide +kernel
theorem dX7_readLine_102 : decode cX7_readLine 102 = .ok (.aload_n 0, 1) := by decide +kernel
theorem dX7_readLine_103 : decode cX7_readLine 103 = .ok (.getfield 29, 3) := by decide +kernel
theorem dX7_readLine_106 : decode cX7_readLine 106 = .ok (.getfield 123, 3) := by decide +kernel
theorem dX7_readLine_109 : decode cX7_readLine 109 = .ok (.aload_n 0, 1) := by decide +kernel
theorem dX7_readLine_110 : decode cX7_readLine 110 = .ok (.iconst 0, 1) := by decide +kernel
theorem dX7_readLine_111 : decode cX7_readLine 111 = .ok (.bipush 9, 2) := by decide +kernel
theorem dX7_readLine_113 : decode cX7_readLine 113 = .ok (.invokevirtual 105, 3) := by decide +kernel
theorem dX7_readLine_116 : decode cX7_readLine 116 = .ok (.putfield 127, 3) := by decide +kernel
theorem dX7_readLine_119 : decode cX7_readLine 119 = .ok (.goto 32, 3) := by decide +kernel
theorem dX7_readLine_122 : decode cX7_readLine 122 = .ok (.aload_n 0, 1) := by decide +kernel
theorem dX7_readLine_123 : decode cX7_readLine 123 = .ok (.iconst 0, 1) := by decide +kernel
theorem dX7_readLine_124 : decode cX7_readLine 124 = .ok (.invokevirtual 132, 3) := by decide +kernel
theorem dX7_readLine_127 : decode cX7_readLine 127 = .ok (.goto 24, 3) := by decide +kernel
theorem dX7_readLine_130 : decode cX7_readLine 130 = .ok (.aload_n 0, 1) := by decide +kernel
theorem dX7_readLine_131 : decode cX7_readLine 131 = .ok (.iconst 1, 1) := by decide +kernel
theorem dX7_readLine_132 : decode cX7_readLine 132 = .ok (.invokevirtual 132, 3) := by decide +kernel
theorem dX7_readLine_135 : decode cX7_readLine 135 = .ok (.goto 16, 3) := by decide +kernel
theorem dX7_readLine_138 : decode cX7_readLine 138 = .ok (.aload_n 0, 1) := by decide +kernel
theorem dX7_readLine_139 : decode cX7_readLine 139 = .ok (.iconst 2, 1) := by decide +kernel
theorem dX7_readLine_140 : decode cX7_readLine 140 = .ok (.invokevirtual 132, 3) := by decide +kernel
theorem dX7_readLine_143 : decode cX7_readLine 143 = .ok (.goto 8, 3) := by decide +kernel
theorem dX7_readLine_146 : decode cX7_readLine 146 = .ok (.aload_n 0, 1) := by decide +kernel
theorem dX7_readLine_147 : decode cX7_readLine 147 = .ok (.iconst 2, 1) := by decide +kernel
theorem dX7_readLine_148 : decode cX7_readLine 148 = .ok (.invokevirtual 99, 3) := by decide +kernel
theorem dX7_readLine_151 : decode cX7_readLine 151 = .ok (.aload_n 0, 1) := by decide +kernel
theorem dX7_readLine_152 : decode cX7_readLine 152 = .ok (.bipush 30, 2) := by decide +kernel
theorem dX7_readLine_154 : decode cX7_readLine 154 = .ok (.invokevirtual 102, 3) := by decide +kernel
theorem dX7_readLine_157 : decode cX7_readLine 157 = .ok (.aload_n 0, 1) := by decide +kernel
theorem dX7_readLine_158 : decode cX7_readLine 158 = .ok (.getfield 29, 3) := by decide +kernel
theorem dX7_readLine_161 : decode cX7_readLine 161 = .ok (.dup, 1) := by decide +kernel
theorem dX7_readLine_162 : decode cX7_readLine 162 = .ok (.getfield 114, 3) := by decide +kernel
theorem dX7_readLine_165 : decode cX7_readLine 165 = .ok (.iconst 1, 1) := by decide +kernel
theorem dX7_readLine_166 : decode cX7_readLine 166 = .ok (.iadd, 1) := by decide +kernel
theorem dX7_readLine_167 : decode cX7_readLine 167 = .ok (.putfield 114, 3) := by decide +kernel
theorem dX7_readLine_170 : decode cX7_readLine 170 = .ok (.return_, 1) := by decide +kernel
theorem dX7_readPerson_0 : decode cX7_readPerson 0 = .ok (.aload_n 0, 1) := by decide +kernel
theorem dX7_readPerson_1 : decode cX7_readPerson 1 = .ok (.getfield 29, 3) := by decide +kernel
theorem dX7_readPerson_4 : decode cX7_readPerson 4 = .ok (.getfield 135, 3) := by decide +kernel
theorem dX7_readPerson_7 : decode cX7_readPerson 7 = .ok (.istore_n 1, 1) := by decide +kernel
theorem dX7_readPerson_8 : decode cX7_readPerson 8 = .ok (.iload_n 1, 1) := by decide +kernel
theorem dX7_readPerson_9 : decode cX7_readPerson 9 = .ok (.bipush 6, 2) := by decide +kernel
theorem dX7_readPerson_11 : decode cX7_readPerson 11 = .ok (.if_icmp .lt 9, 3) := by decide +kernel
theorem dX7_readPerson_14 : decode cX7_readPerson 14 = .ok (.aload_n 0, 1) := by decide +kernel
theorem dX7_readPerson_15 : decode cX7_readPerson 15 = .ok (.iconst 4, 1) := by decide +kernel
theorem dX7_readPerson_16 : decode cX7_readPerson 16 = .ok (.invokevirtual 99, 3) := by decide +kernel
theorem dX7_readPerson_19 : decode cX7_readPerson 19 = .ok (.return_, 1) := by decide +kernel
theorem dX7_readPerson_20 : decode cX7_readPerson 20 = .ok (.aload_n 0, 1) := by decide +kernel
theorem dX7_readPerson_21 : decode cX7_readPerson 21 = .ok (.invokevirtual 96, 3) := by decide +kernel
theorem dX7_readPerson_24 : decode cX7_readPerson 24 = .ok (.aload_n 0, 1) := by decide +kernel
theorem dX7_readPerson_25 : decode cX7_readPerson 25 = .ok (.getfield 29, 3) := by decide +kernel
theorem dX7_readPerson_28 : decode cX7_readPerson 28 = .ok (.getfield 123, 3) := by decide +kernel
theorem dX7_readPerson_31 : decode cX7_readPerson 31 = .ok (.getfield 138, 3) := by decide +kernel
theorem dX7_readPerson_34 : decode cX7_readPerson 34 = .ok (.iload_n 1, 1) := by decide +kernel
theorem dX7_readPerson_35 : decode cX7_readPerson 35 = .ok (.aload_n 0, 1) := by decide +kernel
theorem dX7_readPerson_36 : decode cX7_readPerson 36 = .ok (.iconst 0, 1) := by decide +kernel
theorem dX7_readPerson_37 : decode cX7_readPerson 37 = .ok (.aload_n 0, 1) := by decide +kernel
theorem dX7_readPerson_38 : decode cX7_readPerson 38 = .ok (.getfield 29, 3) := by decide +kernel
theorem dX7_readPerson_41 : decode cX7_readPerson 41 = .ok (.invokevirtual 141, 3) := by decide +kernel
theorem dX7_readPerson_44 : decode cX7_readPerson 44 = .ok (.iconst 1, 1) := by decide +kernel
theorem dX7_readPerson_45 : decode cX7_readPerson 45 = .ok (.isub, 1) := by decide +kernel
theorem dX7_readPerson_46 : decode cX7_readPerson 46 = .ok (.invokevirtual 105, 3) := by decide +kernel
theorem dX7_readPerson_49 : decode cX7_readPerson 49 = .ok (.iastore, 1) := by decide +kernel
theorem dX7_readPerson_50 : decode cX7_readPerson 50 = .ok (.aload_n 0, 1) := by decide +kernel
theorem dX7_readPerson_51 : decode cX7_readPerson 51 = .ok (.getfield 29, 3) := by decide +kernel
theorem dX7_readPerson_54 : decode cX7_readPerson 54 = .ok (.getfield 145, 3) := by decide +kernel
theorem dX7_readPerson_57 : decode cX7_readPerson 57 = .ok (.iload_n 1, 1) := by decide +kernel
theorem dX7_readPerson_58 : decode cX7_readPerson 58 = .ok (.iconst 0, 1) := by decide +kernel
theorem dX7_readPerson_59 : decode cX7_readPerson 59 = .ok (.iastore, 1) := by decide +kernel
theorem dX7_readPerson_60 : decode cX7_readPerson 60 = .ok (.aload_n 0, 1) := by decide +kernel
theorem dX7_readPerson_61 : decode cX7_readPerson 61 = .ok (.getfield 29, 3) := by decide +kernel
theorem dX7_readPerson_64 : decode cX7_readPerson 64 = .ok (.getfield 148, 3) := by decide +kernel
theorem dX7_readPerson_67 : decode cX7_readPerson 67 = .ok (.iload_n 1, 1) := by decide +kernel
theorem dX7_readPerson_68 : decode cX7_readPerson 68 = .ok (.iconst 0, 1) := by decide +kernel
theorem dX7_readPerson_69 : decode cX7_readPerson 69 = .ok (.iastore, 1) := by decide +kernel
theorem dX7_readPerson_70 : decode cX7_readPerson 70 = .ok (.aload_n 0, 1) := by decide +kernel
theorem dX7_readPerson_71 : decode cX7_readPerson 71 = .ok (.getfield 29, 3) := by decide +kernel
theorem dX7_readPerson_74 : decode cX7_readPerson 74 = .ok (.getfield 151, 3) := by decide +kernel
theorem dX7_readPerson_77 : decode cX7_readPerson 77 = .ok (.iload_n 1, 1) := by decide +kernel
theorem dX7_readPerson_78 : decode cX7_readPerson 78 = .ok (.iconst 0, 1) := by decide +kernel
theorem dX7_readPerson_79 : decode cX7_readPerson 79 = .ok (.iastore, 1) := by decide +kernel
theorem dX7_readPerson_80 : decode cX7_readPerson 80 = .ok (.aload_n 0, 1) := by decide +kernel
theorem dX7_readPerson_81 : decode cX7_readPerson 81 = .ok (.getfield 54, 3) := by decide +kernel
theorem dX7_readPerson_84 : decode cX7_readPerson 84 = .ok (.istore_n 2, 1) := by decide +kernel
theorem dX7_readPerson_85 : decode cX7_readPerson 85 = .ok (.iload_n 2, 1) := by decide +kernel
theorem dX7_readPerson_86 : decode cX7_readPerson 86 = .ok (.ifCond .le 110, 3) := by decide +kernel
theorem dX7_readPerson_89 : decode cX7_readPerson 89 = .ok (.aload_n 0, 1) := by decide +kernel
theorem dX7_readPerson_90 : decode cX7_readPerson 90 = .ok (.bipush 16, 2) := by decide +kernel
theorem dX7_readPerson_92 : decode cX7_readPerson 92 = .ok (.invokevirtual 93, 3) := by decide +kernel
theorem dX7_readPerson_95 : decode cX7_readPerson 95 = .ok (.ifCond .ne 21, 3) := by decide +kernel
theorem dX7_readPerson_98 : decode cX7_readPerson 98 = .ok (.aload_n 0, 1) := by decide +kernel
theorem dX7_readPerson_99 : decode cX7_readPerson 99 = .ok (.bipush 17, 2) := by decide +kernel
theorem dX7_readPerson_101 : decode cX7_readPerson 101 = .ok (.invokevirtual 93, 3) := by decide +kernel
theorem dX7_readPerson_104 : decode cX7_readPerson 104 = .ok (.ifCond .ne 12, 3) := by decide +kernel
theorem dX7_readPerson_107 : decode cX7_readPerson 107 = .ok (.aload_n 0, 1) := by decide +kernel
theorem dX7_readPerson_108 : decode cX7_readPerson 108 = .ok (.bipush 18, 2) := by decide +kernel
theorem dX7_readPerson_110 : decode cX7_readPerson 110 = .ok (.invokevirtual 93, 3) := by decide +kernel
theorem dX7_readPerson_113 : decode cX7_readPerson 113 = .ok (.ifCond .eq 83, 3) := by decide +kernel
theorem dX7_readPerson_116 : decode cX7_readPerson 116 = .ok (.aload_n 0, 1) := by decide +kernel
theorem dX7_readPerson_117 : decode cX7_readPerson 117 = .ok (.getfield 15, 3) := by decide +kernel
theorem dX7_readPerson_120 : decode cX7_readPerson 120 = .ok (.aload_n 0, 1) := by decide +kernel
theorem dX7_readPerson_121 : decode cX7_readPerson 121 = .ok (.getfield 42, 3) := by decide +kernel
theorem dX7_readPerson_124 : decode cX7_readPerson 124 = .ok (.iaload, 1) := by decide +kernel
theorem dX7_readPerson_125 : decode cX7_readPerson 125 = .ok (.istore_n 3, 1) := by decide +kernel
theorem dX7_readPerson_126 : decode cX7_readPerson 126 = .ok (.aload_n 0, 1) := by decide +kernel
theorem dX7_readPerson_127 : decode cX7_readPerson 127 = .ok (.invokevirtual 96, 3) := by decide +kernel
theorem dX7_readPerson_130 : decode cX7_readPerson 130 = .ok (.aload_n 0, 1) := by decide +kernel
theorem dX7_readPerson_131 : decode cX7_readPerson 131 = .ok (.iconst 0, 1) := by decide +kernel
theorem dX7_readPerson_132 : decode cX7_readPerson 132 = .ok (.bipush 9, 2) := by decide +kernel
theorem dX7_readPerson_134 : decode cX7_readPerson 134 = .ok (.invokevirtual 105, 3) := by decide +kernel
theorem dX7_readPerson_137 : decode cX7_readPerson 137 = .ok (.istore 4, 2) := by decide +kernel
theorem dX7_readPerson_139 : decode cX7_readPerson 139 = .ok (.iload_n 3, 1) := by decide +kernel
theorem dX7_readPerson_140 : decode cX7_readPerson 140 = .ok (.bipush 16, 2) := by decide +kernel
theorem dX7_readPerson_142 : decode cX7_readPerson 142 = .ok (.if_icmp .ne 17, 3) := by decide +kernel
theorem dX7_readPerson_145 : decode cX7_readPerson 145 = .ok (.aload_n 0, 1) := by decide +kernel
theorem dX7_readPerson_146 : decode cX7_readPerson 146 = .ok (.getfield 29, 3) := by decide +kernel
theorem dX7_readPerson_149 : decode cX7_readPerson 149 = .ok (.getfield 145, 3) := by decide +kernel
theorem dX7_readPerson_152 : decode cX7_readPerson 152 = .ok (.iload_n 1, 1) := by decide +kernel
theorem dX7_readPerson_153 : decode cX7_readPerson 153 = .ok (.iload 4, 2) := by decide +kernel
theorem dX7_readPerson_155 : decode cX7_readPerson 155 = .ok (.iastore, 1) := by decide +kernel
theorem dX7_readPerson_156 : decode cX7_readPerson 156 = .ok (.goto 34, 3) := by decide +kernel
theorem dX7_readPerson_159 : decode cX7_readPerson 159 = .ok (.iload_n 3, 1) := by decide +kernel
theorem dX7_readPerson_160 : decode cX7_readPerson 160 = .ok (.bipush 17, 2) := by decide +kernel
theorem dX7_readPerson_162 : decode cX7_readPerson 162 = .ok (.if_icmp .ne 17, 3) := by decide +kernel
theorem dX7_readPerson_165 : decode cX7_readPerson 165 = .ok (.aload_n 0, 1) := by decide +kernel
theorem dX7_readPerson_166 : decode cX7_readPerson 166 = .ok (.getfield 29, 3) := by decide +kernel
theorem dX7_readPerson_169 : decode cX7_readPerson 169 = .ok (.getfield 148, 3) := by decide +kernel
theorem dX7_readPerson_172 : decode cX7_readPerson 172 = .ok (.iload_n 1, 1) := by decide +kernel
theorem dX7_readPerson_173 : decode cX7_readPerson 173 = .ok (.iload 4, 2) := by decide +kernel
theorem dX7_readPerson_175 : decode cX7_readPerson 175 = .ok (.iastore, 1) := by decide +kernel
theorem dX7_readPerson_176 : decode cX7_readPerson 176 = .ok (.goto 14, 3) := by decide +kernel
theorem dX7_readPerson_179 : decode cX7_readPerson 179 = .ok (.aload_n 0, 1) := by decide +kernel
theorem dX7_readPerson_180 : decode cX7_readPerson 180 = .ok (.getfield 29, 3) := by decide +kernel
theorem dX7_readPerson_183 : decode cX7_readPerson 183 = .ok (.getfield 151, 3) := by decide +kernel
theorem dX7_readPerson_186 : decode cX7_readPerson 186 = .ok (.iload_n 1, 1) := by decide +kernel
theorem dX7_readPerson_187 : decode cX7_readPerson 187 = .ok (.iload 4, 2) := by decide +kernel
theorem dX7_readPerson_189 : decode cX7_readPerson 189 = .ok (.iastore, 1) := by decide +kernel
theorem dX7_readPerson_190 : decode cX7_readPerson 190 = .ok (.iinc 2 (-1), 3) := by decide +kernel
theorem dX7_readPerson_193 : decode cX7_readPerson 193 = .ok (.goto (-108), 3) := by decide +kernel
theorem dX7_readPerson_196 : decode cX7_readPerson 196 = .ok (.aload_n 0, 1) := by decide +kernel
theorem dX7_readPerson_197 : decode cX7_readPerson 197 = .ok (.getfield 29, 3) := by decide +kernel
theorem dX7_readPerson_200 : decode cX7_readPerson 200 = .ok (.dup, 1) := by decide +kernel
theorem dX7_readPerson_201 : decode cX7_readPerson 201 = .ok (.getfield 135, 3) := by decide +kernel
theorem dX7_readPerson_204 : decode cX7_readPerson 204 = .ok (.iconst 1, 1) := by decide +kernel
theorem dX7_readPerson_205 : decode cX7_readPerson 205 = .ok (.iadd, 1) := by decide +kernel
theorem dX7_readPerson_206 : decode cX7_readPerson 206 = .ok (.putfield 135, 3) := by decide +kernel
theorem dX7_readPerson_209 : decode cX7_readPerson 209 = .ok (.return_, 1) := by decide +kernel
theorem dX7_readNaming_0 : decode cX7_readNaming 0 = .ok (.aload_n 0, 1) := by decide +kernel
theorem dX7_readNaming_1 : decode cX7_readNaming 1 = .ok (.getfield 29, 3) := by decide +kernel
theorem dX7_readNaming_4 : decode cX7_readNaming 4 = .ok (.getfield 123, 3) := by decide +kernel
theorem dX7_readNaming_7 : decode cX7_readNaming 7 = .ok (.getfield 154, 3) := by decide +kernel
theorem dX7_readNaming_10 : decode cX7_readNaming 10 = .ok (.bipush 8, 2) := by decide +kernel

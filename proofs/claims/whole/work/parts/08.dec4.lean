theorem dX2_isOfSort_14 : decode cX2_isOfSort 14 = .ok (.iconst 1, 1) := by decide +kernel
theorem dX2_isOfSort_15 : decode cX2_isOfSort 15 = .ok (.goto 4, 3) := by decide +kernel
theorem dX2_isOfSort_18 : decode cX2_isOfSort 18 = .ok (.iconst 0, 1) := by decide +kernel
theorem dX2_isOfSort_19 : decode cX2_isOfSort 19 = .ok (.ireturn, 1) := by decide +kernel
theorem dX2_isOfSort_20 : decode cX2_isOfSort 20 = .ok (.aload_n 0, 1) := by decide +kernel
theorem dX2_isOfSort_21 : decode cX2_isOfSort 21 = .ok (.getfield 9, 3) := by decide +kernel
theorem dX2_isOfSort_24 : decode cX2_isOfSort 24 = .ok (.iload_n 1, 1) := by decide +kernel
theorem dX2_isOfSort_25 : decode cX2_isOfSort 25 = .ok (.bipush 17, 2) := by decide +kernel
theorem dX2_isOfSort_27 : decode cX2_isOfSort 27 = .ok (.imul, 1) := by decide +kernel
theorem dX2_isOfSort_28 : decode cX2_isOfSort 28 = .ok (.iload_n 2, 1) := by decide +kernel
theorem dX2_isOfSort_29 : decode cX2_isOfSort 29 = .ok (.ifCond .ne 8, 3) := by decide +kernel
theorem dX2_isOfSort_32 : decode cX2_isOfSort 32 = .ok (.bipush 14, 2) := by decide +kernel
theorem dX2_isOfSort_34 : decode cX2_isOfSort 34 = .ok (.goto 5, 3) := by decide +kernel
theorem dX2_isOfSort_37 : decode cX2_isOfSort 37 = .ok (.bipush 12, 2) := by decide +kernel
theorem dX2_isOfSort_39 : decode cX2_isOfSort 39 = .ok (.iadd, 1) := by decide +kernel
theorem dX2_isOfSort_40 : decode cX2_isOfSort 40 = .ok (.iaload, 1) := by decide +kernel
theorem dX2_isOfSort_41 : decode cX2_isOfSort 41 = .ok (.ifCond .le 7, 3) := by decide +kernel
theorem dX2_isOfSort_44 : decode cX2_isOfSort 44 = .ok (.iconst 1, 1) := by decide +kernel
theorem dX2_isOfSort_45 : decode cX2_isOfSort 45 = .ok (.goto 4, 3) := by decide +kernel
theorem dX2_isOfSort_48 : decode cX2_isOfSort 48 = .ok (.iconst 0, 1) := by decide +kernel
theorem dX2_isOfSort_49 : decode cX2_isOfSort 49 = .ok (.ireturn, 1) := by decide +kernel
theorem dX2_isStopped_0 : decode cX2_isStopped 0 = .ok (.aload_n 0, 1) := by decide +kernel
theorem dX2_isStopped_1 : decode cX2_isStopped 1 = .ok (.getfield 44, 3) := by decide +kernel
theorem dX2_isStopped_4 : decode cX2_isStopped 4 = .ok (.bipush 12, 2) := by decide +kernel
theorem dX2_isStopped_6 : decode cX2_isStopped 6 = .ok (.iload_n 1, 1) := by decide +kernel
theorem dX2_isStopped_7 : decode cX2_isStopped 7 = .ok (.iadd, 1) := by decide +kernel
theorem dX2_isStopped_8 : decode cX2_isStopped 8 = .ok (.aload_n 0, 1) := by decide +kernel
theorem dX2_isStopped_9 : decode cX2_isStopped 9 = .ok (.getfield 9, 3) := by decide +kernel
theorem dX2_isStopped_12 : decode cX2_isStopped 12 = .ok (.iload_n 2, 1) := by decide +kernel
theorem dX2_isStopped_13 : decode cX2_isStopped 13 = .ok (.bipush 17, 2) := by decide +kernel
theorem dX2_isStopped_15 : decode cX2_isStopped 15 = .ok (.imul, 1) := by decide +kernel
theorem dX2_isStopped_16 : decode cX2_isStopped 16 = .ok (.invokevirtual 138, 3) := by decide +kernel
theorem dX2_isStopped_19 : decode cX2_isStopped 19 = .ok (.ifCond .eq 7, 3) := by decide +kernel
theorem dX2_isStopped_22 : decode cX2_isStopped 22 = .ok (.iconst 1, 1) := by decide +kernel
theorem dX2_isStopped_23 : decode cX2_isStopped 23 = .ok (.goto 4, 3) := by decide +kernel
theorem dX2_isStopped_26 : decode cX2_isStopped 26 = .ok (.iconst 0, 1) := by decide +kernel
theorem dX2_isStopped_27 : decode cX2_isStopped 27 = .ok (.ireturn, 1) := by decide +kernel
theorem dX2_judgeAll_0 : decode cX2_judgeAll 0 = .ok (.aload_n 0, 1) := by decide +kernel
theorem dX2_judgeAll_1 : decode cX2_judgeAll 1 = .ok (.invokevirtual 48, 3) := by decide +kernel
theorem dX2_judgeAll_4 : decode cX2_judgeAll 4 = .ok (.iconst (-1), 1) := by decide +kernel
theorem dX2_judgeAll_5 : decode cX2_judgeAll 5 = .ok (.istore_n 1, 1) := by decide +kernel
theorem dX2_judgeAll_6 : decode cX2_judgeAll 6 = .ok (.iconst 0, 1) := by decide +kernel
theorem dX2_judgeAll_7 : decode cX2_judgeAll 7 = .ok (.istore_n 2, 1) := by decide +kernel
theorem dX2_judgeAll_8 : decode cX2_judgeAll 8 = .ok (.iload_n 2, 1) := by decide +kernel
theorem dX2_judgeAll_9 : decode cX2_judgeAll 9 = .ok (.aload_n 0, 1) := by decide +kernel
theorem dX2_judgeAll_10 : decode cX2_judgeAll 10 = .ok (.getfield 40, 3) := by decide +kernel
theorem dX2_judgeAll_13 : decode cX2_judgeAll 13 = .ok (.getfield 51, 3) := by decide +kernel
theorem dX2_judgeAll_16 : decode cX2_judgeAll 16 = .ok (.if_icmp .ge 143, 3) := by decide +kernel
theorem dX2_judgeAll_19 : decode cX2_judgeAll 19 = .ok (.iload_n 2, 1) := by decide +kernel
theorem dX2_judgeAll_20 : decode cX2_judgeAll 20 = .ok (.bipush 17, 2) := by decide +kernel
theorem dX2_judgeAll_22 : decode cX2_judgeAll 22 = .ok (.imul, 1) := by decide +kernel
theorem dX2_judgeAll_23 : decode cX2_judgeAll 23 = .ok (.istore_n 3, 1) := by decide +kernel
theorem dX2_judgeAll_24 : decode cX2_judgeAll 24 = .ok (.aload_n 0, 1) := by decide +kernel
theorem dX2_judgeAll_25 : decode cX2_judgeAll 25 = .ok (.iload_n 3, 1) := by decide +kernel
theorem dX2_judgeAll_26 : decode cX2_judgeAll 26 = .ok (.aload_n 0, 1) := by decide +kernel
theorem dX2_judgeAll_27 : decode cX2_judgeAll 27 = .ok (.getfield 40, 3) := by decide +kernel
theorem dX2_judgeAll_30 : decode cX2_judgeAll 30 = .ok (.getfield 56, 3) := by decide +kernel
theorem dX2_judgeAll_33 : decode cX2_judgeAll 33 = .ok (.iload_n 2, 1) := by decide +kernel
theorem dX2_judgeAll_34 : decode cX2_judgeAll 34 = .ok (.iaload, 1) := by decide +kernel
theorem dX2_judgeAll_35 : decode cX2_judgeAll 35 = .ok (.aload_n 0, 1) := by decide +kernel
theorem dX2_judgeAll_36 : decode cX2_judgeAll 36 = .ok (.getfield 40, 3) := by decide +kernel
theorem dX2_judgeAll_39 : decode cX2_judgeAll 39 = .ok (.getfield 59, 3) := by decide +kernel
theorem dX2_judgeAll_42 : decode cX2_judgeAll 42 = .ok (.iload_n 2, 1) := by decide +kernel
theorem dX2_judgeAll_43 : decode cX2_judgeAll 43 = .ok (.iaload, 1) := by decide +kernel
theorem dX2_judgeAll_44 : decode cX2_judgeAll 44 = .ok (.aload_n 0, 1) := by decide +kernel
theorem dX2_judgeAll_45 : decode cX2_judgeAll 45 = .ok (.getfield 40, 3) := by decide +kernel
theorem dX2_judgeAll_48 : decode cX2_judgeAll 48 = .ok (.getfield 62, 3) := by decide +kernel
theorem dX2_judgeAll_51 : decode cX2_judgeAll 51 = .ok (.iload_n 2, 1) := by decide +kernel
theorem dX2_judgeAll_52 : decode cX2_judgeAll 52 = .ok (.iaload, 1) := by decide +kernel
theorem dX2_judgeAll_53 : decode cX2_judgeAll 53 = .ok (.aload_n 0, 1) := by decide +kernel
theorem dX2_judgeAll_54 : decode cX2_judgeAll 54 = .ok (.getfield 40, 3) := by decide +kernel
theorem dX2_judgeAll_57 : decode cX2_judgeAll 57 = .ok (.getfield 65, 3) := by decide +kernel
theorem dX2_judgeAll_60 : decode cX2_judgeAll 60 = .ok (.iload_n 2, 1) := by decide +kernel
theorem dX2_judgeAll_61 : decode cX2_judgeAll 61 = .ok (.iaload, 1) := by decide +kernel
theorem dX2_judgeAll_62 : decode cX2_judgeAll 62 = .ok (.invokevirtual 68, 3) := by decide +kernel
theorem dX2_judgeAll_65 : decode cX2_judgeAll 65 = .ok (.aload_n 0, 1) := by decide +kernel
theorem dX2_judgeAll_66 : decode cX2_judgeAll 66 = .ok (.iload_n 3, 1) := by decide +kernel
theorem dX2_judgeAll_67 : decode cX2_judgeAll 67 = .ok (.aload_n 0, 1) := by decide +kernel
theorem dX2_judgeAll_68 : decode cX2_judgeAll 68 = .ok (.getfield 40, 3) := by decide +kernel
theorem dX2_judgeAll_71 : decode cX2_judgeAll 71 = .ok (.getfield 56, 3) := by decide +kernel
theorem dX2_judgeAll_74 : decode cX2_judgeAll 74 = .ok (.iload_n 2, 1) := by decide +kernel
theorem dX2_judgeAll_75 : decode cX2_judgeAll 75 = .ok (.iaload, 1) := by decide +kernel
theorem dX2_judgeAll_76 : decode cX2_judgeAll 76 = .ok (.aload_n 0, 1) := by decide +kernel
theorem dX2_judgeAll_77 : decode cX2_judgeAll 77 = .ok (.getfield 40, 3) := by decide +kernel
theorem dX2_judgeAll_80 : decode cX2_judgeAll 80 = .ok (.getfield 72, 3) := by decide +kernel
theorem dX2_judgeAll_83 : decode cX2_judgeAll 83 = .ok (.iload_n 2, 1) := by decide +kernel
theorem dX2_judgeAll_84 : decode cX2_judgeAll 84 = .ok (.iaload, 1) := by decide +kernel
theorem dX2_judgeAll_85 : decode cX2_judgeAll 85 = .ok (.aload_n 0, 1) := by decide +kernel
theorem dX2_judgeAll_86 : decode cX2_judgeAll 86 = .ok (.getfield 40, 3) := by decide +kernel
theorem dX2_judgeAll_89 : decode cX2_judgeAll 89 = .ok (.getfield 75, 3) := by decide +kernel
theorem dX2_judgeAll_92 : decode cX2_judgeAll 92 = .ok (.iload_n 2, 1) := by decide +kernel
theorem dX2_judgeAll_93 : decode cX2_judgeAll 93 = .ok (.iaload, 1) := by decide +kernel
theorem dX2_judgeAll_94 : decode cX2_judgeAll 94 = .ok (.iload_n 1, 1) := by decide +kernel
theorem dX2_judgeAll_95 : decode cX2_judgeAll 95 = .ok (.invokevirtual 78, 3) := by decide +kernel
theorem dX2_judgeAll_98 : decode cX2_judgeAll 98 = .ok (.istore_n 1, 1) := by decide +kernel
theorem dX2_judgeAll_99 : decode cX2_judgeAll 99 = .ok (.aload_n 0, 1) := by decide +kernel
theorem dX2_judgeAll_100 : decode cX2_judgeAll 100 = .ok (.getfield 9, 3) := by decide +kernel
theorem dX2_judgeAll_103 : decode cX2_judgeAll 103 = .ok (.iload_n 3, 1) := by decide +kernel
theorem dX2_judgeAll_104 : decode cX2_judgeAll 104 = .ok (.bipush 11, 2) := by decide +kernel
theorem dX2_judgeAll_106 : decode cX2_judgeAll 106 = .ok (.iadd, 1) := by decide +kernel
theorem dX2_judgeAll_107 : decode cX2_judgeAll 107 = .ok (.aload_n 0, 1) := by decide +kernel
theorem dX2_judgeAll_108 : decode cX2_judgeAll 108 = .ok (.getfield 40, 3) := by decide +kernel
theorem dX2_judgeAll_111 : decode cX2_judgeAll 111 = .ok (.getfield 82, 3) := by decide +kernel
theorem dX2_judgeAll_114 : decode cX2_judgeAll 114 = .ok (.iload_n 2, 1) := by decide +kernel
theorem dX2_judgeAll_115 : decode cX2_judgeAll 115 = .ok (.iaload, 1) := by decide +kernel
theorem dX2_judgeAll_116 : decode cX2_judgeAll 116 = .ok (.iastore, 1) := by decide +kernel
theorem dX2_judgeAll_117 : decode cX2_judgeAll 117 = .ok (.aload_n 0, 1) := by decide +kernel
theorem dX2_judgeAll_118 : decode cX2_judgeAll 118 = .ok (.getfield 9, 3) := by decide +kernel
theorem dX2_judgeAll_121 : decode cX2_judgeAll 121 = .ok (.iload_n 3, 1) := by decide +kernel
theorem dX2_judgeAll_122 : decode cX2_judgeAll 122 = .ok (.bipush 16, 2) := by decide +kernel
theorem dX2_judgeAll_124 : decode cX2_judgeAll 124 = .ok (.iadd, 1) := by decide +kernel
theorem dX2_judgeAll_125 : decode cX2_judgeAll 125 = .ok (.aload_n 0, 1) := by decide +kernel
theorem dX2_judgeAll_126 : decode cX2_judgeAll 126 = .ok (.getfield 18, 3) := by decide +kernel
theorem dX2_judgeAll_129 : decode cX2_judgeAll 129 = .ok (.iload_n 2, 1) := by decide +kernel
theorem dX2_judgeAll_130 : decode cX2_judgeAll 130 = .ok (.laload, 1) := by decide +kernel
theorem dX2_judgeAll_131 : decode cX2_judgeAll 131 = .ok (.invokestatic 85, 3) := by decide +kernel
theorem dX2_judgeAll_134 : decode cX2_judgeAll 134 = .ok (.iastore, 1) := by decide +kernel
theorem dX2_judgeAll_135 : decode cX2_judgeAll 135 = .ok (.aload_n 0, 1) := by decide +kernel
theorem dX2_judgeAll_136 : decode cX2_judgeAll 136 = .ok (.getfield 15, 3) := by decide +kernel
theorem dX2_judgeAll_139 : decode cX2_judgeAll 139 = .ok (.iload_n 2, 1) := by decide +kernel
theorem dX2_judgeAll_140 : decode cX2_judgeAll 140 = .ok (.aload_n 0, 1) := by decide +kernel
theorem dX2_judgeAll_141 : decode cX2_judgeAll 141 = .ok (.getfield 44, 3) := by decide +kernel
theorem dX2_judgeAll_144 : decode cX2_judgeAll 144 = .ok (.aload_n 0, 1) := by decide +kernel
theorem dX2_judgeAll_145 : decode cX2_judgeAll 145 = .ok (.getfield 9, 3) := by decide +kernel
theorem dX2_judgeAll_148 : decode cX2_judgeAll 148 = .ok (.iload_n 3, 1) := by decide +kernel
theorem dX2_judgeAll_149 : decode cX2_judgeAll 149 = .ok (.invokevirtual 91, 3) := by decide +kernel
theorem dX2_judgeAll_152 : decode cX2_judgeAll 152 = .ok (.iastore, 1) := by decide +kernel
theorem dX2_judgeAll_153 : decode cX2_judgeAll 153 = .ok (.iinc 2 1, 3) := by decide +kernel
theorem dX2_judgeAll_156 : decode cX2_judgeAll 156 = .ok (.goto (-148), 3) := by decide +kernel
theorem dX2_judgeAll_159 : decode cX2_judgeAll 159 = .ok (.return_, 1) := by decide +kernel
theorem dX2_judgeFound_0 : decode cX2_judgeFound 0 = .ok (.aload_n 0, 1) := by decide +kernel
theorem dX2_judgeFound_1 : decode cX2_judgeFound 1 = .ok (.getfield 36, 3) := by decide +kernel
theorem dX2_judgeFound_4 : decode cX2_judgeFound 4 = .ok (.getfield 135, 3) := by decide +kernel
theorem dX2_judgeFound_7 : decode cX2_judgeFound 7 = .ok (.iload_n 1, 1) := by decide +kernel
theorem dX2_judgeFound_8 : decode cX2_judgeFound 8 = .ok (.iaload, 1) := by decide +kernel
theorem dX2_judgeFound_9 : decode cX2_judgeFound 9 = .ok (.istore 7, 2) := by decide +kernel
theorem dX2_judgeFound_11 : decode cX2_judgeFound 11 = .ok (.aload_n 0, 1) := by decide +kernel
theorem dX2_judgeFound_12 : decode cX2_judgeFound 12 = .ok (.sipush 680, 3) := by decide +kernel
theorem dX2_judgeFound_15 : decode cX2_judgeFound 15 = .ok (.iload 7, 2) := by decide +kernel
theorem dX2_judgeFound_17 : decode cX2_judgeFound 17 = .ok (.aload_n 0, 1) := by decide +kernel
theorem dX2_judgeFound_18 : decode cX2_judgeFound 18 = .ok (.getfield 36, 3) := by decide +kernel
theorem dX2_judgeFound_21 : decode cX2_judgeFound 21 = .ok (.getfield 136, 3) := by decide +kernel
theorem dX2_judgeFound_24 : decode cX2_judgeFound 24 = .ok (.iload_n 1, 1) := by decide +kernel
theorem dX2_judgeFound_25 : decode cX2_judgeFound 25 = .ok (.iaload, 1) := by decide +kernel
theorem dX2_judgeFound_26 : decode cX2_judgeFound 26 = .ok (.iload_n 2, 1) := by decide +kernel
theorem dX2_judgeFound_27 : decode cX2_judgeFound 27 = .ok (.aload_n 0, 1) := by decide +kernel
theorem dX2_judgeFound_28 : decode cX2_judgeFound 28 = .ok (.getfield 36, 3) := by decide +kernel
theorem dX2_judgeFound_31 : decode cX2_judgeFound 31 = .ok (.getfield 137, 3) := by decide +kernel
theorem dX2_judgeFound_34 : decode cX2_judgeFound 34 = .ok (.iload_n 1, 1) := by decide +kernel
theorem dX2_judgeFound_35 : decode cX2_judgeFound 35 = .ok (.iaload, 1) := by decide +kernel
theorem dX2_judgeFound_36 : decode cX2_judgeFound 36 = .ok (.invokevirtual 68, 3) := by decide +kernel
theorem dX2_judgeFound_39 : decode cX2_judgeFound 39 = .ok (.aload_n 0, 1) := by decide +kernel
theorem dX2_judgeFound_40 : decode cX2_judgeFound 40 = .ok (.sipush 680, 3) := by decide +kernel
theorem dX2_judgeFound_43 : decode cX2_judgeFound 43 = .ok (.iload 7, 2) := by decide +kernel
theorem dX2_judgeFound_45 : decode cX2_judgeFound 45 = .ok (.iload_n 3, 1) := by decide +kernel
theorem dX2_judgeFound_46 : decode cX2_judgeFound 46 = .ok (.iload 4, 2) := by decide +kernel
theorem dX2_judgeFound_48 : decode cX2_judgeFound 48 = .ok (.iload 6, 2) := by decide +kernel
theorem dX2_judgeFound_50 : decode cX2_judgeFound 50 = .ok (.invokevirtual 78, 3) := by decide +kernel
theorem dX2_judgeFound_53 : decode cX2_judgeFound 53 = .ok (.pop, 1) := by decide +kernel
theorem dX2_judgeFound_54 : decode cX2_judgeFound 54 = .ok (.aload_n 0, 1) := by decide +kernel
theorem dX2_judgeFound_55 : decode cX2_judgeFound 55 = .ok (.getfield 9, 3) := by decide +kernel
theorem dX2_judgeFound_58 : decode cX2_judgeFound 58 = .ok (.sipush 691, 3) := by decide +kernel
theorem dX2_judgeFound_61 : decode cX2_judgeFound 61 = .ok (.iload 5, 2) := by decide +kernel
theorem dX2_judgeFound_63 : decode cX2_judgeFound 63 = .ok (.iastore, 1) := by decide +kernel
theorem dX2_judgeFound_64 : decode cX2_judgeFound 64 = .ok (.aload_n 0, 1) := by decide +kernel
theorem dX2_judgeFound_65 : decode cX2_judgeFound 65 = .ok (.getfield 9, 3) := by decide +kernel
theorem dX2_judgeFound_68 : decode cX2_judgeFound 68 = .ok (.sipush 696, 3) := by decide +kernel
theorem dX2_judgeFound_71 : decode cX2_judgeFound 71 = .ok (.iconst 0, 1) := by decide +kernel
theorem dX2_judgeFound_72 : decode cX2_judgeFound 72 = .ok (.iastore, 1) := by decide +kernel
theorem dX2_judgeFound_73 : decode cX2_judgeFound 73 = .ok (.aload_n 0, 1) := by decide +kernel
theorem dX2_judgeFound_74 : decode cX2_judgeFound 74 = .ok (.getfield 44, 3) := by decide +kernel
theorem dX2_judgeFound_77 : decode cX2_judgeFound 77 = .ok (.aload_n 0, 1) := by decide +kernel
theorem dX2_judgeFound_78 : decode cX2_judgeFound 78 = .ok (.getfield 9, 3) := by decide +kernel
theorem dX2_judgeFound_81 : decode cX2_judgeFound 81 = .ok (.sipush 680, 3) := by decide +kernel
theorem dX2_judgeFound_84 : decode cX2_judgeFound 84 = .ok (.invokevirtual 91, 3) := by decide +kernel
theorem dX2_judgeFound_87 : decode cX2_judgeFound 87 = .ok (.ireturn, 1) := by decide +kernel
theorem dX2_pairTwins_0 : decode cX2_pairTwins 0 = .ok (.iconst 0, 1) := by decide +kernel
theorem dX2_pairTwins_1 : decode cX2_pairTwins 1 = .ok (.istore_n 1, 1) := by decide +kernel
theorem dX2_pairTwins_2 : decode cX2_pairTwins 2 = .ok (.iload_n 1, 1) := by decide +kernel
theorem dX2_pairTwins_3 : decode cX2_pairTwins 3 = .ok (.aload_n 0, 1) := by decide +kernel
theorem dX2_pairTwins_4 : decode cX2_pairTwins 4 = .ok (.getfield 40, 3) := by decide +kernel
theorem dX2_pairTwins_7 : decode cX2_pairTwins 7 = .ok (.getfield 51, 3) := by decide +kernel
theorem dX2_pairTwins_10 : decode cX2_pairTwins 10 = .ok (.if_icmp .ge 108, 3) := by decide +kernel
theorem dX2_pairTwins_13 : decode cX2_pairTwins 13 = .ok (.aload_n 0, 1) := by decide +kernel
theorem dX2_pairTwins_14 : decode cX2_pairTwins 14 = .ok (.getfield 18, 3) := by decide +kernel
theorem dX2_pairTwins_17 : decode cX2_pairTwins 17 = .ok (.iload_n 1, 1) := by decide +kernel
theorem dX2_pairTwins_18 : decode cX2_pairTwins 18 = .ok (.lconst 0, 1) := by decide +kernel
theorem dX2_pairTwins_19 : decode cX2_pairTwins 19 = .ok (.lastore, 1) := by decide +kernel
theorem dX2_pairTwins_20 : decode cX2_pairTwins 20 = .ok (.iconst 0, 1) := by decide +kernel
theorem dX2_pairTwins_21 : decode cX2_pairTwins 21 = .ok (.istore_n 2, 1) := by decide +kernel
theorem dX2_pairTwins_22 : decode cX2_pairTwins 22 = .ok (.iload_n 2, 1) := by decide +kernel
theorem dX2_pairTwins_23 : decode cX2_pairTwins 23 = .ok (.aload_n 0, 1) := by decide +kernel
theorem dX2_pairTwins_24 : decode cX2_pairTwins 24 = .ok (.getfield 40, 3) := by decide +kernel
theorem dX2_pairTwins_27 : decode cX2_pairTwins 27 = .ok (.getfield 51, 3) := by decide +kernel
theorem dX2_pairTwins_30 : decode cX2_pairTwins 30 = .ok (.if_icmp .ge 82, 3) := by decide +kernel
theorem dX2_pairTwins_33 : decode cX2_pairTwins 33 = .ok (.aload_n 0, 1) := by decide +kernel
theorem dX2_pairTwins_34 : decode cX2_pairTwins 34 = .ok (.getfield 40, 3) := by decide +kernel
theorem dX2_pairTwins_37 : decode cX2_pairTwins 37 = .ok (.getfield 82, 3) := by decide +kernel
theorem dX2_pairTwins_40 : decode cX2_pairTwins 40 = .ok (.iload_n 1, 1) := by decide +kernel
theorem dX2_pairTwins_41 : decode cX2_pairTwins 41 = .ok (.iaload, 1) := by decide +kernel
theorem dX2_pairTwins_42 : decode cX2_pairTwins 42 = .ok (.aload_n 0, 1) := by decide +kernel
theorem dX2_pairTwins_43 : decode cX2_pairTwins 43 = .ok (.getfield 40, 3) := by decide +kernel
theorem dX2_pairTwins_46 : decode cX2_pairTwins 46 = .ok (.getfield 82, 3) := by decide +kernel
theorem dX2_pairTwins_49 : decode cX2_pairTwins 49 = .ok (.iload_n 2, 1) := by decide +kernel
theorem dX2_pairTwins_50 : decode cX2_pairTwins 50 = .ok (.iaload, 1) := by decide +kernel
theorem dX2_pairTwins_51 : decode cX2_pairTwins 51 = .ok (.if_icmp .ne 55, 3) := by decide +kernel
theorem dX2_pairTwins_54 : decode cX2_pairTwins 54 = .ok (.aload_n 0, 1) := by decide +kernel
theorem dX2_pairTwins_55 : decode cX2_pairTwins 55 = .ok (.getfield 32, 3) := by decide +kernel
theorem dX2_pairTwins_58 : decode cX2_pairTwins 58 = .ok (.getfield 97, 3) := by decide +kernel
theorem dX2_pairTwins_61 : decode cX2_pairTwins 61 = .ok (.aload_n 0, 1) := by decide +kernel
theorem dX2_pairTwins_62 : decode cX2_pairTwins 62 = .ok (.getfield 40, 3) := by decide +kernel
theorem dX2_pairTwins_65 : decode cX2_pairTwins 65 = .ok (.getfield 56, 3) := by decide +kernel
theorem dX2_pairTwins_68 : decode cX2_pairTwins 68 = .ok (.iload_n 1, 1) := by decide +kernel
theorem dX2_pairTwins_69 : decode cX2_pairTwins 69 = .ok (.iaload, 1) := by decide +kernel
theorem dX2_pairTwins_70 : decode cX2_pairTwins 70 = .ok (.bipush 8, 2) := by decide +kernel
theorem dX2_pairTwins_72 : decode cX2_pairTwins 72 = .ok (.imul, 1) := by decide +kernel
theorem dX2_pairTwins_73 : decode cX2_pairTwins 73 = .ok (.aload_n 0, 1) := by decide +kernel
theorem dX2_pairTwins_74 : decode cX2_pairTwins 74 = .ok (.getfield 40, 3) := by decide +kernel
theorem dX2_pairTwins_77 : decode cX2_pairTwins 77 = .ok (.getfield 56, 3) := by decide +kernel
theorem dX2_pairTwins_80 : decode cX2_pairTwins 80 = .ok (.iload_n 2, 1) := by decide +kernel
theorem dX2_pairTwins_81 : decode cX2_pairTwins 81 = .ok (.iaload, 1) := by decide +kernel
theorem dX2_pairTwins_82 : decode cX2_pairTwins 82 = .ok (.iadd, 1) := by decide +kernel
theorem dX2_pairTwins_83 : decode cX2_pairTwins 83 = .ok (.iaload, 1) := by decide +kernel
theorem dX2_pairTwins_84 : decode cX2_pairTwins 84 = .ok (.aload_n 0, 1) := by decide +kernel
theorem dX2_pairTwins_85 : decode cX2_pairTwins 85 = .ok (.getfield 44, 3) := by decide +kernel
theorem dX2_pairTwins_88 : decode cX2_pairTwins 88 = .ok (.getfield 102, 3) := by decide +kernel
theorem dX2_pairTwins_91 : decode cX2_pairTwins 91 = .ok (.if_icmp .le 15, 3) := by decide +kernel
theorem dX2_pairTwins_94 : decode cX2_pairTwins 94 = .ok (.aload_n 0, 1) := by decide +kernel
theorem dX2_pairTwins_95 : decode cX2_pairTwins 95 = .ok (.getfield 18, 3) := by decide +kernel
theorem dX2_pairTwins_98 : decode cX2_pairTwins 98 = .ok (.iload_n 1, 1) := by decide +kernel
theorem dX2_pairTwins_99 : decode cX2_pairTwins 99 = .ok (.dup2, 1) := by decide +kernel
theorem dX2_pairTwins_100 : decode cX2_pairTwins 100 = .ok (.laload, 1) := by decide +kernel
theorem dX2_pairTwins_101 : decode cX2_pairTwins 101 = .ok (.lconst 1, 1) := by decide +kernel
theorem dX2_pairTwins_102 : decode cX2_pairTwins 102 = .ok (.iload_n 2, 1) := by decide +kernel
theorem dX2_pairTwins_103 : decode cX2_pairTwins 103 = .ok (.lshl, 1) := by decide +kernel
theorem dX2_pairTwins_104 : decode cX2_pairTwins 104 = .ok (.lor, 1) := by decide +kernel
theorem dX2_pairTwins_105 : decode cX2_pairTwins 105 = .ok (.lastore, 1) := by decide +kernel
theorem dX2_pairTwins_106 : decode cX2_pairTwins 106 = .ok (.iinc 2 1, 3) := by decide +kernel
theorem dX2_pairTwins_109 : decode cX2_pairTwins 109 = .ok (.goto (-87), 3) := by decide +kernel
theorem dX2_pairTwins_112 : decode cX2_pairTwins 112 = .ok (.iinc 1 1, 3) := by decide +kernel
theorem dX2_pairTwins_115 : decode cX2_pairTwins 115 = .ok (.goto (-113), 3) := by decide +kernel
theorem dX2_pairTwins_118 : decode cX2_pairTwins 118 = .ok (.return_, 1) := by decide +kernel
theorem dX2_placeFacts_0 : decode cX2_placeFacts 0 = .ok (.aload_n 0, 1) := by decide +kernel
theorem dX2_placeFacts_1 : decode cX2_placeFacts 1 = .ok (.getfield 36, 3) := by decide +kernel
theorem dX2_placeFacts_4 : decode cX2_placeFacts 4 = .ok (.iload 5, 2) := by decide +kernel
theorem dX2_placeFacts_6 : decode cX2_placeFacts 6 = .ok (.iload_n 2, 1) := by decide +kernel
theorem dX2_placeFacts_7 : decode cX2_placeFacts 7 = .ok (.iload_n 3, 1) := by decide +kernel
theorem dX2_placeFacts_8 : decode cX2_placeFacts 8 = .ok (.invokevirtual 105, 3) := by decide +kernel
theorem dX2_placeFacts_11 : decode cX2_placeFacts 11 = .ok (.istore 6, 2) := by decide +kernel
theorem dX2_placeFacts_13 : decode cX2_placeFacts 13 = .ok (.aload_n 0, 1) := by decide +kernel
theorem dX2_placeFacts_14 : decode cX2_placeFacts 14 = .ok (.getfield 9, 3) := by decide +kernel
theorem dX2_placeFacts_17 : decode cX2_placeFacts 17 = .ok (.iload_n 1, 1) := by decide +kernel
theorem dX2_placeFacts_18 : decode cX2_placeFacts 18 = .ok (.bipush 10, 2) := by decide +kernel
theorem dX2_placeFacts_20 : decode cX2_placeFacts 20 = .ok (.iadd, 1) := by decide +kernel
theorem dX2_placeFacts_21 : decode cX2_placeFacts 21 = .ok (.iload 4, 2) := by decide +kernel
theorem dX2_placeFacts_23 : decode cX2_placeFacts 23 = .ok (.iastore, 1) := by decide +kernel
theorem dX2_placeFacts_24 : decode cX2_placeFacts 24 = .ok (.aload_n 0, 1) := by decide +kernel
theorem dX2_placeFacts_25 : decode cX2_placeFacts 25 = .ok (.getfield 9, 3) := by decide +kernel
theorem dX2_placeFacts_28 : decode cX2_placeFacts 28 = .ok (.iload_n 1, 1) := by decide +kernel
theorem dX2_placeFacts_29 : decode cX2_placeFacts 29 = .ok (.bipush 13, 2) := by decide +kernel
theorem dX2_placeFacts_31 : decode cX2_placeFacts 31 = .ok (.iadd, 1) := by decide +kernel
theorem dX2_placeFacts_32 : decode cX2_placeFacts 32 = .ok (.iload 6, 2) := by decide +kernel
theorem dX2_placeFacts_34 : decode cX2_placeFacts 34 = .ok (.i2l, 1) := by decide +kernel
theorem dX2_placeFacts_35 : decode cX2_placeFacts 35 = .ok (.iload 4, 2) := by decide +kernel
theorem dX2_placeFacts_37 : decode cX2_placeFacts 37 = .ok (.invokestatic 111, 3) := by decide +kernel
theorem dX2_placeFacts_40 : decode cX2_placeFacts 40 = .ok (.ifCond .eq 7, 3) := by decide +kernel
theorem dX2_placeFacts_43 : decode cX2_placeFacts 43 = .ok (.iconst 1, 1) := by decide +kernel
theorem dX2_placeFacts_44 : decode cX2_placeFacts 44 = .ok (.goto 4, 3) := by decide +kernel
theorem dX2_placeFacts_47 : decode cX2_placeFacts 47 = .ok (.iconst 0, 1) := by decide +kernel
theorem dX2_placeFacts_48 : decode cX2_placeFacts 48 = .ok (.iastore, 1) := by decide +kernel
theorem dX2_placeFacts_49 : decode cX2_placeFacts 49 = .ok (.aload_n 0, 1) := by decide +kernel
theorem dX2_placeFacts_50 : decode cX2_placeFacts 50 = .ok (.getfield 9, 3) := by decide +kernel
theorem dX2_placeFacts_53 : decode cX2_placeFacts 53 = .ok (.iload_n 1, 1) := by decide +kernel
theorem dX2_placeFacts_54 : decode cX2_placeFacts 54 = .ok (.bipush 14, 2) := by decide +kernel
theorem dX2_placeFacts_56 : decode cX2_placeFacts 56 = .ok (.iadd, 1) := by decide +kernel
theorem dX2_placeFacts_57 : decode cX2_placeFacts 57 = .ok (.iload 6, 2) := by decide +kernel
theorem dX2_placeFacts_59 : decode cX2_placeFacts 59 = .ok (.iload 4, 2) := by decide +kernel
theorem dX2_placeFacts_61 : decode cX2_placeFacts 61 = .ok (.invokestatic 115, 3) := by decide +kernel
theorem dX2_placeFacts_64 : decode cX2_placeFacts 64 = .ok (.iand, 1) := by decide +kernel
theorem dX2_placeFacts_65 : decode cX2_placeFacts 65 = .ok (.invokestatic 119, 3) := by decide +kernel
theorem dX2_placeFacts_68 : decode cX2_placeFacts 68 = .ok (.iastore, 1) := by decide +kernel
theorem dX2_placeFacts_69 : decode cX2_placeFacts 69 = .ok (.aload_n 0, 1) := by decide +kernel
theorem dX2_placeFacts_70 : decode cX2_placeFacts 70 = .ok (.getfield 9, 3) := by decide +kernel
theorem dX2_placeFacts_73 : decode cX2_placeFacts 73 = .ok (.iload_n 1, 1) := by decide +kernel
theorem dX2_placeFacts_74 : decode cX2_placeFacts 74 = .ok (.bipush 15, 2) := by decide +kernel
theorem dX2_placeFacts_76 : decode cX2_placeFacts 76 = .ok (.iadd, 1) := by decide +kernel
theorem dX2_placeFacts_77 : decode cX2_placeFacts 77 = .ok (.aload_n 0, 1) := by decide +kernel
theorem dX2_placeFacts_78 : decode cX2_placeFacts 78 = .ok (.getfield 36, 3) := by decide +kernel
theorem dX2_placeFacts_81 : decode cX2_placeFacts 81 = .ok (.iload_n 2, 1) := by decide +kernel
theorem dX2_placeFacts_82 : decode cX2_placeFacts 82 = .ok (.iload_n 3, 1) := by decide +kernel
theorem dX2_placeFacts_83 : decode cX2_placeFacts 83 = .ok (.iload 4, 2) := by decide +kernel
theorem dX2_placeFacts_85 : decode cX2_placeFacts 85 = .ok (.invokevirtual 123, 3) := by decide +kernel
theorem dX2_placeFacts_88 : decode cX2_placeFacts 88 = .ok (.iconst 1, 1) := by decide +kernel
theorem dX2_placeFacts_89 : decode cX2_placeFacts 89 = .ok (.iload 5, 2) := by decide +kernel
theorem dX2_placeFacts_91 : decode cX2_placeFacts 91 = .ok (.ishl, 1) := by decide +kernel
theorem dX2_placeFacts_92 : decode cX2_placeFacts 92 = .ok (.iconst (-1), 1) := by decide +kernel
theorem dX2_placeFacts_93 : decode cX2_placeFacts 93 = .ok (.ixor, 1) := by decide +kernel
theorem dX2_placeFacts_94 : decode cX2_placeFacts 94 = .ok (.iand, 1) := by decide +kernel
theorem dX2_placeFacts_95 : decode cX2_placeFacts 95 = .ok (.invokestatic 119, 3) := by decide +kernel
theorem dX2_placeFacts_98 : decode cX2_placeFacts 98 = .ok (.iastore, 1) := by decide +kernel
theorem dX2_placeFacts_99 : decode cX2_placeFacts 99 = .ok (.return_, 1) := by decide +kernel
theorem dX2_seekDay_0 : decode cX2_seekDay 0 = .ok (.aload_n 0, 1) := by decide +kernel
theorem dX2_seekDay_1 : decode cX2_seekDay 1 = .ok (.getfield 22, 3) := by decide +kernel
theorem dX2_seekDay_4 : decode cX2_seekDay 4 = .ok (.iconst 0, 1) := by decide +kernel
theorem dX2_seekDay_5 : decode cX2_seekDay 5 = .ok (.invokestatic 154, 3) := by decide +kernel
theorem dX2_seekDay_8 : decode cX2_seekDay 8 = .ok (.aload_n 0, 1) := by decide +kernel
theorem dX2_seekDay_9 : decode cX2_seekDay 9 = .ok (.getfield 25, 3) := by decide +kernel
theorem dX2_seekDay_12 : decode cX2_seekDay 12 = .ok (.iconst 0, 1) := by decide +kernel
theorem dX2_seekDay_13 : decode cX2_seekDay 13 = .ok (.invokestatic 154, 3) := by decide +kernel
theorem dX2_seekDay_16 : decode cX2_seekDay 16 = .ok (.iconst 0, 1) := by decide +kernel
theorem dX2_seekDay_17 : decode cX2_seekDay 17 = .ok (.istore_n 1, 1) := by decide +kernel
theorem dX2_seekDay_18 : decode cX2_seekDay 18 = .ok (.iconst 0, 1) := by decide +kernel
theorem dX2_seekDay_19 : decode cX2_seekDay 19 = .ok (.istore_n 2, 1) := by decide +kernel
theorem dX2_seekDay_20 : decode cX2_seekDay 20 = .ok (.iload_n 2, 1) := by decide +kernel
theorem dX2_seekDay_21 : decode cX2_seekDay 21 = .ok (.sipush 1000, 3) := by decide +kernel
theorem dX2_seekDay_24 : decode cX2_seekDay 24 = .ok (.if_icmp .ge 85, 3) := by decide +kernel
theorem dX2_seekDay_27 : decode cX2_seekDay 27 = .ok (.iload_n 1, 1) := by decide +kernel
theorem dX2_seekDay_28 : decode cX2_seekDay 28 = .ok (.aload_n 0, 1) := by decide +kernel
theorem dX2_seekDay_29 : decode cX2_seekDay 29 = .ok (.getfield 40, 3) := by decide +kernel
theorem dX2_seekDay_32 : decode cX2_seekDay 32 = .ok (.getfield 51, 3) := by decide +kernel
theorem dX2_seekDay_35 : decode cX2_seekDay 35 = .ok (.if_icmp .ge 27, 3) := by decide +kernel
theorem dX2_seekDay_38 : decode cX2_seekDay 38 = .ok (.aload_n 0, 1) := by decide +kernel
theorem dX2_seekDay_39 : decode cX2_seekDay 39 = .ok (.getfield 40, 3) := by decide +kernel
theorem dX2_seekDay_42 : decode cX2_seekDay 42 = .ok (.getfield 59, 3) := by decide +kernel
theorem dX2_seekDay_45 : decode cX2_seekDay 45 = .ok (.iload_n 1, 1) := by decide +kernel
theorem dX2_seekDay_46 : decode cX2_seekDay 46 = .ok (.iaload, 1) := by decide +kernel
theorem dX2_seekDay_47 : decode cX2_seekDay 47 = .ok (.iload_n 2, 1) := by decide +kernel
theorem dX2_seekDay_48 : decode cX2_seekDay 48 = .ok (.if_icmp .gt 14, 3) := by decide +kernel
theorem dX2_seekDay_51 : decode cX2_seekDay 51 = .ok (.aload_n 0, 1) := by decide +kernel
theorem dX2_seekDay_52 : decode cX2_seekDay 52 = .ok (.iload_n 1, 1) := by decide +kernel
theorem dX2_seekDay_53 : decode cX2_seekDay 53 = .ok (.invokevirtual 160, 3) := by decide +kernel
theorem dX2_seekDay_56 : decode cX2_seekDay 56 = .ok (.iinc 1 1, 3) := by decide +kernel
theorem dX2_seekDay_59 : decode cX2_seekDay 59 = .ok (.goto (-32), 3) := by decide +kernel
theorem dX2_seekDay_62 : decode cX2_seekDay 62 = .ok (.aload_n 0, 1) := by decide +kernel
theorem dX2_seekDay_63 : decode cX2_seekDay 63 = .ok (.getfield 22, 3) := by decide +kernel
theorem dX2_seekDay_66 : decode cX2_seekDay 66 = .ok (.iconst 0, 1) := by decide +kernel
theorem dX2_seekDay_67 : decode cX2_seekDay 67 = .ok (.iload_n 2, 1) := by decide +kernel
theorem dX2_seekDay_68 : decode cX2_seekDay 68 = .ok (.iastore, 1) := by decide +kernel
theorem dX2_seekDay_69 : decode cX2_seekDay 69 = .ok (.aload_n 0, 1) := by decide +kernel
theorem dX2_seekDay_70 : decode cX2_seekDay 70 = .ok (.getfield 22, 3) := by decide +kernel
theorem dX2_seekDay_73 : decode cX2_seekDay 73 = .ok (.bipush 7, 2) := by decide +kernel
theorem dX2_seekDay_75 : decode cX2_seekDay 75 = .ok (.aload_n 0, 1) := by decide +kernel
theorem dX2_seekDay_76 : decode cX2_seekDay 76 = .ok (.getfield 40, 3) := by decide +kernel
theorem dX2_seekDay_79 : decode cX2_seekDay 79 = .ok (.iload_n 2, 1) := by decide +kernel
theorem dX2_seekDay_80 : decode cX2_seekDay 80 = .ok (.invokevirtual 164, 3) := by decide +kernel
theorem dX2_seekDay_83 : decode cX2_seekDay 83 = .ok (.iastore, 1) := by decide +kernel
theorem dX2_seekDay_84 : decode cX2_seekDay 84 = .ok (.aload_n 0, 1) := by decide +kernel
theorem dX2_seekDay_85 : decode cX2_seekDay 85 = .ok (.getfield 44, 3) := by decide +kernel
theorem dX2_seekDay_88 : decode cX2_seekDay 88 = .ok (.bipush 20, 2) := by decide +kernel
theorem dX2_seekDay_90 : decode cX2_seekDay 90 = .ok (.aload_n 0, 1) := by decide +kernel
theorem dX2_seekDay_91 : decode cX2_seekDay 91 = .ok (.getfield 22, 3) := by decide +kernel
theorem dX2_seekDay_94 : decode cX2_seekDay 94 = .ok (.iconst 0, 1) := by decide +kernel
theorem dX2_seekDay_95 : decode cX2_seekDay 95 = .ok (.invokevirtual 138, 3) := by decide +kernel
theorem dX2_seekDay_98 : decode cX2_seekDay 98 = .ok (.ifCond .eq 5, 3) := by decide +kernel
theorem dX2_seekDay_101 : decode cX2_seekDay 101 = .ok (.iload_n 2, 1) := by decide +kernel
theorem dX2_seekDay_102 : decode cX2_seekDay 102 = .ok (.ireturn, 1) := by decide +kernel
theorem dX2_seekDay_103 : decode cX2_seekDay 103 = .ok (.iinc 2 1, 3) := by decide +kernel
theorem dX2_seekDay_106 : decode cX2_seekDay 106 = .ok (.goto (-86), 3) := by decide +kernel
theorem dX2_seekDay_109 : decode cX2_seekDay 109 = .ok (.iconst (-1), 1) := by decide +kernel
theorem dX2_seekDay_110 : decode cX2_seekDay 110 = .ok (.ireturn, 1) := by decide +kernel
theorem dX2_thingFacts_0 : decode cX2_thingFacts 0 = .ok (.iconst 0, 1) := by decide +kernel
theorem dX2_thingFacts_1 : decode cX2_thingFacts 1 = .ok (.istore 6, 2) := by decide +kernel
theorem dX2_thingFacts_3 : decode cX2_thingFacts 3 = .ok (.iload 6, 2) := by decide +kernel
theorem dX2_thingFacts_5 : decode cX2_thingFacts 5 = .ok (.bipush 8, 2) := by decide +kernel
theorem dX2_thingFacts_7 : decode cX2_thingFacts 7 = .ok (.if_icmp .ge 25, 3) := by decide +kernel
theorem dX2_thingFacts_10 : decode cX2_thingFacts 10 = .ok (.aload_n 0, 1) := by decide +kernel
theorem dX2_thingFacts_11 : decode cX2_thingFacts 11 = .ok (.getfield 9, 3) := by decide +kernel
theorem dX2_thingFacts_14 : decode cX2_thingFacts 14 = .ok (.iload_n 1, 1) := by decide +kernel
theorem dX2_thingFacts_15 : decode cX2_thingFacts 15 = .ok (.iload 6, 2) := by decide +kernel
theorem dX2_thingFacts_17 : decode cX2_thingFacts 17 = .ok (.iadd, 1) := by decide +kernel
theorem dX2_thingFacts_18 : decode cX2_thingFacts 18 = .ok (.iload 4, 2) := by decide +kernel
theorem dX2_thingFacts_20 : decode cX2_thingFacts 20 = .ok (.iload 6, 2) := by decide +kernel
theorem dX2_thingFacts_22 : decode cX2_thingFacts 22 = .ok (.ishr, 1) := by decide +kernel
theorem dX2_thingFacts_23 : decode cX2_thingFacts 23 = .ok (.iconst 1, 1) := by decide +kernel
theorem dX2_thingFacts_24 : decode cX2_thingFacts 24 = .ok (.iand, 1) := by decide +kernel
theorem dX2_thingFacts_25 : decode cX2_thingFacts 25 = .ok (.iastore, 1) := by decide +kernel
theorem dX2_thingFacts_26 : decode cX2_thingFacts 26 = .ok (.iinc 6 1, 3) := by decide +kernel
theorem dX2_thingFacts_29 : decode cX2_thingFacts 29 = .ok (.goto (-26), 3) := by decide +kernel
theorem dX2_thingFacts_32 : decode cX2_thingFacts 32 = .ok (.aload_n 0, 1) := by decide +kernel
theorem dX2_thingFacts_33 : decode cX2_thingFacts 33 = .ok (.getfield 32, 3) := by decide +kernel
theorem dX2_thingFacts_36 : decode cX2_thingFacts 36 = .ok (.iload_n 2, 1) := by decide +kernel
theorem dX2_thingFacts_37 : decode cX2_thingFacts 37 = .ok (.iload_n 3, 1) := by decide +kernel
theorem dX2_thingFacts_38 : decode cX2_thingFacts 38 = .ok (.invokevirtual 126, 3) := by decide +kernel
theorem dX2_thingFacts_41 : decode cX2_thingFacts 41 = .ok (.istore 6, 2) := by decide +kernel
theorem dX2_thingFacts_43 : decode cX2_thingFacts 43 = .ok (.aload_n 0, 1) := by decide +kernel
theorem dX2_thingFacts_44 : decode cX2_thingFacts 44 = .ok (.getfield 9, 3) := by decide +kernel
theorem dX2_thingFacts_47 : decode cX2_thingFacts 47 = .ok (.iload_n 1, 1) := by decide +kernel
theorem dX2_thingFacts_48 : decode cX2_thingFacts 48 = .ok (.bipush 8, 2) := by decide +kernel
theorem dX2_thingFacts_50 : decode cX2_thingFacts 50 = .ok (.iadd, 1) := by decide +kernel
theorem dX2_thingFacts_51 : decode cX2_thingFacts 51 = .ok (.iload 6, 2) := by decide +kernel
theorem dX2_thingFacts_53 : decode cX2_thingFacts 53 = .ok (.iastore, 1) := by decide +kernel
theorem dX2_thingFacts_54 : decode cX2_thingFacts 54 = .ok (.aload_n 0, 1) := by decide +kernel
theorem dX2_thingFacts_55 : decode cX2_thingFacts 55 = .ok (.getfield 9, 3) := by decide +kernel
theorem dX2_thingFacts_58 : decode cX2_thingFacts 58 = .ok (.iload_n 1, 1) := by decide +kernel
theorem dX2_thingFacts_59 : decode cX2_thingFacts 59 = .ok (.bipush 9, 2) := by decide +kernel
theorem dX2_thingFacts_61 : decode cX2_thingFacts 61 = .ok (.iadd, 1) := by decide +kernel
theorem dX2_thingFacts_62 : decode cX2_thingFacts 62 = .ok (.iload_n 3, 1) := by decide +kernel
theorem dX2_thingFacts_63 : decode cX2_thingFacts 63 = .ok (.iastore, 1) := by decide +kernel
theorem dX2_thingFacts_64 : decode cX2_thingFacts 64 = .ok (.aload_n 0, 1) := by decide +kernel
theorem dX2_thingFacts_65 : decode cX2_thingFacts 65 = .ok (.getfield 9, 3) := by decide +kernel
theorem dX2_thingFacts_68 : decode cX2_thingFacts 68 = .ok (.iload_n 1, 1) := by decide +kernel
theorem dX2_thingFacts_69 : decode cX2_thingFacts 69 = .ok (.bipush 12, 2) := by decide +kernel
theorem dX2_thingFacts_71 : decode cX2_thingFacts 71 = .ok (.iadd, 1) := by decide +kernel
theorem dX2_thingFacts_72 : decode cX2_thingFacts 72 = .ok (.iload 6, 2) := by decide +kernel
theorem dX2_thingFacts_74 : decode cX2_thingFacts 74 = .ok (.iload 5, 2) := by decide +kernel
theorem dX2_thingFacts_76 : decode cX2_thingFacts 76 = .ok (.if_icmp .le 7, 3) := by decide +kernel
theorem dX2_thingFacts_79 : decode cX2_thingFacts 79 = .ok (.iconst 1, 1) := by decide +kernel
theorem dX2_thingFacts_80 : decode cX2_thingFacts 80 = .ok (.goto 4, 3) := by decide +kernel
theorem dX2_thingFacts_83 : decode cX2_thingFacts 83 = .ok (.iconst 0, 1) := by decide +kernel
theorem dX2_thingFacts_84 : decode cX2_thingFacts 84 = .ok (.iastore, 1) := by decide +kernel
theorem dX2_thingFacts_85 : decode cX2_thingFacts 85 = .ok (.iload 6, 2) := by decide +kernel
theorem dX2_thingFacts_87 : decode cX2_thingFacts 87 = .ok (.iload 5, 2) := by decide +kernel
theorem dX2_thingFacts_89 : decode cX2_thingFacts 89 = .ok (.invokestatic 130, 3) := by decide +kernel
theorem dX2_thingFacts_92 : decode cX2_thingFacts 92 = .ok (.ireturn, 1) := by decide +kernel
theorem dX3_addStep_0 : decode cX3_addStep 0 = .ok (.aload_n 0, 1) := by decide +kernel
theorem dX3_addStep_1 : decode cX3_addStep 1 = .ok (.getfield 31, 3) := by decide +kernel
theorem dX3_addStep_4 : decode cX3_addStep 4 = .ok (.sipush 1000, 3) := by decide +kernel
theorem dX3_addStep_7 : decode cX3_addStep 7 = .ok (.if_icmp .ge 23, 3) := by decide +kernel
theorem dX3_addStep_10 : decode cX3_addStep 10 = .ok (.aload_n 0, 1) := by decide +kernel
theorem dX3_addStep_11 : decode cX3_addStep 11 = .ok (.getfield 11, 3) := by decide +kernel
theorem dX3_addStep_14 : decode cX3_addStep 14 = .ok (.aload_n 0, 1) := by decide +kernel
theorem dX3_addStep_15 : decode cX3_addStep 15 = .ok (.getfield 31, 3) := by decide +kernel
theorem dX3_addStep_18 : decode cX3_addStep 18 = .ok (.iload_n 1, 1) := by decide +kernel
theorem dX3_addStep_19 : decode cX3_addStep 19 = .ok (.iastore, 1) := by decide +kernel
theorem dX3_addStep_20 : decode cX3_addStep 20 = .ok (.aload_n 0, 1) := by decide +kernel
theorem dX3_addStep_21 : decode cX3_addStep 21 = .ok (.dup, 1) := by decide +kernel
theorem dX3_addStep_22 : decode cX3_addStep 22 = .ok (.getfield 31, 3) := by decide +kernel
theorem dX3_addStep_25 : decode cX3_addStep 25 = .ok (.iconst 1, 1) := by decide +kernel
theorem dX3_addStep_26 : decode cX3_addStep 26 = .ok (.iadd, 1) := by decide +kernel
theorem dX3_addStep_27 : decode cX3_addStep 27 = .ok (.putfield 31, 3) := by decide +kernel
theorem dX3_addStep_30 : decode cX3_addStep 30 = .ok (.return_, 1) := by decide +kernel
theorem dX3_empty_0 : decode cX3_empty 0 = .ok (.aload_n 0, 1) := by decide +kernel
theorem dX3_empty_1 : decode cX3_empty 1 = .ok (.iconst 0, 1) := by decide +kernel
theorem dX3_empty_2 : decode cX3_empty 2 = .ok (.putfield 31, 3) := by decide +kernel
theorem dX3_empty_5 : decode cX3_empty 5 = .ok (.aload_n 0, 1) := by decide +kernel
theorem dX3_empty_6 : decode cX3_empty 6 = .ok (.getfield 15, 3) := by decide +kernel
theorem dX3_empty_9 : decode cX3_empty 9 = .ok (.iconst 0, 1) := by decide +kernel
theorem dX3_empty_10 : decode cX3_empty 10 = .ok (.invokestatic 34, 3) := by decide +kernel
theorem dX3_empty_13 : decode cX3_empty 13 = .ok (.aload_n 0, 1) := by decide +kernel
theorem dX3_empty_14 : decode cX3_empty 14 = .ok (.getfield 18, 3) := by decide +kernel
theorem dX3_empty_17 : decode cX3_empty 17 = .ok (.iconst 0, 1) := by decide +kernel
theorem dX3_empty_18 : decode cX3_empty 18 = .ok (.invokestatic 34, 3) := by decide +kernel
theorem dX3_empty_21 : decode cX3_empty 21 = .ok (.aload_n 0, 1) := by decide +kernel
theorem dX3_empty_22 : decode cX3_empty 22 = .ok (.iconst 0, 1) := by decide +kernel
theorem dX3_empty_23 : decode cX3_empty 23 = .ok (.putfield 40, 3) := by decide +kernel
theorem dX3_empty_26 : decode cX3_empty 26 = .ok (.aload_n 0, 1) := by decide +kernel
theorem dX3_empty_27 : decode cX3_empty 27 = .ok (.iconst 0, 1) := by decide +kernel
theorem dX3_empty_28 : decode cX3_empty 28 = .ok (.putfield 43, 3) := by decide +kernel
theorem dX3_empty_31 : decode cX3_empty 31 = .ok (.aload_n 0, 1) := by decide +kernel
theorem dX3_empty_32 : decode cX3_empty 32 = .ok (.iconst 3, 1) := by decide +kernel
theorem dX3_empty_33 : decode cX3_empty 33 = .ok (.putfield 21, 3) := by decide +kernel
theorem dX3_empty_36 : decode cX3_empty 36 = .ok (.aload_n 0, 1) := by decide +kernel
theorem dX3_empty_37 : decode cX3_empty 37 = .ok (.bipush 100, 2) := by decide +kernel
theorem dX3_empty_39 : decode cX3_empty 39 = .ok (.putfield 25, 3) := by decide +kernel
theorem dX3_empty_42 : decode cX3_empty 42 = .ok (.return_, 1) := by decide +kernel
theorem dX3_isTold_0 : decode cX3_isTold 0 = .ok (.aload_n 0, 1) := by decide +kernel
theorem dX3_isTold_1 : decode cX3_isTold 1 = .ok (.getfield 18, 3) := by decide +kernel
theorem dX3_isTold_4 : decode cX3_isTold 4 = .ok (.iload_n 1, 1) := by decide +kernel
theorem dX3_isTold_5 : decode cX3_isTold 5 = .ok (.iaload, 1) := by decide +kernel
theorem dX3_isTold_6 : decode cX3_isTold 6 = .ok (.aload_n 0, 1) := by decide +kernel
theorem dX3_isTold_7 : decode cX3_isTold 7 = .ok (.getfield 15, 3) := by decide +kernel
theorem dX3_isTold_10 : decode cX3_isTold 10 = .ok (.iload_n 1, 1) := by decide +kernel
theorem dX3_isTold_11 : decode cX3_isTold 11 = .ok (.iaload, 1) := by decide +kernel
theorem dX3_isTold_12 : decode cX3_isTold 12 = .ok (.if_icmp .le 7, 3) := by decide +kernel
theorem dX3_isTold_15 : decode cX3_isTold 15 = .ok (.iconst 1, 1) := by decide +kernel
theorem dX3_isTold_16 : decode cX3_isTold 16 = .ok (.goto 4, 3) := by decide +kernel
theorem dX3_isTold_19 : decode cX3_isTold 19 = .ok (.iconst 0, 1) := by decide +kernel
theorem dX3_isTold_20 : decode cX3_isTold 20 = .ok (.ireturn, 1) := by decide +kernel
theorem dX3_join_0 : decode cX3_join 0 = .ok (.iload_n 0, 1) := by decide +kernel
theorem dX3_join_1 : decode cX3_join 1 = .ok (.tableswitch 97 20001 20006 #[39, 53, 67, 78, 89, 93], 39) := by decide +kernel
theorem dX3_join_40 : decode cX3_join 40 = .ok (.iload_n 1, 1) := by decide +kernel
theorem dX3_join_41 : decode cX3_join 41 = .ok (.ifCond .eq 11, 3) := by decide +kernel
theorem dX3_join_44 : decode cX3_join 44 = .ok (.iload_n 2, 1) := by decide +kernel
theorem dX3_join_45 : decode cX3_join 45 = .ok (.ifCond .eq 7, 3) := by decide +kernel
theorem dX3_join_48 : decode cX3_join 48 = .ok (.iconst 1, 1) := by decide +kernel
theorem dX3_join_49 : decode cX3_join 49 = .ok (.goto 4, 3) := by decide +kernel
theorem dX3_join_52 : decode cX3_join 52 = .ok (.iconst 0, 1) := by decide +kernel
theorem dX3_join_53 : decode cX3_join 53 = .ok (.ireturn, 1) := by decide +kernel
theorem dX3_join_54 : decode cX3_join 54 = .ok (.iload_n 1, 1) := by decide +kernel
theorem dX3_join_55 : decode cX3_join 55 = .ok (.ifCond .ne 7, 3) := by decide +kernel
theorem dX3_join_58 : decode cX3_join 58 = .ok (.iload_n 2, 1) := by decide +kernel
theorem dX3_join_59 : decode cX3_join 59 = .ok (.ifCond .eq 7, 3) := by decide +kernel
theorem dX3_join_62 : decode cX3_join 62 = .ok (.iconst 1, 1) := by decide +kernel
theorem dX3_join_63 : decode cX3_join 63 = .ok (.goto 4, 3) := by decide +kernel
theorem dX3_join_66 : decode cX3_join 66 = .ok (.iconst 0, 1) := by decide +kernel
theorem dX3_join_67 : decode cX3_join 67 = .ok (.ireturn, 1) := by decide +kernel
theorem dX3_join_68 : decode cX3_join 68 = .ok (.iload_n 1, 1) := by decide +kernel
theorem dX3_join_69 : decode cX3_join 69 = .ok (.iload_n 2, 1) := by decide +kernel
theorem dX3_join_70 : decode cX3_join 70 = .ok (.if_icmp .ge 7, 3) := by decide +kernel
theorem dX3_join_73 : decode cX3_join 73 = .ok (.iconst 1, 1) := by decide +kernel
theorem dX3_join_74 : decode cX3_join 74 = .ok (.goto 4, 3) := by decide +kernel
theorem dX3_join_77 : decode cX3_join 77 = .ok (.iconst 0, 1) := by decide +kernel
theorem dX3_join_78 : decode cX3_join 78 = .ok (.ireturn, 1) := by decide +kernel
theorem dX3_join_79 : decode cX3_join 79 = .ok (.iload_n 1, 1) := by decide +kernel
theorem dX3_join_80 : decode cX3_join 80 = .ok (.iload_n 2, 1) := by decide +kernel
theorem dX3_join_81 : decode cX3_join 81 = .ok (.if_icmp .ne 7, 3) := by decide +kernel
theorem dX3_join_84 : decode cX3_join 84 = .ok (.iconst 1, 1) := by decide +kernel
theorem dX3_join_85 : decode cX3_join 85 = .ok (.goto 4, 3) := by decide +kernel
theorem dX3_join_88 : decode cX3_join 88 = .ok (.iconst 0, 1) := by decide +kernel
theorem dX3_join_89 : decode cX3_join 89 = .ok (.ireturn, 1) := by decide +kernel
theorem dX3_join_90 : decode cX3_join 90 = .ok (.iload_n 1, 1) := by decide +kernel
theorem dX3_join_91 : decode cX3_join 91 = .ok (.iload_n 2, 1) := by decide +kernel
theorem dX3_join_92 : decode cX3_join 92 = .ok (.iadd, 1) := by decide +kernel
theorem dX3_join_93 : decode cX3_join 93 = .ok (.ireturn, 1) := by decide +kernel
theorem dX3_join_94 : decode cX3_join 94 = .ok (.iload_n 1, 1) := by decide +kernel
theorem dX3_join_95 : decode cX3_join 95 = .ok (.iload_n 2, 1) := by decide +kernel
theorem dX3_join_96 : decode cX3_join 96 = .ok (.isub, 1) := by decide +kernel
theorem dX3_join_97 : decode cX3_join 97 = .ok (.ireturn, 1) := by decide +kernel
theorem dX3_join_98 : decode cX3_join 98 = .ok (.iload_n 1, 1) := by decide +kernel
theorem dX3_join_99 : decode cX3_join 99 = .ok (.iload_n 2, 1) := by decide +kernel
theorem dX3_join_100 : decode cX3_join 100 = .ok (.imul, 1) := by decide +kernel
theorem dX3_join_101 : decode cX3_join 101 = .ok (.ireturn, 1) := by decide +kernel
theorem dX3_judgeBy_0 : decode cX3_judgeBy 0 = .ok (.iconst 0, 1) := by decide +kernel
theorem dX3_judgeBy_1 : decode cX3_judgeBy 1 = .ok (.istore_n 3, 1) := by decide +kernel
theorem dX3_judgeBy_2 : decode cX3_judgeBy 2 = .ok (.iload_n 3, 1) := by decide +kernel
theorem dX3_judgeBy_3 : decode cX3_judgeBy 3 = .ok (.aload_n 0, 1) := by decide +kernel
theorem dX3_judgeBy_4 : decode cX3_judgeBy 4 = .ok (.getfield 40, 3) := by decide +kernel
theorem dX3_judgeBy_7 : decode cX3_judgeBy 7 = .ok (.if_icmp .ge 23, 3) := by decide +kernel
theorem dX3_judgeBy_10 : decode cX3_judgeBy 10 = .ok (.aload_n 0, 1) := by decide +kernel
theorem dX3_judgeBy_11 : decode cX3_judgeBy 11 = .ok (.iconst 0, 1) := by decide +kernel
theorem dX3_judgeBy_12 : decode cX3_judgeBy 12 = .ok (.iload_n 3, 1) := by decide +kernel
theorem dX3_judgeBy_13 : decode cX3_judgeBy 13 = .ok (.iadd, 1) := by decide +kernel
theorem dX3_judgeBy_14 : decode cX3_judgeBy 14 = .ok (.aload_n 1, 1) := by decide +kernel
theorem dX3_judgeBy_15 : decode cX3_judgeBy 15 = .ok (.iload_n 2, 1) := by decide +kernel
theorem dX3_judgeBy_16 : decode cX3_judgeBy 16 = .ok (.invokevirtual 56, 3) := by decide +kernel
theorem dX3_judgeBy_19 : decode cX3_judgeBy 19 = .ok (.ifCond .eq 5, 3) := by decide +kernel
theorem dX3_judgeBy_22 : decode cX3_judgeBy 22 = .ok (.iconst 2, 1) := by decide +kernel
theorem dX3_judgeBy_23 : decode cX3_judgeBy 23 = .ok (.ireturn, 1) := by decide +kernel
theorem dX3_judgeBy_24 : decode cX3_judgeBy 24 = .ok (.iinc 3 1, 3) := by decide +kernel
theorem dX3_judgeBy_27 : decode cX3_judgeBy 27 = .ok (.goto (-25), 3) := by decide +kernel
theorem dX3_judgeBy_30 : decode cX3_judgeBy 30 = .ok (.iconst 0, 1) := by decide +kernel
theorem dX3_judgeBy_31 : decode cX3_judgeBy 31 = .ok (.istore_n 3, 1) := by decide +kernel
theorem dX3_judgeBy_32 : decode cX3_judgeBy 32 = .ok (.iload_n 3, 1) := by decide +kernel
theorem dX3_judgeBy_33 : decode cX3_judgeBy 33 = .ok (.aload_n 0, 1) := by decide +kernel
theorem dX3_judgeBy_34 : decode cX3_judgeBy 34 = .ok (.getfield 43, 3) := by decide +kernel
theorem dX3_judgeBy_37 : decode cX3_judgeBy 37 = .ok (.if_icmp .ge 24, 3) := by decide +kernel
theorem dX3_judgeBy_40 : decode cX3_judgeBy 40 = .ok (.aload_n 0, 1) := by decide +kernel
theorem dX3_judgeBy_41 : decode cX3_judgeBy 41 = .ok (.bipush 6, 2) := by decide +kernel
theorem dX3_judgeBy_43 : decode cX3_judgeBy 43 = .ok (.iload_n 3, 1) := by decide +kernel
theorem dX3_judgeBy_44 : decode cX3_judgeBy 44 = .ok (.iadd, 1) := by decide +kernel
theorem dX3_judgeBy_45 : decode cX3_judgeBy 45 = .ok (.aload_n 1, 1) := by decide +kernel
theorem dX3_judgeBy_46 : decode cX3_judgeBy 46 = .ok (.iload_n 2, 1) := by decide +kernel
theorem dX3_judgeBy_47 : decode cX3_judgeBy 47 = .ok (.invokevirtual 56, 3) := by decide +kernel
theorem dX3_judgeBy_50 : decode cX3_judgeBy 50 = .ok (.ifCond .eq 5, 3) := by decide +kernel
theorem dX3_judgeBy_53 : decode cX3_judgeBy 53 = .ok (.iconst 1, 1) := by decide +kernel
theorem dX3_judgeBy_54 : decode cX3_judgeBy 54 = .ok (.ireturn, 1) := by decide +kernel
theorem dX3_judgeBy_55 : decode cX3_judgeBy 55 = .ok (.iinc 3 1, 3) := by decide +kernel
theorem dX3_judgeBy_58 : decode cX3_judgeBy 58 = .ok (.goto (-26), 3) := by decide +kernel
theorem dX3_judgeBy_61 : decode cX3_judgeBy 61 = .ok (.iconst 0, 1) := by decide +kernel
theorem dX3_judgeBy_62 : decode cX3_judgeBy 62 = .ok (.ireturn, 1) := by decide +kernel
theorem dX3_rulesTold_0 : decode cX3_rulesTold 0 = .ok (.iconst 0, 1) := by decide +kernel
theorem dX3_rulesTold_1 : decode cX3_rulesTold 1 = .ok (.istore_n 1, 1) := by decide +kernel
theorem dX3_rulesTold_2 : decode cX3_rulesTold 2 = .ok (.iconst 0, 1) := by decide +kernel
theorem dX3_rulesTold_3 : decode cX3_rulesTold 3 = .ok (.istore_n 2, 1) := by decide +kernel
theorem dX3_rulesTold_4 : decode cX3_rulesTold 4 = .ok (.iload_n 2, 1) := by decide +kernel
theorem dX3_rulesTold_5 : decode cX3_rulesTold 5 = .ok (.bipush 8, 2) := by decide +kernel
theorem dX3_rulesTold_7 : decode cX3_rulesTold 7 = .ok (.if_icmp .ge 23, 3) := by decide +kernel
theorem dX3_rulesTold_10 : decode cX3_rulesTold 10 = .ok (.aload_n 0, 1) := by decide +kernel
theorem dX3_rulesTold_11 : decode cX3_rulesTold 11 = .ok (.bipush 12, 2) := by decide +kernel
theorem dX3_rulesTold_13 : decode cX3_rulesTold 13 = .ok (.iload_n 2, 1) := by decide +kernel
theorem dX3_rulesTold_14 : decode cX3_rulesTold 14 = .ok (.iadd, 1) := by decide +kernel
theorem dX3_rulesTold_15 : decode cX3_rulesTold 15 = .ok (.invokevirtual 52, 3) := by decide +kernel
theorem dX3_rulesTold_18 : decode cX3_rulesTold 18 = .ok (.ifCond .eq 6, 3) := by decide +kernel
theorem dX3_rulesTold_21 : decode cX3_rulesTold 21 = .ok (.iinc 1 1, 3) := by decide +kernel
theorem dX3_rulesTold_24 : decode cX3_rulesTold 24 = .ok (.iinc 2 1, 3) := by decide +kernel
theorem dX3_rulesTold_27 : decode cX3_rulesTold 27 = .ok (.goto (-23), 3) := by decide +kernel
theorem dX3_rulesTold_30 : decode cX3_rulesTold 30 = .ok (.iload_n 1, 1) := by decide +kernel
theorem dX3_rulesTold_31 : decode cX3_rulesTold 31 = .ok (.ireturn, 1) := by decide +kernel
theorem dX3_takeOver_0 : decode cX3_takeOver 0 = .ok (.aload_n 1, 1) := by decide +kernel
theorem dX3_takeOver_1 : decode cX3_takeOver 1 = .ok (.getfield 11, 3) := by decide +kernel
theorem dX3_takeOver_4 : decode cX3_takeOver 4 = .ok (.iconst 0, 1) := by decide +kernel
theorem dX3_takeOver_5 : decode cX3_takeOver 5 = .ok (.aload_n 0, 1) := by decide +kernel
theorem dX3_takeOver_6 : decode cX3_takeOver 6 = .ok (.getfield 11, 3) := by decide +kernel
theorem dX3_takeOver_9 : decode cX3_takeOver 9 = .ok (.iconst 0, 1) := by decide +kernel
theorem dX3_takeOver_10 : decode cX3_takeOver 10 = .ok (.aload_n 1, 1) := by decide +kernel
theorem dX3_takeOver_11 : decode cX3_takeOver 11 = .ok (.getfield 31, 3) := by decide +kernel
theorem dX3_takeOver_14 : decode cX3_takeOver 14 = .ok (.invokestatic 46, 3) := by decide +kernel
theorem dX3_takeOver_17 : decode cX3_takeOver 17 = .ok (.aload_n 1, 1) := by decide +kernel
theorem dX3_takeOver_18 : decode cX3_takeOver 18 = .ok (.getfield 15, 3) := by decide +kernel
theorem dX3_takeOver_21 : decode cX3_takeOver 21 = .ok (.iconst 0, 1) := by decide +kernel
theorem dX3_takeOver_22 : decode cX3_takeOver 22 = .ok (.aload_n 0, 1) := by decide +kernel
theorem dX3_takeOver_23 : decode cX3_takeOver 23 = .ok (.getfield 15, 3) := by decide +kernel
theorem dX3_takeOver_26 : decode cX3_takeOver 26 = .ok (.iconst 0, 1) := by decide +kernel
theorem dX3_takeOver_27 : decode cX3_takeOver 27 = .ok (.bipush 21, 2) := by decide +kernel
theorem dX3_takeOver_29 : decode cX3_takeOver 29 = .ok (.invokestatic 46, 3) := by decide +kernel
theorem dX3_takeOver_32 : decode cX3_takeOver 32 = .ok (.aload_n 1, 1) := by decide +kernel
theorem dX3_takeOver_33 : decode cX3_takeOver 33 = .ok (.getfield 18, 3) := by decide +kernel
theorem dX3_takeOver_36 : decode cX3_takeOver 36 = .ok (.iconst 0, 1) := by decide +kernel
theorem dX3_takeOver_37 : decode cX3_takeOver 37 = .ok (.aload_n 0, 1) := by decide +kernel
theorem dX3_takeOver_38 : decode cX3_takeOver 38 = .ok (.getfield 18, 3) := by decide +kernel
theorem dX3_takeOver_41 : decode cX3_takeOver 41 = .ok (.iconst 0, 1) := by decide +kernel
theorem dX3_takeOver_42 : decode cX3_takeOver 42 = .ok (.bipush 21, 2) := by decide +kernel
theorem dX3_takeOver_44 : decode cX3_takeOver 44 = .ok (.invokestatic 46, 3) := by decide +kernel
theorem dX3_takeOver_47 : decode cX3_takeOver 47 = .ok (.aload_n 0, 1) := by decide +kernel
theorem dX3_takeOver_48 : decode cX3_takeOver 48 = .ok (.aload_n 1, 1) := by decide +kernel
theorem dX3_takeOver_49 : decode cX3_takeOver 49 = .ok (.getfield 31, 3) := by decide +kernel
theorem dX3_takeOver_52 : decode cX3_takeOver 52 = .ok (.putfield 31, 3) := by decide +kernel
theorem dX3_takeOver_55 : decode cX3_takeOver 55 = .ok (.aload_n 0, 1) := by decide +kernel
theorem dX3_takeOver_56 : decode cX3_takeOver 56 = .ok (.aload_n 1, 1) := by decide +kernel
theorem dX3_takeOver_57 : decode cX3_takeOver 57 = .ok (.getfield 40, 3) := by decide +kernel
theorem dX3_takeOver_60 : decode cX3_takeOver 60 = .ok (.putfield 40, 3) := by decide +kernel
theorem dX3_takeOver_63 : decode cX3_takeOver 63 = .ok (.aload_n 0, 1) := by decide +kernel
theorem dX3_takeOver_64 : decode cX3_takeOver 64 = .ok (.aload_n 1, 1) := by decide +kernel
theorem dX3_takeOver_65 : decode cX3_takeOver 65 = .ok (.getfield 43, 3) := by decide +kernel
theorem dX3_takeOver_68 : decode cX3_takeOver 68 = .ok (.putfield 43, 3) := by decide +kernel
theorem dX3_takeOver_71 : decode cX3_takeOver 71 = .ok (.aload_n 0, 1) := by decide +kernel
theorem dX3_takeOver_72 : decode cX3_takeOver 72 = .ok (.aload_n 1, 1) := by decide +kernel
theorem dX3_takeOver_73 : decode cX3_takeOver 73 = .ok (.getfield 21, 3) := by decide +kernel
theorem dX3_takeOver_76 : decode cX3_takeOver 76 = .ok (.putfield 21, 3) := by decide +kernel
theorem dX3_takeOver_79 : decode cX3_takeOver 79 = .ok (.aload_n 0, 1) := by decide +kernel
theorem dX3_takeOver_80 : decode cX3_takeOver 80 = .ok (.aload_n 1, 1) := by decide +kernel
theorem dX3_takeOver_81 : decode cX3_takeOver 81 = .ok (.getfield 25, 3) := by decide +kernel
theorem dX3_takeOver_84 : decode cX3_takeOver 84 = .ok (.putfield 25, 3) := by decide +kernel
theorem dX3_takeOver_87 : decode cX3_takeOver 87 = .ok (.return_, 1) := by decide +kernel
theorem dX3_valueOf_0 : decode cX3_valueOf 0 = .ok (.iconst 0, 1) := by decide +kernel
theorem dX3_valueOf_1 : decode cX3_valueOf 1 = .ok (.istore 4, 2) := by decide +kernel
theorem dX3_valueOf_3 : decode cX3_valueOf 3 = .ok (.aload_n 0, 1) := by decide +kernel
theorem dX3_valueOf_4 : decode cX3_valueOf 4 = .ok (.getfield 15, 3) := by decide +kernel
theorem dX3_valueOf_7 : decode cX3_valueOf 7 = .ok (.iload_n 1, 1) := by decide +kernel
theorem dX3_valueOf_8 : decode cX3_valueOf 8 = .ok (.iaload, 1) := by decide +kernel
theorem dX3_valueOf_9 : decode cX3_valueOf 9 = .ok (.istore 5, 2) := by decide +kernel
theorem dX3_valueOf_11 : decode cX3_valueOf 11 = .ok (.iload 5, 2) := by decide +kernel
theorem dX3_valueOf_13 : decode cX3_valueOf 13 = .ok (.aload_n 0, 1) := by decide +kernel
theorem dX3_valueOf_14 : decode cX3_valueOf 14 = .ok (.getfield 18, 3) := by decide +kernel
theorem dX3_valueOf_17 : decode cX3_valueOf 17 = .ok (.iload_n 1, 1) := by decide +kernel
theorem dX3_valueOf_18 : decode cX3_valueOf 18 = .ok (.iaload, 1) := by decide +kernel
theorem dX3_valueOf_19 : decode cX3_valueOf 19 = .ok (.if_icmp .ge 150, 3) := by decide +kernel
theorem dX3_valueOf_22 : decode cX3_valueOf 22 = .ok (.aload_n 0, 1) := by decide +kernel
theorem dX3_valueOf_23 : decode cX3_valueOf 23 = .ok (.getfield 11, 3) := by decide +kernel
theorem dX3_valueOf_26 : decode cX3_valueOf 26 = .ok (.iload 5, 2) := by decide +kernel
theorem dX3_valueOf_28 : decode cX3_valueOf 28 = .ok (.iaload, 1) := by decide +kernel
theorem dX3_valueOf_29 : decode cX3_valueOf 29 = .ok (.istore 6, 2) := by decide +kernel
theorem dX3_valueOf_31 : decode cX3_valueOf 31 = .ok (.iload 6, 2) := by decide +kernel
theorem dX3_valueOf_33 : decode cX3_valueOf 33 = .ok (.sipush 20000, 3) := by decide +kernel
theorem dX3_valueOf_36 : decode cX3_valueOf 36 = .ok (.if_icmp .ge 46, 3) := by decide +kernel
theorem dX3_valueOf_39 : decode cX3_valueOf 39 = .ok (.iload 4, 2) := by decide +kernel
theorem dX3_valueOf_41 : decode cX3_valueOf 41 = .ok (.bipush 32, 2) := by decide +kernel
theorem dX3_valueOf_43 : decode cX3_valueOf 43 = .ok (.if_icmp .ge 120, 3) := by decide +kernel
theorem dX3_valueOf_46 : decode cX3_valueOf 46 = .ok (.aload_n 0, 1) := by decide +kernel
theorem dX3_valueOf_47 : decode cX3_valueOf 47 = .ok (.getfield 28, 3) := by decide +kernel
theorem dX3_valueOf_50 : decode cX3_valueOf 50 = .ok (.iload 4, 2) := by decide +kernel
theorem dX3_valueOf_52 : decode cX3_valueOf 52 = .ok (.iload 6, 2) := by decide +kernel
theorem dX3_valueOf_54 : decode cX3_valueOf 54 = .ok (.sipush 10000, 3) := by decide +kernel
theorem dX3_valueOf_57 : decode cX3_valueOf 57 = .ok (.if_icmp .ge 8, 3) := by decide +kernel
theorem dX3_valueOf_60 : decode cX3_valueOf 60 = .ok (.iload 6, 2) := by decide +kernel
theorem dX3_valueOf_62 : decode cX3_valueOf 62 = .ok (.goto 13, 3) := by decide +kernel
theorem dX3_valueOf_65 : decode cX3_valueOf 65 = .ok (.aload_n 2, 1) := by decide +kernel
theorem dX3_valueOf_66 : decode cX3_valueOf 66 = .ok (.iload_n 3, 1) := by decide +kernel
theorem dX3_valueOf_67 : decode cX3_valueOf 67 = .ok (.iload 6, 2) := by decide +kernel
theorem dX3_valueOf_69 : decode cX3_valueOf 69 = .ok (.iadd, 1) := by decide +kernel
theorem dX3_valueOf_70 : decode cX3_valueOf 70 = .ok (.sipush 10000, 3) := by decide +kernel
theorem dX3_valueOf_73 : decode cX3_valueOf 73 = .ok (.isub, 1) := by decide +kernel
theorem dX3_valueOf_74 : decode cX3_valueOf 74 = .ok (.iaload, 1) := by decide +kernel
theorem dX3_valueOf_75 : decode cX3_valueOf 75 = .ok (.iastore, 1) := by decide +kernel
theorem dX3_valueOf_76 : decode cX3_valueOf 76 = .ok (.iinc 4 1, 3) := by decide +kernel
theorem dX3_valueOf_79 : decode cX3_valueOf 79 = .ok (.goto 84, 3) := by decide +kernel
theorem dX3_valueOf_82 : decode cX3_valueOf 82 = .ok (.iload 6, 2) := by decide +kernel
theorem dX3_valueOf_84 : decode cX3_valueOf 84 = .ok (.sipush 20000, 3) := by decide +kernel
theorem dX3_valueOf_87 : decode cX3_valueOf 87 = .ok (.if_icmp .ne 37, 3) := by decide +kernel
theorem dX3_valueOf_90 : decode cX3_valueOf 90 = .ok (.iload 4, 2) := by decide +kernel
theorem dX3_valueOf_92 : decode cX3_valueOf 92 = .ok (.ifCond .le 71, 3) := by decide +kernel
theorem dX3_valueOf_95 : decode cX3_valueOf 95 = .ok (.aload_n 0, 1) := by decide +kernel
theorem dX3_valueOf_96 : decode cX3_valueOf 96 = .ok (.getfield 28, 3) := by decide +kernel
theorem dX3_valueOf_99 : decode cX3_valueOf 99 = .ok (.iload 4, 2) := by decide +kernel
theorem dX3_valueOf_101 : decode cX3_valueOf 101 = .ok (.iconst 1, 1) := by decide +kernel
theorem dX3_valueOf_102 : decode cX3_valueOf 102 = .ok (.isub, 1) := by decide +kernel
theorem dX3_valueOf_103 : decode cX3_valueOf 103 = .ok (.aload_n 0, 1) := by decide +kernel
theorem dX3_valueOf_104 : decode cX3_valueOf 104 = .ok (.getfield 28, 3) := by decide +kernel
theorem dX3_valueOf_107 : decode cX3_valueOf 107 = .ok (.iload 4, 2) := by decide +kernel
theorem dX3_valueOf_109 : decode cX3_valueOf 109 = .ok (.iconst 1, 1) := by decide +kernel
theorem dX3_valueOf_110 : decode cX3_valueOf 110 = .ok (.isub, 1) := by decide +kernel
theorem dX3_valueOf_111 : decode cX3_valueOf 111 = .ok (.iaload, 1) := by decide +kernel
theorem dX3_valueOf_112 : decode cX3_valueOf 112 = .ok (.ifCond .ne 7, 3) := by decide +kernel
theorem dX3_valueOf_115 : decode cX3_valueOf 115 = .ok (.iconst 1, 1) := by decide +kernel
theorem dX3_valueOf_116 : decode cX3_valueOf 116 = .ok (.goto 4, 3) := by decide +kernel
theorem dX3_valueOf_119 : decode cX3_valueOf 119 = .ok (.iconst 0, 1) := by decide +kernel
theorem dX3_valueOf_120 : decode cX3_valueOf 120 = .ok (.iastore, 1) := by decide +kernel
theorem dX3_valueOf_121 : decode cX3_valueOf 121 = .ok (.goto 42, 3) := by decide +kernel
theorem dX3_valueOf_124 : decode cX3_valueOf 124 = .ok (.iload 4, 2) := by decide +kernel
theorem dX3_valueOf_126 : decode cX3_valueOf 126 = .ok (.iconst 1, 1) := by decide +kernel
theorem dX3_valueOf_127 : decode cX3_valueOf 127 = .ok (.if_icmp .le 36, 3) := by decide +kernel
theorem dX3_valueOf_130 : decode cX3_valueOf 130 = .ok (.iinc 4 (-1), 3) := by decide +kernel
theorem dX3_valueOf_133 : decode cX3_valueOf 133 = .ok (.aload_n 0, 1) := by decide +kernel
theorem dX3_valueOf_134 : decode cX3_valueOf 134 = .ok (.getfield 28, 3) := by decide +kernel
theorem dX3_valueOf_137 : decode cX3_valueOf 137 = .ok (.iload 4, 2) := by decide +kernel
theorem dX3_valueOf_139 : decode cX3_valueOf 139 = .ok (.iconst 1, 1) := by decide +kernel
theorem dX3_valueOf_140 : decode cX3_valueOf 140 = .ok (.isub, 1) := by decide +kernel
theorem dX3_valueOf_141 : decode cX3_valueOf 141 = .ok (.iload 6, 2) := by decide +kernel
theorem dX3_valueOf_143 : decode cX3_valueOf 143 = .ok (.aload_n 0, 1) := by decide +kernel
theorem dX3_valueOf_144 : decode cX3_valueOf 144 = .ok (.getfield 28, 3) := by decide +kernel
theorem dX3_valueOf_147 : decode cX3_valueOf 147 = .ok (.iload 4, 2) := by decide +kernel
theorem dX3_valueOf_149 : decode cX3_valueOf 149 = .ok (.iconst 1, 1) := by decide +kernel
theorem dX3_valueOf_150 : decode cX3_valueOf 150 = .ok (.isub, 1) := by decide +kernel
theorem dX3_valueOf_151 : decode cX3_valueOf 151 = .ok (.iaload, 1) := by decide +kernel
theorem dX3_valueOf_152 : decode cX3_valueOf 152 = .ok (.aload_n 0, 1) := by decide +kernel
theorem dX3_valueOf_153 : decode cX3_valueOf 153 = .ok (.getfield 28, 3) := by decide +kernel
theorem dX3_valueOf_156 : decode cX3_valueOf 156 = .ok (.iload 4, 2) := by decide +kernel
theorem dX3_valueOf_158 : decode cX3_valueOf 158 = .ok (.iaload, 1) := by decide +kernel
theorem dX3_valueOf_159 : decode cX3_valueOf 159 = .ok (.invokestatic 60, 3) := by decide +kernel
theorem dX3_valueOf_162 : decode cX3_valueOf 162 = .ok (.iastore, 1) := by decide +kernel
theorem dX3_valueOf_163 : decode cX3_valueOf 163 = .ok (.iinc 5 1, 3) := by decide +kernel
theorem dX3_valueOf_166 : decode cX3_valueOf 166 = .ok (.goto (-155), 3) := by decide +kernel
theorem dX3_valueOf_169 : decode cX3_valueOf 169 = .ok (.iload 4, 2) := by decide +kernel
theorem dX3_valueOf_171 : decode cX3_valueOf 171 = .ok (.ifCond .le 12, 3) := by decide +kernel
theorem dX3_valueOf_174 : decode cX3_valueOf 174 = .ok (.aload_n 0, 1) := by decide +kernel
theorem dX3_valueOf_175 : decode cX3_valueOf 175 = .ok (.getfield 28, 3) := by decide +kernel
theorem dX3_valueOf_178 : decode cX3_valueOf 178 = .ok (.iconst 0, 1) := by decide +kernel
theorem dX3_valueOf_179 : decode cX3_valueOf 179 = .ok (.iaload, 1) := by decide +kernel
theorem dX3_valueOf_180 : decode cX3_valueOf 180 = .ok (.goto 4, 3) := by decide +kernel
theorem dX3_valueOf_183 : decode cX3_valueOf 183 = .ok (.iconst 0, 1) := by decide +kernel
theorem dX3_valueOf_184 : decode cX3_valueOf 184 = .ok (.ireturn, 1) := by decide +kernel
theorem dX4_aloneHours_0 : decode cX4_aloneHours 0 = .ok (.iconst 0, 1) := by decide +kernel
theorem dX4_aloneHours_1 : decode cX4_aloneHours 1 = .ok (.istore 4, 2) := by decide +kernel
theorem dX4_aloneHours_3 : decode cX4_aloneHours 3 = .ok (.iload 4, 2) := by decide +kernel
theorem dX4_aloneHours_5 : decode cX4_aloneHours 5 = .ok (.aload_n 0, 1) := by decide +kernel
theorem dX4_aloneHours_6 : decode cX4_aloneHours 6 = .ok (.getfield 27, 3) := by decide +kernel
theorem dX4_aloneHours_9 : decode cX4_aloneHours 9 = .ok (.if_icmp .ge 50, 3) := by decide +kernel
theorem dX4_aloneHours_12 : decode cX4_aloneHours 12 = .ok (.aload_n 0, 1) := by decide +kernel
theorem dX4_aloneHours_13 : decode cX4_aloneHours 13 = .ok (.getfield 9, 3) := by decide +kernel
theorem dX4_aloneHours_16 : decode cX4_aloneHours 16 = .ok (.iload 4, 2) := by decide +kernel
theorem dX4_aloneHours_18 : decode cX4_aloneHours 18 = .ok (.iaload, 1) := by decide +kernel
theorem dX4_aloneHours_19 : decode cX4_aloneHours 19 = .ok (.iload_n 1, 1) := by decide +kernel
theorem dX4_aloneHours_20 : decode cX4_aloneHours 20 = .ok (.if_icmp .ne 33, 3) := by decide +kernel
theorem dX4_aloneHours_23 : decode cX4_aloneHours 23 = .ok (.aload_n 0, 1) := by decide +kernel
theorem dX4_aloneHours_24 : decode cX4_aloneHours 24 = .ok (.getfield 15, 3) := by decide +kernel
theorem dX4_aloneHours_27 : decode cX4_aloneHours 27 = .ok (.iload 4, 2) := by decide +kernel
theorem dX4_aloneHours_29 : decode cX4_aloneHours 29 = .ok (.iaload, 1) := by decide +kernel
theorem dX4_aloneHours_30 : decode cX4_aloneHours 30 = .ok (.iload_n 2, 1) := by decide +kernel
theorem dX4_aloneHours_31 : decode cX4_aloneHours 31 = .ok (.if_icmp .ne 22, 3) := by decide +kernel
theorem dX4_aloneHours_34 : decode cX4_aloneHours 34 = .ok (.aload_n 0, 1) := by decide +kernel
theorem dX4_aloneHours_35 : decode cX4_aloneHours 35 = .ok (.getfield 18, 3) := by decide +kernel
theorem dX4_aloneHours_38 : decode cX4_aloneHours 38 = .ok (.iload 4, 2) := by decide +kernel
theorem dX4_aloneHours_40 : decode cX4_aloneHours 40 = .ok (.iaload, 1) := by decide +kernel
theorem dX4_aloneHours_41 : decode cX4_aloneHours 41 = .ok (.iload_n 3, 1) := by decide +kernel
theorem dX4_aloneHours_42 : decode cX4_aloneHours 42 = .ok (.if_icmp .ne 11, 3) := by decide +kernel
theorem dX4_aloneHours_45 : decode cX4_aloneHours 45 = .ok (.aload_n 0, 1) := by decide +kernel
theorem dX4_aloneHours_46 : decode cX4_aloneHours 46 = .ok (.getfield 24, 3) := by decide +kernel
theorem dX4_aloneHours_49 : decode cX4_aloneHours 49 = .ok (.iload 4, 2) := by decide +kernel
theorem dX4_aloneHours_51 : decode cX4_aloneHours 51 = .ok (.iaload, 1) := by decide +kernel
theorem dX4_aloneHours_52 : decode cX4_aloneHours 52 = .ok (.ireturn, 1) := by decide +kernel
theorem dX4_aloneHours_53 : decode cX4_aloneHours 53 = .ok (.iinc 4 1, 3) := by decide +kernel
theorem dX4_aloneHours_56 : decode cX4_aloneHours 56 = .ok (.goto (-53), 3) := by decide +kernel
theorem dX4_aloneHours_59 : decode cX4_aloneHours 59 = .ok (.iconst 0, 1) := by decide +kernel
theorem dX4_aloneHours_60 : decode cX4_aloneHours 60 = .ok (.ireturn, 1) := by decide +kernel
theorem dX4_isElsewhere_0 : decode cX4_isElsewhere 0 = .ok (.iconst 0, 1) := by decide +kernel
theorem dX4_isElsewhere_1 : decode cX4_isElsewhere 1 = .ok (.istore 5, 2) := by decide +kernel
theorem dX4_isElsewhere_3 : decode cX4_isElsewhere 3 = .ok (.iload 5, 2) := by decide +kernel
theorem dX4_isElsewhere_5 : decode cX4_isElsewhere 5 = .ok (.aload_n 0, 1) := by decide +kernel
theorem dX4_isElsewhere_6 : decode cX4_isElsewhere 6 = .ok (.getfield 27, 3) := by decide +kernel
theorem dX4_isElsewhere_9 : decode cX4_isElsewhere 9 = .ok (.if_icmp .ge 57, 3) := by decide +kernel
theorem dX4_isElsewhere_12 : decode cX4_isElsewhere 12 = .ok (.aload_n 0, 1) := by decide +kernel
theorem dX4_isElsewhere_13 : decode cX4_isElsewhere 13 = .ok (.getfield 9, 3) := by decide +kernel
theorem dX4_isElsewhere_16 : decode cX4_isElsewhere 16 = .ok (.iload 5, 2) := by decide +kernel
theorem dX4_isElsewhere_18 : decode cX4_isElsewhere 18 = .ok (.iaload, 1) := by decide +kernel
theorem dX4_isElsewhere_19 : decode cX4_isElsewhere 19 = .ok (.iload_n 1, 1) := by decide +kernel
theorem dX4_isElsewhere_20 : decode cX4_isElsewhere 20 = .ok (.if_icmp .ne 40, 3) := by decide +kernel
theorem dX4_isElsewhere_23 : decode cX4_isElsewhere 23 = .ok (.aload_n 0, 1) := by decide +kernel
theorem dX4_isElsewhere_24 : decode cX4_isElsewhere 24 = .ok (.getfield 18, 3) := by decide +kernel
theorem dX4_isElsewhere_27 : decode cX4_isElsewhere 27 = .ok (.iload 5, 2) := by decide +kernel
theorem dX4_isElsewhere_29 : decode cX4_isElsewhere 29 = .ok (.iaload, 1) := by decide +kernel
theorem dX4_isElsewhere_30 : decode cX4_isElsewhere 30 = .ok (.iload_n 3, 1) := by decide +kernel
theorem dX4_isElsewhere_31 : decode cX4_isElsewhere 31 = .ok (.if_icmp .ne 29, 3) := by decide +kernel
theorem dX4_isElsewhere_34 : decode cX4_isElsewhere 34 = .ok (.aload_n 0, 1) := by decide +kernel
theorem dX4_isElsewhere_35 : decode cX4_isElsewhere 35 = .ok (.getfield 15, 3) := by decide +kernel
theorem dX4_isElsewhere_38 : decode cX4_isElsewhere 38 = .ok (.iload 5, 2) := by decide +kernel
theorem dX4_isElsewhere_40 : decode cX4_isElsewhere 40 = .ok (.iaload, 1) := by decide +kernel
theorem dX4_isElsewhere_41 : decode cX4_isElsewhere 41 = .ok (.iload_n 2, 1) := by decide +kernel
theorem dX4_isElsewhere_42 : decode cX4_isElsewhere 42 = .ok (.if_icmp .eq 18, 3) := by decide +kernel
theorem dX4_isElsewhere_45 : decode cX4_isElsewhere 45 = .ok (.aload_n 0, 1) := by decide +kernel
theorem dX4_isElsewhere_46 : decode cX4_isElsewhere 46 = .ok (.getfield 21, 3) := by decide +kernel
theorem dX4_isElsewhere_49 : decode cX4_isElsewhere 49 = .ok (.iload 5, 2) := by decide +kernel
theorem dX4_isElsewhere_51 : decode cX4_isElsewhere 51 = .ok (.iaload, 1) := by decide +kernel
theorem dX4_isElsewhere_52 : decode cX4_isElsewhere 52 = .ok (.iload 4, 2) := by decide +kernel
theorem dX4_isElsewhere_54 : decode cX4_isElsewhere 54 = .ok (.iand, 1) := by decide +kernel
theorem dX4_isElsewhere_55 : decode cX4_isElsewhere 55 = .ok (.ifCond .eq 5, 3) := by decide +kernel
theorem dX4_isElsewhere_58 : decode cX4_isElsewhere 58 = .ok (.iconst 1, 1) := by decide +kernel
theorem dX4_isElsewhere_59 : decode cX4_isElsewhere 59 = .ok (.ireturn, 1) := by decide +kernel
theorem dX4_isElsewhere_60 : decode cX4_isElsewhere 60 = .ok (.iinc 5 1, 3) := by decide +kernel
theorem dX4_isElsewhere_63 : decode cX4_isElsewhere 63 = .ok (.goto (-60), 3) := by decide +kernel
theorem dX4_isElsewhere_66 : decode cX4_isElsewhere 66 = .ok (.iconst 0, 1) := by decide +kernel
theorem dX4_isElsewhere_67 : decode cX4_isElsewhere 67 = .ok (.ireturn, 1) := by decide +kernel
theorem dX4_keepFirst_0 : decode cX4_keepFirst 0 = .ok (.aload_n 0, 1) := by decide +kernel
theorem dX4_keepFirst_1 : decode cX4_keepFirst 1 = .ok (.iload_n 1, 1) := by decide +kernel
theorem dX4_keepFirst_2 : decode cX4_keepFirst 2 = .ok (.putfield 27, 3) := by decide +kernel
theorem dX4_keepFirst_5 : decode cX4_keepFirst 5 = .ok (.aload_n 0, 1) := by decide +kernel
theorem dX4_keepFirst_6 : decode cX4_keepFirst 6 = .ok (.iconst 0, 1) := by decide +kernel
theorem dX4_keepFirst_7 : decode cX4_keepFirst 7 = .ok (.putfield 35, 3) := by decide +kernel
theorem dX4_keepFirst_10 : decode cX4_keepFirst 10 = .ok (.return_, 1) := by decide +kernel
theorem dX4_tellLine_0 : decode cX4_tellLine 0 = .ok (.aload_n 0, 1) := by decide +kernel
theorem dX4_tellLine_1 : decode cX4_tellLine 1 = .ok (.getfield 27, 3) := by decide +kernel
theorem dX4_tellLine_4 : decode cX4_tellLine 4 = .ok (.bipush 80, 2) := by decide +kernel
theorem dX4_tellLine_6 : decode cX4_tellLine 6 = .ok (.if_icmp .ge 15, 3) := by decide +kernel
theorem dX4_tellLine_9 : decode cX4_tellLine 9 = .ok (.aload_n 0, 1) := by decide +kernel
theorem dX4_tellLine_10 : decode cX4_tellLine 10 = .ok (.iload_n 1, 1) := by decide +kernel
theorem dX4_tellLine_11 : decode cX4_tellLine 11 = .ok (.iload_n 2, 1) := by decide +kernel
theorem dX4_tellLine_12 : decode cX4_tellLine 12 = .ok (.iload_n 3, 1) := by decide +kernel
theorem dX4_tellLine_13 : decode cX4_tellLine 13 = .ok (.iload 4, 2) := by decide +kernel
theorem dX4_tellLine_15 : decode cX4_tellLine 15 = .ok (.invokevirtual 31, 3) := by decide +kernel
theorem dX4_tellLine_18 : decode cX4_tellLine 18 = .ok (.ifCond .eq 5, 3) := by decide +kernel
theorem dX4_tellLine_21 : decode cX4_tellLine 21 = .ok (.iconst 0, 1) := by decide +kernel
theorem dX4_tellLine_22 : decode cX4_tellLine 22 = .ok (.ireturn, 1) := by decide +kernel
theorem dX4_tellLine_23 : decode cX4_tellLine 23 = .ok (.aload_n 0, 1) := by decide +kernel
theorem dX4_tellLine_24 : decode cX4_tellLine 24 = .ok (.getfield 9, 3) := by decide +kernel
theorem dX4_tellLine_27 : decode cX4_tellLine 27 = .ok (.aload_n 0, 1) := by decide +kernel
theorem dX4_tellLine_28 : decode cX4_tellLine 28 = .ok (.getfield 27, 3) := by decide +kernel
theorem dX4_tellLine_31 : decode cX4_tellLine 31 = .ok (.iload_n 1, 1) := by decide +kernel
theorem dX4_tellLine_32 : decode cX4_tellLine 32 = .ok (.iastore, 1) := by decide +kernel
theorem dX4_tellLine_33 : decode cX4_tellLine 33 = .ok (.aload_n 0, 1) := by decide +kernel
theorem dX4_tellLine_34 : decode cX4_tellLine 34 = .ok (.getfield 15, 3) := by decide +kernel
theorem dX4_tellLine_37 : decode cX4_tellLine 37 = .ok (.aload_n 0, 1) := by decide +kernel
theorem dX4_tellLine_38 : decode cX4_tellLine 38 = .ok (.getfield 27, 3) := by decide +kernel
theorem dX4_tellLine_41 : decode cX4_tellLine 41 = .ok (.iload_n 2, 1) := by decide +kernel
theorem dX4_tellLine_42 : decode cX4_tellLine 42 = .ok (.iastore, 1) := by decide +kernel
theorem dX4_tellLine_43 : decode cX4_tellLine 43 = .ok (.aload_n 0, 1) := by decide +kernel
theorem dX4_tellLine_44 : decode cX4_tellLine 44 = .ok (.getfield 18, 3) := by decide +kernel
theorem dX4_tellLine_47 : decode cX4_tellLine 47 = .ok (.aload_n 0, 1) := by decide +kernel
theorem dX4_tellLine_48 : decode cX4_tellLine 48 = .ok (.getfield 27, 3) := by decide +kernel
theorem dX4_tellLine_51 : decode cX4_tellLine 51 = .ok (.iload_n 3, 1) := by decide +kernel
theorem dX4_tellLine_52 : decode cX4_tellLine 52 = .ok (.iastore, 1) := by decide +kernel
theorem dX4_tellLine_53 : decode cX4_tellLine 53 = .ok (.aload_n 0, 1) := by decide +kernel
theorem dX4_tellLine_54 : decode cX4_tellLine 54 = .ok (.getfield 21, 3) := by decide +kernel
theorem dX4_tellLine_57 : decode cX4_tellLine 57 = .ok (.aload_n 0, 1) := by decide +kernel
theorem dX4_tellLine_58 : decode cX4_tellLine 58 = .ok (.getfield 27, 3) := by decide +kernel
theorem dX4_tellLine_61 : decode cX4_tellLine 61 = .ok (.iload 4, 2) := by decide +kernel
theorem dX4_tellLine_63 : decode cX4_tellLine 63 = .ok (.iastore, 1) := by decide +kernel
theorem dX4_tellLine_64 : decode cX4_tellLine 64 = .ok (.aload_n 0, 1) := by decide +kernel
theorem dX4_tellLine_65 : decode cX4_tellLine 65 = .ok (.dup, 1) := by decide +kernel
theorem dX4_tellLine_66 : decode cX4_tellLine 66 = .ok (.getfield 27, 3) := by decide +kernel
theorem dX4_tellLine_69 : decode cX4_tellLine 69 = .ok (.iconst 1, 1) := by decide +kernel
theorem dX4_tellLine_70 : decode cX4_tellLine 70 = .ok (.iadd, 1) := by decide +kernel
theorem dX4_tellLine_71 : decode cX4_tellLine 71 = .ok (.putfield 27, 3) := by decide +kernel
theorem dX4_tellLine_74 : decode cX4_tellLine 74 = .ok (.aload_n 0, 1) := by decide +kernel
theorem dX4_tellLine_75 : decode cX4_tellLine 75 = .ok (.iconst 0, 1) := by decide +kernel
theorem dX4_tellLine_76 : decode cX4_tellLine 76 = .ok (.putfield 35, 3) := by decide +kernel
theorem dX4_tellLine_79 : decode cX4_tellLine 79 = .ok (.iconst 1, 1) := by decide +kernel
theorem dX4_tellLine_80 : decode cX4_tellLine 80 = .ok (.ireturn, 1) := by decide +kernel
theorem dX4_weigh_0 : decode cX4_weigh 0 = .ok (.aload_n 0, 1) := by decide +kernel
theorem dX4_weigh_1 : decode cX4_weigh 1 = .ok (.getfield 35, 3) := by decide +kernel
theorem dX4_weigh_4 : decode cX4_weigh 4 = .ok (.ifCond .eq 4, 3) := by decide +kernel
theorem dX4_weigh_7 : decode cX4_weigh 7 = .ok (.return_, 1) := by decide +kernel
theorem dX4_weigh_8 : decode cX4_weigh 8 = .ok (.iconst 0, 1) := by decide +kernel
theorem dX4_weigh_9 : decode cX4_weigh 9 = .ok (.istore_n 1, 1) := by decide +kernel
theorem dX4_weigh_10 : decode cX4_weigh 10 = .ok (.iload_n 1, 1) := by decide +kernel
theorem dX4_weigh_11 : decode cX4_weigh 11 = .ok (.aload_n 0, 1) := by decide +kernel
theorem dX4_weigh_12 : decode cX4_weigh 12 = .ok (.getfield 27, 3) := by decide +kernel
theorem dX4_weigh_15 : decode cX4_weigh 15 = .ok (.if_icmp .ge 116, 3) := by decide +kernel
theorem dX4_weigh_18 : decode cX4_weigh 18 = .ok (.iconst 0, 1) := by decide +kernel
theorem dX4_weigh_19 : decode cX4_weigh 19 = .ok (.istore_n 2, 1) := by decide +kernel
theorem dX4_weigh_20 : decode cX4_weigh 20 = .ok (.iconst 0, 1) := by decide +kernel
theorem dX4_weigh_21 : decode cX4_weigh 21 = .ok (.istore_n 3, 1) := by decide +kernel
theorem dX4_weigh_22 : decode cX4_weigh 22 = .ok (.iconst 0, 1) := by decide +kernel
theorem dX4_weigh_23 : decode cX4_weigh 23 = .ok (.istore 4, 2) := by decide +kernel
theorem dX4_weigh_25 : decode cX4_weigh 25 = .ok (.iload 4, 2) := by decide +kernel
theorem dX4_weigh_27 : decode cX4_weigh 27 = .ok (.aload_n 0, 1) := by decide +kernel
theorem dX4_weigh_28 : decode cX4_weigh 28 = .ok (.getfield 27, 3) := by decide +kernel
theorem dX4_weigh_31 : decode cX4_weigh 31 = .ok (.if_icmp .ge 83, 3) := by decide +kernel
theorem dX4_weigh_34 : decode cX4_weigh 34 = .ok (.aload_n 0, 1) := by decide +kernel
theorem dX4_weigh_35 : decode cX4_weigh 35 = .ok (.getfield 15, 3) := by decide +kernel
theorem dX4_weigh_38 : decode cX4_weigh 38 = .ok (.iload 4, 2) := by decide +kernel
theorem dX4_weigh_40 : decode cX4_weigh 40 = .ok (.iaload, 1) := by decide +kernel
theorem dX4_weigh_41 : decode cX4_weigh 41 = .ok (.aload_n 0, 1) := by decide +kernel
theorem dX4_weigh_42 : decode cX4_weigh 42 = .ok (.getfield 15, 3) := by decide +kernel
theorem dX4_weigh_45 : decode cX4_weigh 45 = .ok (.iload_n 1, 1) := by decide +kernel
theorem dX4_weigh_46 : decode cX4_weigh 46 = .ok (.iaload, 1) := by decide +kernel
theorem dX4_weigh_47 : decode cX4_weigh 47 = .ok (.if_icmp .ne 61, 3) := by decide +kernel
theorem dX4_weigh_50 : decode cX4_weigh 50 = .ok (.aload_n 0, 1) := by decide +kernel
theorem dX4_weigh_51 : decode cX4_weigh 51 = .ok (.getfield 18, 3) := by decide +kernel
theorem dX4_weigh_54 : decode cX4_weigh 54 = .ok (.iload 4, 2) := by decide +kernel
theorem dX4_weigh_56 : decode cX4_weigh 56 = .ok (.iaload, 1) := by decide +kernel
theorem dX4_weigh_57 : decode cX4_weigh 57 = .ok (.aload_n 0, 1) := by decide +kernel
theorem dX4_weigh_58 : decode cX4_weigh 58 = .ok (.getfield 18, 3) := by decide +kernel
theorem dX4_weigh_61 : decode cX4_weigh 61 = .ok (.iload_n 1, 1) := by decide +kernel
theorem dX4_weigh_62 : decode cX4_weigh 62 = .ok (.iaload, 1) := by decide +kernel
theorem dX4_weigh_63 : decode cX4_weigh 63 = .ok (.if_icmp .eq 6, 3) := by decide +kernel
theorem dX4_weigh_66 : decode cX4_weigh 66 = .ok (.goto 42, 3) := by decide +kernel
theorem dX4_weigh_69 : decode cX4_weigh 69 = .ok (.aload_n 0, 1) := by decide +kernel
theorem dX4_weigh_70 : decode cX4_weigh 70 = .ok (.getfield 9, 3) := by decide +kernel
theorem dX4_weigh_73 : decode cX4_weigh 73 = .ok (.iload 4, 2) := by decide +kernel
theorem dX4_weigh_75 : decode cX4_weigh 75 = .ok (.iaload, 1) := by decide +kernel
theorem dX4_weigh_76 : decode cX4_weigh 76 = .ok (.aload_n 0, 1) := by decide +kernel
theorem dX4_weigh_77 : decode cX4_weigh 77 = .ok (.getfield 9, 3) := by decide +kernel
theorem dX4_weigh_80 : decode cX4_weigh 80 = .ok (.iload_n 1, 1) := by decide +kernel
theorem dX4_weigh_81 : decode cX4_weigh 81 = .ok (.iaload, 1) := by decide +kernel
theorem dX4_weigh_82 : decode cX4_weigh 82 = .ok (.if_icmp .ne 16, 3) := by decide +kernel
theorem dX4_weigh_85 : decode cX4_weigh 85 = .ok (.iload_n 2, 1) := by decide +kernel
theorem dX4_weigh_86 : decode cX4_weigh 86 = .ok (.aload_n 0, 1) := by decide +kernel
theorem dX4_weigh_87 : decode cX4_weigh 87 = .ok (.getfield 21, 3) := by decide +kernel
theorem dX4_weigh_90 : decode cX4_weigh 90 = .ok (.iload 4, 2) := by decide +kernel
theorem dX4_weigh_92 : decode cX4_weigh 92 = .ok (.iaload, 1) := by decide +kernel
theorem dX4_weigh_93 : decode cX4_weigh 93 = .ok (.ior, 1) := by decide +kernel
theorem dX4_weigh_94 : decode cX4_weigh 94 = .ok (.istore_n 2, 1) := by decide +kernel
theorem dX4_weigh_95 : decode cX4_weigh 95 = .ok (.goto 13, 3) := by decide +kernel
theorem dX4_weigh_98 : decode cX4_weigh 98 = .ok (.iload_n 3, 1) := by decide +kernel
theorem dX4_weigh_99 : decode cX4_weigh 99 = .ok (.aload_n 0, 1) := by decide +kernel
theorem dX4_weigh_100 : decode cX4_weigh 100 = .ok (.getfield 21, 3) := by decide +kernel
theorem dX4_weigh_103 : decode cX4_weigh 103 = .ok (.iload 4, 2) := by decide +kernel
theorem dX4_weigh_105 : decode cX4_weigh 105 = .ok (.iaload, 1) := by decide +kernel
theorem dX4_weigh_106 : decode cX4_weigh 106 = .ok (.ior, 1) := by decide +kernel
theorem dX4_weigh_107 : decode cX4_weigh 107 = .ok (.istore_n 3, 1) := by decide +kernel
theorem dX4_weigh_108 : decode cX4_weigh 108 = .ok (.iinc 4 1, 3) := by decide +kernel
theorem dX4_weigh_111 : decode cX4_weigh 111 = .ok (.goto (-86), 3) := by decide +kernel
theorem dX4_weigh_114 : decode cX4_weigh 114 = .ok (.aload_n 0, 1) := by decide +kernel
theorem dX4_weigh_115 : decode cX4_weigh 115 = .ok (.getfield 24, 3) := by decide +kernel
theorem dX4_weigh_118 : decode cX4_weigh 118 = .ok (.iload_n 1, 1) := by decide +kernel
theorem dX4_weigh_119 : decode cX4_weigh 119 = .ok (.iload_n 2, 1) := by decide +kernel
theorem dX4_weigh_120 : decode cX4_weigh 120 = .ok (.iload_n 3, 1) := by decide +kernel
theorem dX4_weigh_121 : decode cX4_weigh 121 = .ok (.iconst (-1), 1) := by decide +kernel
theorem dX4_weigh_122 : decode cX4_weigh 122 = .ok (.ixor, 1) := by decide +kernel
theorem dX4_weigh_123 : decode cX4_weigh 123 = .ok (.iand, 1) := by decide +kernel
theorem dX4_weigh_124 : decode cX4_weigh 124 = .ok (.iastore, 1) := by decide +kernel
theorem dX4_weigh_125 : decode cX4_weigh 125 = .ok (.iinc 1 1, 3) := by decide +kernel
theorem dX4_weigh_128 : decode cX4_weigh 128 = .ok (.goto (-118), 3) := by decide +kernel
theorem dX4_weigh_131 : decode cX4_weigh 131 = .ok (.aload_n 0, 1) := by decide +kernel
theorem dX4_weigh_132 : decode cX4_weigh 132 = .ok (.iconst 1, 1) := by decide +kernel
theorem dX4_weigh_133 : decode cX4_weigh 133 = .ok (.putfield 35, 3) := by decide +kernel
theorem dX4_weigh_136 : decode cX4_weigh 136 = .ok (.return_, 1) := by decide +kernel
theorem dX4_whoAt_0 : decode cX4_whoAt 0 = .ok (.iconst 0, 1) := by decide +kernel
theorem dX4_whoAt_1 : decode cX4_whoAt 1 = .ok (.istore 4, 2) := by decide +kernel
theorem dX4_whoAt_3 : decode cX4_whoAt 3 = .ok (.iconst 0, 1) := by decide +kernel
theorem dX4_whoAt_4 : decode cX4_whoAt 4 = .ok (.istore 5, 2) := by decide +kernel
theorem dX4_whoAt_6 : decode cX4_whoAt 6 = .ok (.iload 5, 2) := by decide +kernel
theorem dX4_whoAt_8 : decode cX4_whoAt 8 = .ok (.aload_n 0, 1) := by decide +kernel
theorem dX4_whoAt_9 : decode cX4_whoAt 9 = .ok (.getfield 27, 3) := by decide +kernel
theorem dX4_whoAt_12 : decode cX4_whoAt 12 = .ok (.if_icmp .ge 60, 3) := by decide +kernel
theorem dX4_whoAt_15 : decode cX4_whoAt 15 = .ok (.aload_n 0, 1) := by decide +kernel
theorem dX4_whoAt_16 : decode cX4_whoAt 16 = .ok (.getfield 15, 3) := by decide +kernel
theorem dX4_whoAt_19 : decode cX4_whoAt 19 = .ok (.iload 5, 2) := by decide +kernel
theorem dX4_whoAt_21 : decode cX4_whoAt 21 = .ok (.iaload, 1) := by decide +kernel
theorem dX4_whoAt_22 : decode cX4_whoAt 22 = .ok (.iload_n 1, 1) := by decide +kernel
theorem dX4_whoAt_23 : decode cX4_whoAt 23 = .ok (.if_icmp .ne 43, 3) := by decide +kernel
theorem dX4_whoAt_26 : decode cX4_whoAt 26 = .ok (.aload_n 0, 1) := by decide +kernel
theorem dX4_whoAt_27 : decode cX4_whoAt 27 = .ok (.getfield 18, 3) := by decide +kernel
theorem dX4_whoAt_30 : decode cX4_whoAt 30 = .ok (.iload 5, 2) := by decide +kernel
theorem dX4_whoAt_32 : decode cX4_whoAt 32 = .ok (.iaload, 1) := by decide +kernel
theorem dX4_whoAt_33 : decode cX4_whoAt 33 = .ok (.iload_n 2, 1) := by decide +kernel
theorem dX4_whoAt_34 : decode cX4_whoAt 34 = .ok (.if_icmp .ne 32, 3) := by decide +kernel
theorem dX4_whoAt_37 : decode cX4_whoAt 37 = .ok (.aload_n 0, 1) := by decide +kernel
theorem dX4_whoAt_38 : decode cX4_whoAt 38 = .ok (.getfield 21, 3) := by decide +kernel
theorem dX4_whoAt_41 : decode cX4_whoAt 41 = .ok (.iload 5, 2) := by decide +kernel
theorem dX4_whoAt_43 : decode cX4_whoAt 43 = .ok (.iaload, 1) := by decide +kernel
theorem dX4_whoAt_44 : decode cX4_whoAt 44 = .ok (.i2l, 1) := by decide +kernel
theorem dX4_whoAt_45 : decode cX4_whoAt 45 = .ok (.iload_n 3, 1) := by decide +kernel
theorem dX4_whoAt_46 : decode cX4_whoAt 46 = .ok (.invokestatic 39, 3) := by decide +kernel
theorem dX4_whoAt_49 : decode cX4_whoAt 49 = .ok (.ifCond .eq 17, 3) := by decide +kernel
theorem dX4_whoAt_52 : decode cX4_whoAt 52 = .ok (.iload 4, 2) := by decide +kernel
theorem dX4_whoAt_54 : decode cX4_whoAt 54 = .ok (.iconst 1, 1) := by decide +kernel
theorem dX4_whoAt_55 : decode cX4_whoAt 55 = .ok (.aload_n 0, 1) := by decide +kernel
theorem dX4_whoAt_56 : decode cX4_whoAt 56 = .ok (.getfield 9, 3) := by decide +kernel
theorem dX4_whoAt_59 : decode cX4_whoAt 59 = .ok (.iload 5, 2) := by decide +kernel
theorem dX4_whoAt_61 : decode cX4_whoAt 61 = .ok (.iaload, 1) := by decide +kernel
theorem dX4_whoAt_62 : decode cX4_whoAt 62 = .ok (.ishl, 1) := by decide +kernel
theorem dX4_whoAt_63 : decode cX4_whoAt 63 = .ok (.ior, 1) := by decide +kernel
theorem dX4_whoAt_64 : decode cX4_whoAt 64 = .ok (.istore 4, 2) := by decide +kernel
theorem dX4_whoAt_66 : decode cX4_whoAt 66 = .ok (.iinc 5 1, 3) := by decide +kernel
theorem dX4_whoAt_69 : decode cX4_whoAt 69 = .ok (.goto (-63), 3) := by decide +kernel
theorem dX4_whoAt_72 : decode cX4_whoAt 72 = .ok (.iload 4, 2) := by decide +kernel
theorem dX4_whoAt_74 : decode cX4_whoAt 74 = .ok (.ireturn, 1) := by decide +kernel
theorem dX5_goBack_0 : decode cX5_goBack 0 = .ok (.aload_n 0, 1) := by decide +kernel
theorem dX5_goBack_1 : decode cX5_goBack 1 = .ok (.getfield 15, 3) := by decide +kernel
theorem dX5_goBack_4 : decode cX5_goBack 4 = .ok (.iload_n 1, 1) := by decide +kernel
theorem dX5_goBack_5 : decode cX5_goBack 5 = .ok (.iaload, 1) := by decide +kernel
theorem dX5_goBack_6 : decode cX5_goBack 6 = .ok (.ifCond .ne 5, 3) := by decide +kernel
theorem dX5_goBack_9 : decode cX5_goBack 9 = .ok (.iconst 0, 1) := by decide +kernel
theorem dX5_goBack_10 : decode cX5_goBack 10 = .ok (.ireturn, 1) := by decide +kernel
theorem dX5_goBack_11 : decode cX5_goBack 11 = .ok (.iconst 0, 1) := by decide +kernel
theorem dX5_goBack_12 : decode cX5_goBack 12 = .ok (.istore_n 2, 1) := by decide +kernel
theorem dX5_goBack_13 : decode cX5_goBack 13 = .ok (.iload_n 2, 1) := by decide +kernel
theorem dX5_goBack_14 : decode cX5_goBack 14 = .ok (.iconst 4, 1) := by decide +kernel
theorem dX5_goBack_15 : decode cX5_goBack 15 = .ok (.if_icmp .ge 31, 3) := by decide +kernel
theorem dX5_goBack_18 : decode cX5_goBack 18 = .ok (.aload_n 0, 1) := by decide +kernel
theorem dX5_goBack_19 : decode cX5_goBack 19 = .ok (.getfield 15, 3) := by decide +kernel
theorem dX5_goBack_22 : decode cX5_goBack 22 = .ok (.iload_n 2, 1) := by decide +kernel
theorem dX5_goBack_23 : decode cX5_goBack 23 = .ok (.iaload, 1) := by decide +kernel
theorem dX5_goBack_24 : decode cX5_goBack 24 = .ok (.aload_n 0, 1) := by decide +kernel
theorem dX5_goBack_25 : decode cX5_goBack 25 = .ok (.getfield 15, 3) := by decide +kernel
theorem dX5_goBack_28 : decode cX5_goBack 28 = .ok (.iload_n 1, 1) := by decide +kernel
theorem dX5_goBack_29 : decode cX5_goBack 29 = .ok (.iaload, 1) := by decide +kernel
theorem dX5_goBack_30 : decode cX5_goBack 30 = .ok (.if_icmp .le 10, 3) := by decide +kernel
theorem dX5_goBack_33 : decode cX5_goBack 33 = .ok (.aload_n 0, 1) := by decide +kernel
theorem dX5_goBack_34 : decode cX5_goBack 34 = .ok (.getfield 15, 3) := by decide +kernel
theorem dX5_goBack_37 : decode cX5_goBack 37 = .ok (.iload_n 2, 1) := by decide +kernel
theorem dX5_goBack_38 : decode cX5_goBack 38 = .ok (.iconst 0, 1) := by decide +kernel
theorem dX5_goBack_39 : decode cX5_goBack 39 = .ok (.iastore, 1) := by decide +kernel
theorem dX5_goBack_40 : decode cX5_goBack 40 = .ok (.iinc 2 1, 3) := by decide +kernel
theorem dX5_goBack_43 : decode cX5_goBack 43 = .ok (.goto (-30), 3) := by decide +kernel
theorem dX5_goBack_46 : decode cX5_goBack 46 = .ok (.iconst 1, 1) := by decide +kernel
theorem dX5_goBack_47 : decode cX5_goBack 47 = .ok (.ireturn, 1) := by decide +kernel
theorem dX5_kept_0 : decode cX5_kept 0 = .ok (.aload_n 0, 1) := by decide +kernel
theorem dX5_kept_1 : decode cX5_kept 1 = .ok (.getfield 11, 3) := by decide +kernel
theorem dX5_kept_4 : decode cX5_kept 4 = .ok (.iload_n 1, 1) := by decide +kernel
theorem dX5_kept_5 : decode cX5_kept 5 = .ok (.iconst 5, 1) := by decide +kernel
theorem dX5_kept_6 : decode cX5_kept 6 = .ok (.imul, 1) := by decide +kernel
theorem dX5_kept_7 : decode cX5_kept 7 = .ok (.iload_n 2, 1) := by decide +kernel
theorem dX5_kept_8 : decode cX5_kept 8 = .ok (.iadd, 1) := by decide +kernel
theorem dX5_kept_9 : decode cX5_kept 9 = .ok (.iaload, 1) := by decide +kernel
theorem dX5_kept_10 : decode cX5_kept 10 = .ok (.ireturn, 1) := by decide +kernel
theorem dX5_lay_0 : decode cX5_lay 0 = .ok (.iload_n 1, 1) := by decide +kernel
theorem dX5_lay_1 : decode cX5_lay 1 = .ok (.iconst 5, 1) := by decide +kernel
theorem dX5_lay_2 : decode cX5_lay 2 = .ok (.imul, 1) := by decide +kernel
theorem dX5_lay_3 : decode cX5_lay 3 = .ok (.istore 5, 2) := by decide +kernel
theorem dX5_lay_5 : decode cX5_lay 5 = .ok (.aload_n 0, 1) := by decide +kernel
theorem dX5_lay_6 : decode cX5_lay 6 = .ok (.getfield 11, 3) := by decide +kernel
theorem dX5_lay_9 : decode cX5_lay 9 = .ok (.iload 5, 2) := by decide +kernel
theorem dX5_lay_11 : decode cX5_lay 11 = .ok (.iconst 0, 1) := by decide +kernel
theorem dX5_lay_12 : decode cX5_lay 12 = .ok (.iadd, 1) := by decide +kernel
theorem dX5_lay_13 : decode cX5_lay 13 = .ok (.aload_n 2, 1) := by decide +kernel
theorem dX5_lay_14 : decode cX5_lay 14 = .ok (.getfield 18, 3) := by decide +kernel
theorem dX5_lay_17 : decode cX5_lay 17 = .ok (.iastore, 1) := by decide +kernel
theorem dX5_lay_18 : decode cX5_lay 18 = .ok (.aload_n 0, 1) := by decide +kernel
theorem dX5_lay_19 : decode cX5_lay 19 = .ok (.getfield 11, 3) := by decide +kernel
theorem dX5_lay_22 : decode cX5_lay 22 = .ok (.iload 5, 2) := by decide +kernel
theorem dX5_lay_24 : decode cX5_lay 24 = .ok (.iconst 1, 1) := by decide +kernel
theorem dX5_lay_25 : decode cX5_lay 25 = .ok (.iadd, 1) := by decide +kernel
theorem dX5_lay_26 : decode cX5_lay 26 = .ok (.iload_n 3, 1) := by decide +kernel
theorem dX5_lay_27 : decode cX5_lay 27 = .ok (.iastore, 1) := by decide +kernel
theorem dX5_lay_28 : decode cX5_lay 28 = .ok (.aload_n 0, 1) := by decide +kernel
theorem dX5_lay_29 : decode cX5_lay 29 = .ok (.getfield 11, 3) := by decide +kernel
theorem dX5_lay_32 : decode cX5_lay 32 = .ok (.iload 5, 2) := by decide +kernel
theorem dX5_lay_34 : decode cX5_lay 34 = .ok (.iconst 2, 1) := by decide +kernel
theorem dX5_lay_35 : decode cX5_lay 35 = .ok (.iadd, 1) := by decide +kernel
theorem dX5_lay_36 : decode cX5_lay 36 = .ok (.aload_n 2, 1) := by decide +kernel
theorem dX5_lay_37 : decode cX5_lay 37 = .ok (.getfield 24, 3) := by decide +kernel
theorem dX5_lay_40 : decode cX5_lay 40 = .ok (.iastore, 1) := by decide +kernel
theorem dX5_lay_41 : decode cX5_lay 41 = .ok (.aload_n 0, 1) := by decide +kernel
theorem dX5_lay_42 : decode cX5_lay 42 = .ok (.getfield 11, 3) := by decide +kernel
theorem dX5_lay_45 : decode cX5_lay 45 = .ok (.iload 5, 2) := by decide +kernel
theorem dX5_lay_47 : decode cX5_lay 47 = .ok (.iconst 3, 1) := by decide +kernel
theorem dX5_lay_48 : decode cX5_lay 48 = .ok (.iadd, 1) := by decide +kernel
theorem dX5_lay_49 : decode cX5_lay 49 = .ok (.aload_n 2, 1) := by decide +kernel
theorem dX5_lay_50 : decode cX5_lay 50 = .ok (.getfield 27, 3) := by decide +kernel
theorem dX5_lay_53 : decode cX5_lay 53 = .ok (.iastore, 1) := by decide +kernel
theorem dX5_lay_54 : decode cX5_lay 54 = .ok (.aload_n 0, 1) := by decide +kernel
theorem dX5_lay_55 : decode cX5_lay 55 = .ok (.getfield 11, 3) := by decide +kernel
theorem dX5_lay_58 : decode cX5_lay 58 = .ok (.iload 5, 2) := by decide +kernel
theorem dX5_lay_60 : decode cX5_lay 60 = .ok (.iconst 4, 1) := by decide +kernel
theorem dX5_lay_61 : decode cX5_lay 61 = .ok (.iadd, 1) := by decide +kernel
theorem dX5_lay_62 : decode cX5_lay 62 = .ok (.iload 4, 2) := by decide +kernel
theorem dX5_lay_64 : decode cX5_lay 64 = .ok (.iastore, 1) := by decide +kernel
theorem dX5_lay_65 : decode cX5_lay 65 = .ok (.aload_n 0, 1) := by decide +kernel
theorem dX5_lay_66 : decode cX5_lay 66 = .ok (.dup, 1) := by decide +kernel
theorem dX5_lay_67 : decode cX5_lay 67 = .ok (.getfield 30, 3) := by decide +kernel
theorem dX5_lay_70 : decode cX5_lay 70 = .ok (.iconst 1, 1) := by decide +kernel
theorem dX5_lay_71 : decode cX5_lay 71 = .ok (.iadd, 1) := by decide +kernel
theorem dX5_lay_72 : decode cX5_lay 72 = .ok (.putfield 30, 3) := by decide +kernel
theorem dX5_lay_75 : decode cX5_lay 75 = .ok (.aload_n 0, 1) := by decide +kernel
theorem dX5_lay_76 : decode cX5_lay 76 = .ok (.getfield 15, 3) := by decide +kernel
theorem dX5_lay_79 : decode cX5_lay 79 = .ok (.iload_n 1, 1) := by decide +kernel
theorem dX5_lay_80 : decode cX5_lay 80 = .ok (.aload_n 0, 1) := by decide +kernel
theorem dX5_lay_81 : decode cX5_lay 81 = .ok (.getfield 30, 3) := by decide +kernel
theorem dX5_lay_84 : decode cX5_lay 84 = .ok (.iastore, 1) := by decide +kernel
theorem dX5_lay_85 : decode cX5_lay 85 = .ok (.return_, 1) := by decide +kernel
theorem dX6_advance_0 : decode cX6_advance 0 = .ok (.aload_n 0, 1) := by decide +kernel
theorem dX6_advance_1 : decode cX6_advance 1 = .ok (.aload_n 0, 1) := by decide +kernel
theorem dX6_advance_2 : decode cX6_advance 2 = .ok (.getfield 47, 3) := by decide +kernel
theorem dX6_advance_5 : decode cX6_advance 5 = .ok (.putfield 158, 3) := by decide +kernel
theorem dX6_advance_8 : decode cX6_advance 8 = .ok (.aload_n 0, 1) := by decide +kernel
theorem dX6_advance_9 : decode cX6_advance 9 = .ok (.getfield 158, 3) := by decide +kernel
theorem dX6_advance_12 : decode cX6_advance 12 = .ok (.aload_n 0, 1) := by decide +kernel
theorem dX6_advance_13 : decode cX6_advance 13 = .ok (.getfield 30, 3) := by decide +kernel
theorem dX6_advance_16 : decode cX6_advance 16 = .ok (.if_icmp .ge 44, 3) := by decide +kernel
theorem dX6_advance_19 : decode cX6_advance 19 = .ok (.aload_n 0, 1) := by decide +kernel
theorem dX6_advance_20 : decode cX6_advance 20 = .ok (.getfield 9, 3) := by decide +kernel
theorem dX6_advance_23 : decode cX6_advance 23 = .ok (.aload_n 0, 1) := by decide +kernel
theorem dX6_advance_24 : decode cX6_advance 24 = .ok (.getfield 158, 3) := by decide +kernel
theorem dX6_advance_27 : decode cX6_advance 27 = .ok (.caload, 1) := by decide +kernel
theorem dX6_advance_28 : decode cX6_advance 28 = .ok (.bipush 10, 2) := by decide +kernel
theorem dX6_advance_30 : decode cX6_advance 30 = .ok (.if_icmp .eq 17, 3) := by decide +kernel
theorem dX6_advance_33 : decode cX6_advance 33 = .ok (.aload_n 0, 1) := by decide +kernel
theorem dX6_advance_34 : decode cX6_advance 34 = .ok (.getfield 9, 3) := by decide +kernel
theorem dX6_advance_37 : decode cX6_advance 37 = .ok (.aload_n 0, 1) := by decide +kernel
theorem dX6_advance_38 : decode cX6_advance 38 = .ok (.getfield 158, 3) := by decide +kernel
theorem dX6_advance_41 : decode cX6_advance 41 = .ok (.caload, 1) := by decide +kernel
theorem dX6_advance_42 : decode cX6_advance 42 = .ok (.bipush 32, 2) := by decide +kernel
theorem dX6_advance_44 : decode cX6_advance 44 = .ok (.if_icmp .ne 16, 3) := by decide +kernel
theorem dX6_advance_47 : decode cX6_advance 47 = .ok (.aload_n 0, 1) := by decide +kernel
theorem dX6_advance_48 : decode cX6_advance 48 = .ok (.dup, 1) := by decide +kernel
theorem dX6_advance_49 : decode cX6_advance 49 = .ok (.getfield 158, 3) := by decide +kernel
theorem dX6_advance_52 : decode cX6_advance 52 = .ok (.iconst 1, 1) := by decide +kernel
theorem dX6_advance_53 : decode cX6_advance 53 = .ok (.iadd, 1) := by decide +kernel
theorem dX6_advance_54 : decode cX6_advance 54 = .ok (.putfield 158, 3) := by decide +kernel
theorem dX6_advance_57 : decode cX6_advance 57 = .ok (.goto (-49), 3) := by decide +kernel
theorem dX6_advance_60 : decode cX6_advance 60 = .ok (.aload_n 0, 1) := by decide +kernel
theorem dX6_advance_61 : decode cX6_advance 61 = .ok (.aload_n 0, 1) := by decide +kernel
theorem dX6_advance_62 : decode cX6_advance 62 = .ok (.getfield 158, 3) := by decide +kernel
theorem dX6_advance_65 : decode cX6_advance 65 = .ok (.putfield 47, 3) := by decide +kernel
theorem dX6_advance_68 : decode cX6_advance 68 = .ok (.aload_n 0, 1) := by decide +kernel
theorem dX6_advance_69 : decode cX6_advance 69 = .ok (.getfield 158, 3) := by decide +kernel
theorem dX6_advance_72 : decode cX6_advance 72 = .ok (.aload_n 0, 1) := by decide +kernel
theorem dX6_advance_73 : decode cX6_advance 73 = .ok (.getfield 30, 3) := by decide +kernel
theorem dX6_advance_76 : decode cX6_advance 76 = .ok (.if_icmp .lt 11, 3) := by decide +kernel
theorem dX6_advance_79 : decode cX6_advance 79 = .ok (.aload_n 0, 1) := by decide +kernel
theorem dX6_advance_80 : decode cX6_advance 80 = .ok (.iconst 0, 1) := by decide +kernel
theorem dX6_advance_81 : decode cX6_advance 81 = .ok (.putfield 53, 3) := by decide +kernel
theorem dX6_advance_84 : decode cX6_advance 84 = .ok (.goto 109, 3) := by decide +kernel
theorem dX6_advance_87 : decode cX6_advance 87 = .ok (.aload_n 0, 1) := by decide +kernel
theorem dX6_advance_88 : decode cX6_advance 88 = .ok (.getfield 9, 3) := by decide +kernel
theorem dX6_advance_91 : decode cX6_advance 91 = .ok (.aload_n 0, 1) := by decide +kernel
theorem dX6_advance_92 : decode cX6_advance 92 = .ok (.getfield 158, 3) := by decide +kernel
theorem dX6_advance_95 : decode cX6_advance 95 = .ok (.caload, 1) := by decide +kernel
theorem dX6_advance_96 : decode cX6_advance 96 = .ok (.bipush 97, 2) := by decide +kernel
theorem dX6_advance_98 : decode cX6_advance 98 = .ok (.if_icmp .lt 24, 3) := by decide +kernel
theorem dX6_advance_101 : decode cX6_advance 101 = .ok (.aload_n 0, 1) := by decide +kernel
theorem dX6_advance_102 : decode cX6_advance 102 = .ok (.getfield 9, 3) := by decide +kernel
theorem dX6_advance_105 : decode cX6_advance 105 = .ok (.aload_n 0, 1) := by decide +kernel
theorem dX6_advance_106 : decode cX6_advance 106 = .ok (.getfield 158, 3) := by decide +kernel
theorem dX6_advance_109 : decode cX6_advance 109 = .ok (.caload, 1) := by decide +kernel
theorem dX6_advance_110 : decode cX6_advance 110 = .ok (.bipush 122, 2) := by decide +kernel
theorem dX6_advance_112 : decode cX6_advance 112 = .ok (.if_icmp .gt 10, 3) := by decide +kernel
theorem dX6_advance_115 : decode cX6_advance 115 = .ok (.aload_n 0, 1) := by decide +kernel
theorem dX6_advance_116 : decode cX6_advance 116 = .ok (.invokevirtual 175, 3) := by decide +kernel
theorem dX6_advance_119 : decode cX6_advance 119 = .ok (.goto 74, 3) := by decide +kernel
theorem dX6_advance_122 : decode cX6_advance 122 = .ok (.aload_n 0, 1) := by decide +kernel
theorem dX6_advance_123 : decode cX6_advance 123 = .ok (.getfield 9, 3) := by decide +kernel
theorem dX6_advance_126 : decode cX6_advance 126 = .ok (.aload_n 0, 1) := by decide +kernel
theorem dX6_advance_127 : decode cX6_advance 127 = .ok (.getfield 158, 3) := by decide +kernel
theorem dX6_advance_130 : decode cX6_advance 130 = .ok (.caload, 1) := by decide +kernel
theorem dX6_advance_131 : decode cX6_advance 131 = .ok (.bipush 48, 2) := by decide +kernel
theorem dX6_advance_133 : decode cX6_advance 133 = .ok (.if_icmp .lt 24, 3) := by decide +kernel
theorem dX6_advance_136 : decode cX6_advance 136 = .ok (.aload_n 0, 1) := by decide +kernel
theorem dX6_advance_137 : decode cX6_advance 137 = .ok (.getfield 9, 3) := by decide +kernel
theorem dX6_advance_140 : decode cX6_advance 140 = .ok (.aload_n 0, 1) := by decide +kernel
theorem dX6_advance_141 : decode cX6_advance 141 = .ok (.getfield 158, 3) := by decide +kernel
theorem dX6_advance_144 : decode cX6_advance 144 = .ok (.caload, 1) := by decide +kernel
theorem dX6_advance_145 : decode cX6_advance 145 = .ok (.bipush 57, 2) := by decide +kernel
theorem dX6_advance_147 : decode cX6_advance 147 = .ok (.if_icmp .gt 10, 3) := by decide +kernel
theorem dX6_advance_150 : decode cX6_advance 150 = .ok (.aload_n 0, 1) := by decide +kernel
theorem dX6_advance_151 : decode cX6_advance 151 = .ok (.invokevirtual 178, 3) := by decide +kernel
theorem dX6_advance_154 : decode cX6_advance 154 = .ok (.goto 39, 3) := by decide +kernel
theorem dX6_advance_157 : decode cX6_advance 157 = .ok (.aload_n 0, 1) := by decide +kernel
theorem dX6_advance_158 : decode cX6_advance 158 = .ok (.ldc 181, 2) := by decide +kernel
theorem dX6_advance_160 : decode cX6_advance 160 = .ok (.aload_n 0, 1) := by decide +kernel
theorem dX6_advance_161 : decode cX6_advance 161 = .ok (.getfield 9, 3) := by decide +kernel
theorem dX6_advance_164 : decode cX6_advance 164 = .ok (.aload_n 0, 1) := by decide +kernel
theorem dX6_advance_165 : decode cX6_advance 165 = .ok (.getfield 158, 3) := by decide +kernel
theorem dX6_advance_168 : decode cX6_advance 168 = .ok (.caload, 1) := by decide +kernel
theorem dX6_advance_169 : decode cX6_advance 169 = .ok (.invokevirtual 183, 3) := by decide +kernel
theorem dX6_advance_172 : decode cX6_advance 172 = .ok (.ifCond .lt 7, 3) := by decide +kernel
theorem dX6_advance_175 : decode cX6_advance 175 = .ok (.iconst 3, 1) := by decide +kernel
theorem dX6_advance_176 : decode cX6_advance 176 = .ok (.goto 4, 3) := by decide +kernel
theorem dX6_advance_179 : decode cX6_advance 179 = .ok (.iconst 4, 1) := by decide +kernel
theorem dX6_advance_180 : decode cX6_advance 180 = .ok (.putfield 53, 3) := by decide +kernel
theorem dX6_advance_183 : decode cX6_advance 183 = .ok (.aload_n 0, 1) := by decide +kernel
theorem dX6_advance_184 : decode cX6_advance 184 = .ok (.dup, 1) := by decide +kernel
theorem dX6_advance_185 : decode cX6_advance 185 = .ok (.getfield 47, 3) := by decide +kernel
theorem dX6_advance_188 : decode cX6_advance 188 = .ok (.iconst 1, 1) := by decide +kernel
theorem dX6_advance_189 : decode cX6_advance 189 = .ok (.iadd, 1) := by decide +kernel
theorem dX6_advance_190 : decode cX6_advance 190 = .ok (.putfield 47, 3) := by decide +kernel
theorem dX6_advance_193 : decode cX6_advance 193 = .ok (.return_, 1) := by decide +kernel
theorem dX6_barLine_0 : decode cX6_barLine 0 = .ok (.aload_n 0, 1) := by decide +kernel
theorem dX6_barLine_1 : decode cX6_barLine 1 = .ok (.getfield 18, 3) := by decide +kernel
theorem dX6_barLine_4 : decode cX6_barLine 4 = .ok (.getfield 85, 3) := by decide +kernel
theorem dX6_barLine_7 : decode cX6_barLine 7 = .ok (.bipush 6, 2) := by decide +kernel
theorem dX6_barLine_9 : decode cX6_barLine 9 = .ok (.if_icmp .lt 9, 3) := by decide +kernel
theorem dX6_barLine_12 : decode cX6_barLine 12 = .ok (.aload_n 0, 1) := by decide +kernel
theorem dX6_barLine_13 : decode cX6_barLine 13 = .ok (.iconst 5, 1) := by decide +kernel
theorem dX6_barLine_14 : decode cX6_barLine 14 = .ok (.invokevirtual 81, 3) := by decide +kernel
theorem dX6_barLine_17 : decode cX6_barLine 17 = .ok (.ireturn, 1) := by decide +kernel
theorem dX6_barLine_18 : decode cX6_barLine 18 = .ok (.aload_n 0, 1) := by decide +kernel
theorem dX6_barLine_19 : decode cX6_barLine 19 = .ok (.invokevirtual 50, 3) := by decide +kernel
theorem dX6_barLine_22 : decode cX6_barLine 22 = .ok (.aload_n 0, 1) := by decide +kernel
theorem dX6_barLine_23 : decode cX6_barLine 23 = .ok (.ldc 88, 2) := by decide +kernel
theorem dX6_barLine_25 : decode cX6_barLine 25 = .ok (.invokevirtual 90, 3) := by decide +kernel
theorem dX6_barLine_28 : decode cX6_barLine 28 = .ok (.ifCond .eq 21, 3) := by decide +kernel
theorem dX6_barLine_31 : decode cX6_barLine 31 = .ok (.aload_n 0, 1) := by decide +kernel
theorem dX6_barLine_32 : decode cX6_barLine 32 = .ok (.iconst 0, 1) := by decide +kernel
theorem dX6_barLine_33 : decode cX6_barLine 33 = .ok (.aload_n 0, 1) := by decide +kernel
theorem dX6_barLine_34 : decode cX6_barLine 34 = .ok (.getfield 18, 3) := by decide +kernel
theorem dX6_barLine_37 : decode cX6_barLine 37 = .ok (.getfield 85, 3) := by decide +kernel
theorem dX6_barLine_40 : decode cX6_barLine 40 = .ok (.iadd, 1) := by decide +kernel
theorem dX6_barLine_41 : decode cX6_barLine 41 = .ok (.ldc 22, 2) := by decide +kernel
theorem dX6_barLine_43 : decode cX6_barLine 43 = .ok (.invokevirtual 94, 3) := by decide +kernel
theorem dX6_barLine_46 : decode cX6_barLine 46 = .ok (.ifCond .ne 5, 3) := by decide +kernel
theorem dX6_barLine_49 : decode cX6_barLine 49 = .ok (.iconst 0, 1) := by decide +kernel
theorem dX6_barLine_50 : decode cX6_barLine 50 = .ok (.ireturn, 1) := by decide +kernel
theorem dX6_barLine_51 : decode cX6_barLine 51 = .ok (.aload_n 0, 1) := by decide +kernel
theorem dX6_barLine_52 : decode cX6_barLine 52 = .ok (.getfield 18, 3) := by decide +kernel
theorem dX6_barLine_55 : decode cX6_barLine 55 = .ok (.dup, 1) := by decide +kernel
theorem dX6_barLine_56 : decode cX6_barLine 56 = .ok (.getfield 85, 3) := by decide +kernel
theorem dX6_barLine_59 : decode cX6_barLine 59 = .ok (.iconst 1, 1) := by decide +kernel
theorem dX6_barLine_60 : decode cX6_barLine 60 = .ok (.iadd, 1) := by decide +kernel
theorem dX6_barLine_61 : decode cX6_barLine 61 = .ok (.putfield 85, 3) := by decide +kernel
theorem dX6_barLine_64 : decode cX6_barLine 64 = .ok (.iconst 1, 1) := by decide +kernel
theorem dX6_barLine_65 : decode cX6_barLine 65 = .ok (.ireturn, 1) := by decide +kernel
theorem dX6_comparison_0 : decode cX6_comparison 0 = .ok (.aload_n 0, 1) := by decide +kernel
theorem dX6_comparison_1 : decode cX6_comparison 1 = .ok (.iload_n 1, 1) := by decide +kernel
theorem dX6_comparison_2 : decode cX6_comparison 2 = .ok (.invokevirtual 144, 3) := by decide +kernel
theorem dX6_comparison_5 : decode cX6_comparison 5 = .ok (.ifCond .ne 5, 3) := by decide +kernel
theorem dX6_comparison_8 : decode cX6_comparison 8 = .ok (.iconst 0, 1) := by decide +kernel
theorem dX6_comparison_9 : decode cX6_comparison 9 = .ok (.ireturn, 1) := by decide +kernel
theorem dX6_comparison_10 : decode cX6_comparison 10 = .ok (.aload_n 0, 1) := by decide +kernel
theorem dX6_comparison_11 : decode cX6_comparison 11 = .ok (.bipush 60, 2) := by decide +kernel
theorem dX6_comparison_13 : decode cX6_comparison 13 = .ok (.invokevirtual 147, 3) := by decide +kernel
theorem dX6_comparison_16 : decode cX6_comparison 16 = .ok (.istore_n 2, 1) := by decide +kernel
theorem dX6_comparison_17 : decode cX6_comparison 17 = .ok (.iload_n 2, 1) := by decide +kernel
theorem dX6_comparison_18 : decode cX6_comparison 18 = .ok (.ifCond .ne 14, 3) := by decide +kernel
theorem dX6_comparison_21 : decode cX6_comparison 21 = .ok (.aload_n 0, 1) := by decide +kernel
theorem dX6_comparison_22 : decode cX6_comparison 22 = .ok (.bipush 61, 2) := by decide +kernel
theorem dX6_comparison_24 : decode cX6_comparison 24 = .ok (.invokevirtual 147, 3) := by decide +kernel
theorem dX6_comparison_27 : decode cX6_comparison 27 = .ok (.ifCond .ne 5, 3) := by decide +kernel
theorem dX6_comparison_30 : decode cX6_comparison 30 = .ok (.iconst 1, 1) := by decide +kernel
theorem dX6_comparison_31 : decode cX6_comparison 31 = .ok (.ireturn, 1) := by decide +kernel
theorem dX6_comparison_32 : decode cX6_comparison 32 = .ok (.aload_n 0, 1) := by decide +kernel
theorem dX6_comparison_33 : decode cX6_comparison 33 = .ok (.invokevirtual 50, 3) := by decide +kernel
theorem dX6_comparison_36 : decode cX6_comparison 36 = .ok (.aload_n 0, 1) := by decide +kernel
theorem dX6_comparison_37 : decode cX6_comparison 37 = .ok (.iload_n 1, 1) := by decide +kernel
theorem dX6_comparison_38 : decode cX6_comparison 38 = .ok (.invokevirtual 144, 3) := by decide +kernel
theorem dX6_comparison_41 : decode cX6_comparison 41 = .ok (.ifCond .ne 5, 3) := by decide +kernel
theorem dX6_comparison_44 : decode cX6_comparison 44 = .ok (.iconst 0, 1) := by decide +kernel
theorem dX6_comparison_45 : decode cX6_comparison 45 = .ok (.ireturn, 1) := by decide +kernel
theorem dX6_comparison_46 : decode cX6_comparison 46 = .ok (.aload_n 0, 1) := by decide +kernel
theorem dX6_comparison_47 : decode cX6_comparison 47 = .ok (.getfield 18, 3) := by decide +kernel
theorem dX6_comparison_50 : decode cX6_comparison 50 = .ok (.iload_n 2, 1) := by decide +kernel
theorem dX6_comparison_51 : decode cX6_comparison 51 = .ok (.ifCond .eq 9, 3) := by decide +kernel
theorem dX6_comparison_54 : decode cX6_comparison 54 = .ok (.sipush 20003, 3) := by decide +kernel
theorem dX6_comparison_57 : decode cX6_comparison 57 = .ok (.goto 6, 3) := by decide +kernel
theorem dX6_comparison_60 : decode cX6_comparison 60 = .ok (.sipush 20004, 3) := by decide +kernel
theorem dX6_comparison_63 : decode cX6_comparison 63 = .ok (.invokevirtual 140, 3) := by decide +kernel
theorem dX6_comparison_66 : decode cX6_comparison 66 = .ok (.iconst 1, 1) := by decide +kernel
theorem dX6_comparison_67 : decode cX6_comparison 67 = .ok (.ireturn, 1) := by decide +kernel
theorem dX6_enoughLine_0 : decode cX6_enoughLine 0 = .ok (.aload_n 0, 1) := by decide +kernel
theorem dX6_enoughLine_1 : decode cX6_enoughLine 1 = .ok (.getfield 18, 3) := by decide +kernel
theorem dX6_enoughLine_4 : decode cX6_enoughLine 4 = .ok (.bipush 20, 2) := by decide +kernel
theorem dX6_enoughLine_6 : decode cX6_enoughLine 6 = .ok (.invokevirtual 107, 3) := by decide +kernel
theorem dX6_enoughLine_9 : decode cX6_enoughLine 9 = .ok (.ifCond .eq 9, 3) := by decide +kernel
theorem dX6_enoughLine_12 : decode cX6_enoughLine 12 = .ok (.aload_n 0, 1) := by decide +kernel
theorem dX6_enoughLine_13 : decode cX6_enoughLine 13 = .ok (.iconst 3, 1) := by decide +kernel
theorem dX6_enoughLine_14 : decode cX6_enoughLine 14 = .ok (.invokevirtual 81, 3) := by decide +kernel
theorem dX6_enoughLine_17 : decode cX6_enoughLine 17 = .ok (.ireturn, 1) := by decide +kernel
theorem dX6_enoughLine_18 : decode cX6_enoughLine 18 = .ok (.aload_n 0, 1) := by decide +kernel
theorem dX6_enoughLine_19 : decode cX6_enoughLine 19 = .ok (.invokevirtual 50, 3) := by decide +kernel
theorem dX6_enoughLine_22 : decode cX6_enoughLine 22 = .ok (.aload_n 0, 1) := by decide +kernel
theorem dX6_enoughLine_23 : decode cX6_enoughLine 23 = .ok (.ldc 88, 2) := by decide +kernel
theorem dX6_enoughLine_25 : decode cX6_enoughLine 25 = .ok (.invokevirtual 90, 3) := by decide +kernel
theorem dX6_enoughLine_28 : decode cX6_enoughLine 28 = .ok (.ifCond .eq 18, 3) := by decide +kernel
theorem dX6_enoughLine_31 : decode cX6_enoughLine 31 = .ok (.aload_n 0, 1) := by decide +kernel
theorem dX6_enoughLine_32 : decode cX6_enoughLine 32 = .ok (.bipush 20, 2) := by decide +kernel
theorem dX6_enoughLine_34 : decode cX6_enoughLine 34 = .ok (.ldc 122, 2) := by decide +kernel
theorem dX6_enoughLine_36 : decode cX6_enoughLine 36 = .ok (.invokevirtual 94, 3) := by decide +kernel
theorem dX6_enoughLine_39 : decode cX6_enoughLine 39 = .ok (.ifCond .eq 7, 3) := by decide +kernel
theorem dX6_enoughLine_42 : decode cX6_enoughLine 42 = .ok (.iconst 1, 1) := by decide +kernel
theorem dX6_enoughLine_43 : decode cX6_enoughLine 43 = .ok (.goto 4, 3) := by decide +kernel
theorem dX6_enoughLine_46 : decode cX6_enoughLine 46 = .ok (.iconst 0, 1) := by decide +kernel
theorem dX6_enoughLine_47 : decode cX6_enoughLine 47 = .ok (.ireturn, 1) := by decide +kernel
theorem dX6_expression_0 : decode cX6_expression 0 = .ok (.aload_n 0, 1) := by decide +kernel
theorem dX6_expression_1 : decode cX6_expression 1 = .ok (.iload_n 1, 1) := by decide +kernel
theorem dX6_expression_2 : decode cX6_expression 2 = .ok (.invokevirtual 135, 3) := by decide +kernel
theorem dX6_expression_5 : decode cX6_expression 5 = .ok (.ifCond .ne 5, 3) := by decide +kernel
theorem dX6_expression_8 : decode cX6_expression 8 = .ok (.iconst 0, 1) := by decide +kernel
theorem dX6_expression_9 : decode cX6_expression 9 = .ok (.ireturn, 1) := by decide +kernel
theorem dX6_expression_10 : decode cX6_expression 10 = .ok (.iconst 0, 1) := by decide +kernel
theorem dX6_expression_11 : decode cX6_expression 11 = .ok (.istore_n 2, 1) := by decide +kernel
theorem dX6_expression_12 : decode cX6_expression 12 = .ok (.iload_n 2, 1) := by decide +kernel
theorem dX6_expression_13 : decode cX6_expression 13 = .ok (.sipush 1000, 3) := by decide +kernel
theorem dX6_expression_16 : decode cX6_expression 16 = .ok (.if_icmp .ge 57, 3) := by decide +kernel
theorem dX6_expression_19 : decode cX6_expression 19 = .ok (.aload_n 0, 1) := by decide +kernel
theorem dX6_expression_20 : decode cX6_expression 20 = .ok (.ldc 138, 2) := by decide +kernel
theorem dX6_expression_22 : decode cX6_expression 22 = .ok (.invokevirtual 58, 3) := by decide +kernel
theorem dX6_expression_25 : decode cX6_expression 25 = .ok (.istore_n 3, 1) := by decide +kernel
theorem dX6_expression_26 : decode cX6_expression 26 = .ok (.iload_n 3, 1) := by decide +kernel
theorem dX6_expression_27 : decode cX6_expression 27 = .ok (.iconst (-1), 1) := by decide +kernel
theorem dX6_expression_28 : decode cX6_expression 28 = .ok (.if_icmp .ne 5, 3) := by decide +kernel
theorem dX6_expression_31 : decode cX6_expression 31 = .ok (.iconst 1, 1) := by decide +kernel
theorem dX6_expression_32 : decode cX6_expression 32 = .ok (.ireturn, 1) := by decide +kernel
theorem dX6_expression_33 : decode cX6_expression 33 = .ok (.aload_n 0, 1) := by decide +kernel
theorem dX6_expression_34 : decode cX6_expression 34 = .ok (.invokevirtual 50, 3) := by decide +kernel
theorem dX6_expression_37 : decode cX6_expression 37 = .ok (.aload_n 0, 1) := by decide +kernel
theorem dX6_expression_38 : decode cX6_expression 38 = .ok (.iload_n 1, 1) := by decide +kernel
theorem dX6_expression_39 : decode cX6_expression 39 = .ok (.invokevirtual 135, 3) := by decide +kernel
theorem dX6_expression_42 : decode cX6_expression 42 = .ok (.ifCond .ne 5, 3) := by decide +kernel
theorem dX6_expression_45 : decode cX6_expression 45 = .ok (.iconst 0, 1) := by decide +kernel
theorem dX6_expression_46 : decode cX6_expression 46 = .ok (.ireturn, 1) := by decide +kernel
theorem dX6_expression_47 : decode cX6_expression 47 = .ok (.aload_n 0, 1) := by decide +kernel
theorem dX6_expression_48 : decode cX6_expression 48 = .ok (.getfield 18, 3) := by decide +kernel
theorem dX6_expression_51 : decode cX6_expression 51 = .ok (.iload_n 3, 1) := by decide +kernel
theorem dX6_expression_52 : decode cX6_expression 52 = .ok (.ifCond .ne 9, 3) := by decide +kernel
theorem dX6_expression_55 : decode cX6_expression 55 = .ok (.sipush 20001, 3) := by decide +kernel
theorem dX6_expression_58 : decode cX6_expression 58 = .ok (.goto 6, 3) := by decide +kernel
theorem dX6_expression_61 : decode cX6_expression 61 = .ok (.sipush 20002, 3) := by decide +kernel
theorem dX6_expression_64 : decode cX6_expression 64 = .ok (.invokevirtual 140, 3) := by decide +kernel
theorem dX6_expression_67 : decode cX6_expression 67 = .ok (.iinc 2 1, 3) := by decide +kernel
theorem dX6_expression_70 : decode cX6_expression 70 = .ok (.goto (-58), 3) := by decide +kernel
theorem dX6_expression_73 : decode cX6_expression 73 = .ok (.iconst 1, 1) := by decide +kernel
theorem dX6_expression_74 : decode cX6_expression 74 = .ok (.ireturn, 1) := by decide +kernel
theorem dX6_farLine_0 : decode cX6_farLine 0 = .ok (.aload_n 0, 1) := by decide +kernel
theorem dX6_farLine_1 : decode cX6_farLine 1 = .ok (.getfield 44, 3) := by decide +kernel
theorem dX6_farLine_4 : decode cX6_farLine 4 = .ok (.ifCond .eq 9, 3) := by decide +kernel
theorem dX6_farLine_7 : decode cX6_farLine 7 = .ok (.aload_n 0, 1) := by decide +kernel
theorem dX6_farLine_8 : decode cX6_farLine 8 = .ok (.iconst 3, 1) := by decide +kernel
theorem dX6_farLine_9 : decode cX6_farLine 9 = .ok (.invokevirtual 81, 3) := by decide +kernel
theorem dX6_farLine_12 : decode cX6_farLine 12 = .ok (.ireturn, 1) := by decide +kernel
theorem dX6_farLine_13 : decode cX6_farLine 13 = .ok (.aload_n 0, 1) := by decide +kernel
theorem dX6_farLine_14 : decode cX6_farLine 14 = .ok (.iconst 1, 1) := by decide +kernel
theorem dX6_farLine_15 : decode cX6_farLine 15 = .ok (.putfield 44, 3) := by decide +kernel
theorem dX6_farLine_18 : decode cX6_farLine 18 = .ok (.aload_n 0, 1) := by decide +kernel
theorem dX6_farLine_19 : decode cX6_farLine 19 = .ok (.invokevirtual 50, 3) := by decide +kernel
theorem dX6_farLine_22 : decode cX6_farLine 22 = .ok (.aload_n 0, 1) := by decide +kernel
theorem dX6_farLine_23 : decode cX6_farLine 23 = .ok (.sipush 999, 3) := by decide +kernel
theorem dX6_farLine_26 : decode cX6_farLine 26 = .ok (.invokevirtual 101, 3) := by decide +kernel
theorem dX6_farLine_29 : decode cX6_farLine 29 = .ok (.ifCond .ne 5, 3) := by decide +kernel
theorem dX6_farLine_32 : decode cX6_farLine 32 = .ok (.iconst 0, 1) := by decide +kernel
theorem dX6_farLine_33 : decode cX6_farLine 33 = .ok (.ireturn, 1) := by decide +kernel
theorem dX6_farLine_34 : decode cX6_farLine 34 = .ok (.aload_n 0, 1) := by decide +kernel
theorem dX6_farLine_35 : decode cX6_farLine 35 = .ok (.getfield 18, 3) := by decide +kernel
theorem dX6_farLine_38 : decode cX6_farLine 38 = .ok (.aload_n 0, 1) := by decide +kernel
theorem dX6_farLine_39 : decode cX6_farLine 39 = .ok (.getfield 104, 3) := by decide +kernel
theorem dX6_farLine_42 : decode cX6_farLine 42 = .ok (.putfield 119, 3) := by decide +kernel
theorem dX6_farLine_45 : decode cX6_farLine 45 = .ok (.aload_n 0, 1) := by decide +kernel
theorem dX6_farLine_46 : decode cX6_farLine 46 = .ok (.invokevirtual 50, 3) := by decide +kernel
theorem dX6_farLine_49 : decode cX6_farLine 49 = .ok (.aload_n 0, 1) := by decide +kernel
theorem dX6_farLine_50 : decode cX6_farLine 50 = .ok (.bipush 59, 2) := by decide +kernel
theorem dX6_farLine_52 : decode cX6_farLine 52 = .ok (.invokevirtual 115, 3) := by decide +kernel
theorem dX6_farLine_55 : decode cX6_farLine 55 = .ok (.ireturn, 1) := by decide +kernel
theorem dX6_hasLetters_0 : decode cX6_hasLetters 0 = .ok (.aload_n 0, 1) := by decide +kernel
theorem dX6_hasLetters_1 : decode cX6_hasLetters 1 = .ok (.getfield 158, 3) := by decide +kernel
theorem dX6_hasLetters_4 : decode cX6_hasLetters 4 = .ok (.istore_n 3, 1) := by decide +kernel
theorem dX6_hasLetters_5 : decode cX6_hasLetters 5 = .ok (.iload_n 3, 1) := by decide +kernel
theorem dX6_hasLetters_6 : decode cX6_hasLetters 6 = .ok (.aload_n 0, 1) := by decide +kernel
theorem dX6_hasLetters_7 : decode cX6_hasLetters 7 = .ok (.getfield 47, 3) := by decide +kernel
theorem dX6_hasLetters_10 : decode cX6_hasLetters 10 = .ok (.if_icmp .ge 32, 3) := by decide +kernel
theorem dX6_hasLetters_13 : decode cX6_hasLetters 13 = .ok (.aload_n 0, 1) := by decide +kernel
theorem dX6_hasLetters_14 : decode cX6_hasLetters 14 = .ok (.getfield 9, 3) := by decide +kernel
theorem dX6_hasLetters_17 : decode cX6_hasLetters 17 = .ok (.iload_n 3, 1) := by decide +kernel
theorem dX6_hasLetters_18 : decode cX6_hasLetters 18 = .ok (.caload, 1) := by decide +kernel
theorem dX6_hasLetters_19 : decode cX6_hasLetters 19 = .ok (.aload_n 1, 1) := by decide +kernel
theorem dX6_hasLetters_20 : decode cX6_hasLetters 20 = .ok (.iload_n 2, 1) := by decide +kernel
theorem dX6_hasLetters_21 : decode cX6_hasLetters 21 = .ok (.iload_n 3, 1) := by decide +kernel
theorem dX6_hasLetters_22 : decode cX6_hasLetters 22 = .ok (.iadd, 1) := by decide +kernel
theorem dX6_hasLetters_23 : decode cX6_hasLetters 23 = .ok (.aload_n 0, 1) := by decide +kernel
theorem dX6_hasLetters_24 : decode cX6_hasLetters 24 = .ok (.getfield 158, 3) := by decide +kernel
theorem dX6_hasLetters_27 : decode cX6_hasLetters 27 = .ok (.isub, 1) := by decide +kernel
theorem dX6_hasLetters_28 : decode cX6_hasLetters 28 = .ok (.invokevirtual 167, 3) := by decide +kernel
theorem dX6_hasLetters_31 : decode cX6_hasLetters 31 = .ok (.if_icmp .eq 5, 3) := by decide +kernel
theorem dX6_hasLetters_34 : decode cX6_hasLetters 34 = .ok (.iconst 0, 1) := by decide +kernel
theorem dX6_hasLetters_35 : decode cX6_hasLetters 35 = .ok (.ireturn, 1) := by decide +kernel
theorem dX6_hasLetters_36 : decode cX6_hasLetters 36 = .ok (.iinc 3 1, 3) := by decide +kernel
theorem dX6_hasLetters_39 : decode cX6_hasLetters 39 = .ok (.goto (-34), 3) := by decide +kernel
theorem dX6_hasLetters_42 : decode cX6_hasLetters 42 = .ok (.iconst 1, 1) := by decide +kernel
theorem dX6_hasLetters_43 : decode cX6_hasLetters 43 = .ok (.ireturn, 1) := by decide +kernel
theorem dX6_isNumberUpTo_0 : decode cX6_isNumberUpTo 0 = .ok (.aload_n 0, 1) := by decide +kernel
theorem dX6_isNumberUpTo_1 : decode cX6_isNumberUpTo 1 = .ok (.getfield 53, 3) := by decide +kernel
theorem dX6_isNumberUpTo_4 : decode cX6_isNumberUpTo 4 = .ok (.iconst 2, 1) := by decide +kernel
theorem dX6_isNumberUpTo_5 : decode cX6_isNumberUpTo 5 = .ok (.if_icmp .eq 9, 3) := by decide +kernel
theorem dX6_isNumberUpTo_8 : decode cX6_isNumberUpTo 8 = .ok (.aload_n 0, 1) := by decide +kernel
theorem dX6_isNumberUpTo_9 : decode cX6_isNumberUpTo 9 = .ok (.iconst 1, 1) := by decide +kernel
theorem dX6_isNumberUpTo_10 : decode cX6_isNumberUpTo 10 = .ok (.invokevirtual 81, 3) := by decide +kernel
theorem dX6_isNumberUpTo_13 : decode cX6_isNumberUpTo 13 = .ok (.ireturn, 1) := by decide +kernel
theorem dX6_isNumberUpTo_14 : decode cX6_isNumberUpTo 14 = .ok (.aload_n 0, 1) := by decide +kernel
theorem dX6_isNumberUpTo_15 : decode cX6_isNumberUpTo 15 = .ok (.getfield 104, 3) := by decide +kernel
theorem dX6_isNumberUpTo_18 : decode cX6_isNumberUpTo 18 = .ok (.iload_n 1, 1) := by decide +kernel
theorem dX6_isNumberUpTo_19 : decode cX6_isNumberUpTo 19 = .ok (.if_icmp .le 11, 3) := by decide +kernel
theorem dX6_isNumberUpTo_22 : decode cX6_isNumberUpTo 22 = .ok (.aload_n 0, 1) := by decide +kernel
theorem dX6_isNumberUpTo_23 : decode cX6_isNumberUpTo 23 = .ok (.iconst 4, 1) := by decide +kernel
theorem dX6_isNumberUpTo_24 : decode cX6_isNumberUpTo 24 = .ok (.invokevirtual 81, 3) := by decide +kernel
theorem dX6_isNumberUpTo_27 : decode cX6_isNumberUpTo 27 = .ok (.ifCond .eq 7, 3) := by decide +kernel
theorem dX6_isNumberUpTo_30 : decode cX6_isNumberUpTo 30 = .ok (.iconst 1, 1) := by decide +kernel
theorem dX6_isNumberUpTo_31 : decode cX6_isNumberUpTo 31 = .ok (.goto 4, 3) := by decide +kernel
theorem dX6_isNumberUpTo_34 : decode cX6_isNumberUpTo 34 = .ok (.iconst 0, 1) := by decide +kernel
theorem dX6_isNumberUpTo_35 : decode cX6_isNumberUpTo 35 = .ok (.ireturn, 1) := by decide +kernel
theorem dX6_isSign_0 : decode cX6_isSign 0 = .ok (.aload_n 0, 1) := by decide +kernel
theorem dX6_isSign_1 : decode cX6_isSign 1 = .ok (.getfield 53, 3) := by decide +kernel
theorem dX6_isSign_4 : decode cX6_isSign 4 = .ok (.iconst 3, 1) := by decide +kernel
theorem dX6_isSign_5 : decode cX6_isSign 5 = .ok (.if_icmp .ne 20, 3) := by decide +kernel
theorem dX6_isSign_8 : decode cX6_isSign 8 = .ok (.aload_n 0, 1) := by decide +kernel
theorem dX6_isSign_9 : decode cX6_isSign 9 = .ok (.getfield 9, 3) := by decide +kernel
theorem dX6_isSign_12 : decode cX6_isSign 12 = .ok (.aload_n 0, 1) := by decide +kernel
theorem dX6_isSign_13 : decode cX6_isSign 13 = .ok (.getfield 158, 3) := by decide +kernel
theorem dX6_isSign_16 : decode cX6_isSign 16 = .ok (.caload, 1) := by decide +kernel
theorem dX6_isSign_17 : decode cX6_isSign 17 = .ok (.iload_n 1, 1) := by decide +kernel
theorem dX6_isSign_18 : decode cX6_isSign 18 = .ok (.if_icmp .ne 7, 3) := by decide +kernel
theorem dX6_isSign_21 : decode cX6_isSign 21 = .ok (.iconst 1, 1) := by decide +kernel
theorem dX6_isSign_22 : decode cX6_isSign 22 = .ok (.goto 4, 3) := by decide +kernel
theorem dX6_isSign_25 : decode cX6_isSign 25 = .ok (.iconst 0, 1) := by decide +kernel
theorem dX6_isSign_26 : decode cX6_isSign 26 = .ok (.ireturn, 1) := by decide +kernel
theorem dX6_oddLine_0 : decode cX6_oddLine 0 = .ok (.aload_n 0, 1) := by decide +kernel
theorem dX6_oddLine_1 : decode cX6_oddLine 1 = .ok (.getfield 18, 3) := by decide +kernel
theorem dX6_oddLine_4 : decode cX6_oddLine 4 = .ok (.getfield 98, 3) := by decide +kernel
theorem dX6_oddLine_7 : decode cX6_oddLine 7 = .ok (.bipush 6, 2) := by decide +kernel
theorem dX6_oddLine_9 : decode cX6_oddLine 9 = .ok (.if_icmp .lt 9, 3) := by decide +kernel
theorem dX6_oddLine_12 : decode cX6_oddLine 12 = .ok (.aload_n 0, 1) := by decide +kernel
theorem dX6_oddLine_13 : decode cX6_oddLine 13 = .ok (.iconst 5, 1) := by decide +kernel
theorem dX6_oddLine_14 : decode cX6_oddLine 14 = .ok (.invokevirtual 81, 3) := by decide +kernel
theorem dX6_oddLine_17 : decode cX6_oddLine 17 = .ok (.ireturn, 1) := by decide +kernel
theorem dX6_oddLine_18 : decode cX6_oddLine 18 = .ok (.aload_n 0, 1) := by decide +kernel
theorem dX6_oddLine_19 : decode cX6_oddLine 19 = .ok (.invokevirtual 50, 3) := by decide +kernel
theorem dX6_oddLine_22 : decode cX6_oddLine 22 = .ok (.aload_n 0, 1) := by decide +kernel
theorem dX6_oddLine_23 : decode cX6_oddLine 23 = .ok (.ldc 88, 2) := by decide +kernel
theorem dX6_oddLine_25 : decode cX6_oddLine 25 = .ok (.invokevirtual 90, 3) := by decide +kernel
theorem dX6_oddLine_28 : decode cX6_oddLine 28 = .ok (.ifCond .eq 22, 3) := by decide +kernel
theorem dX6_oddLine_31 : decode cX6_oddLine 31 = .ok (.aload_n 0, 1) := by decide +kernel
theorem dX6_oddLine_32 : decode cX6_oddLine 32 = .ok (.bipush 6, 2) := by decide +kernel
theorem dX6_oddLine_34 : decode cX6_oddLine 34 = .ok (.aload_n 0, 1) := by decide +kernel
theorem dX6_oddLine_35 : decode cX6_oddLine 35 = .ok (.getfield 18, 3) := by decide +kernel
theorem dX6_oddLine_38 : decode cX6_oddLine 38 = .ok (.getfield 98, 3) := by decide +kernel
theorem dX6_oddLine_41 : decode cX6_oddLine 41 = .ok (.iadd, 1) := by decide +kernel
theorem dX6_oddLine_42 : decode cX6_oddLine 42 = .ok (.ldc 22, 2) := by decide +kernel
theorem dX6_oddLine_44 : decode cX6_oddLine 44 = .ok (.invokevirtual 94, 3) := by decide +kernel
theorem dX6_oddLine_47 : decode cX6_oddLine 47 = .ok (.ifCond .ne 5, 3) := by decide +kernel
theorem dX6_oddLine_50 : decode cX6_oddLine 50 = .ok (.iconst 0, 1) := by decide +kernel
theorem dX6_oddLine_51 : decode cX6_oddLine 51 = .ok (.ireturn, 1) := by decide +kernel
theorem dX6_oddLine_52 : decode cX6_oddLine 52 = .ok (.aload_n 0, 1) := by decide +kernel
theorem dX6_oddLine_53 : decode cX6_oddLine 53 = .ok (.getfield 18, 3) := by decide +kernel
theorem dX6_oddLine_56 : decode cX6_oddLine 56 = .ok (.dup, 1) := by decide +kernel
theorem dX6_oddLine_57 : decode cX6_oddLine 57 = .ok (.getfield 98, 3) := by decide +kernel
theorem dX6_oddLine_60 : decode cX6_oddLine 60 = .ok (.iconst 1, 1) := by decide +kernel
theorem dX6_oddLine_61 : decode cX6_oddLine 61 = .ok (.iadd, 1) := by decide +kernel
theorem dX6_oddLine_62 : decode cX6_oddLine 62 = .ok (.putfield 98, 3) := by decide +kernel
theorem dX6_oddLine_65 : decode cX6_oddLine 65 = .ok (.iconst 1, 1) := by decide +kernel
theorem dX6_oddLine_66 : decode cX6_oddLine 66 = .ok (.ireturn, 1) := by decide +kernel
theorem dX6_part_0 : decode cX6_part 0 = .ok (.aload_n 0, 1) := by decide +kernel
theorem dX6_part_1 : decode cX6_part 1 = .ok (.bipush 40, 2) := by decide +kernel
theorem dX6_part_3 : decode cX6_part 3 = .ok (.invokevirtual 147, 3) := by decide +kernel
theorem dX6_part_6 : decode cX6_part 6 = .ok (.istore_n 2, 1) := by decide +kernel
theorem dX6_part_7 : decode cX6_part 7 = .ok (.aload_n 0, 1) := by decide +kernel
theorem dX6_part_8 : decode cX6_part 8 = .ok (.ldc 156, 2) := by decide +kernel
theorem dX6_part_10 : decode cX6_part 10 = .ok (.invokevirtual 58, 3) := by decide +kernel
theorem dX6_part_13 : decode cX6_part 13 = .ok (.ifCond .ne 7, 3) := by decide +kernel
theorem dX6_part_16 : decode cX6_part 16 = .ok (.iconst 1, 1) := by decide +kernel
theorem dX6_part_17 : decode cX6_part 17 = .ok (.goto 4, 3) := by decide +kernel
theorem dX6_part_20 : decode cX6_part 20 = .ok (.iconst 0, 1) := by decide +kernel
theorem dX6_part_21 : decode cX6_part 21 = .ok (.istore_n 3, 1) := by decide +kernel
theorem dX6_part_22 : decode cX6_part 22 = .ok (.aload_n 0, 1) := by decide +kernel
theorem dX6_part_23 : decode cX6_part 23 = .ok (.aload_n 0, 1) := by decide +kernel
theorem dX6_part_24 : decode cX6_part 24 = .ok (.getfield 24, 3) := by decide +kernel
theorem dX6_part_27 : decode cX6_part 27 = .ok (.invokevirtual 58, 3) := by decide +kernel
theorem dX6_part_30 : decode cX6_part 30 = .ok (.istore 4, 2) := by decide +kernel
theorem dX6_part_32 : decode cX6_part 32 = .ok (.iload_n 2, 1) := by decide +kernel
theorem dX6_part_33 : decode cX6_part 33 = .ok (.ifCond .ne 27, 3) := by decide +kernel
theorem dX6_part_36 : decode cX6_part 36 = .ok (.iload_n 3, 1) := by decide +kernel
theorem dX6_part_37 : decode cX6_part 37 = .ok (.ifCond .ne 23, 3) := by decide +kernel
theorem dX6_part_40 : decode cX6_part 40 = .ok (.iload 4, 2) := by decide +kernel
theorem dX6_part_42 : decode cX6_part 42 = .ok (.iconst (-1), 1) := by decide +kernel
theorem dX6_part_43 : decode cX6_part 43 = .ok (.if_icmp .ne 17, 3) := by decide +kernel
theorem dX6_part_46 : decode cX6_part 46 = .ok (.aload_n 0, 1) := by decide +kernel
theorem dX6_part_47 : decode cX6_part 47 = .ok (.getfield 53, 3) := by decide +kernel
theorem dX6_part_50 : decode cX6_part 50 = .ok (.iconst 2, 1) := by decide +kernel
theorem dX6_part_51 : decode cX6_part 51 = .ok (.if_icmp .eq 9, 3) := by decide +kernel
theorem dX6_part_54 : decode cX6_part 54 = .ok (.aload_n 0, 1) := by decide +kernel
theorem dX6_part_55 : decode cX6_part 55 = .ok (.iconst 1, 1) := by decide +kernel
theorem dX6_part_56 : decode cX6_part 56 = .ok (.invokevirtual 81, 3) := by decide +kernel
theorem dX6_part_59 : decode cX6_part 59 = .ok (.ireturn, 1) := by decide +kernel
theorem dX6_part_60 : decode cX6_part 60 = .ok (.iload_n 1, 1) := by decide +kernel
theorem dX6_part_61 : decode cX6_part 61 = .ok (.iconst 5, 1) := by decide +kernel
theorem dX6_part_62 : decode cX6_part 62 = .ok (.if_icmp .lt 9, 3) := by decide +kernel
theorem dX6_part_65 : decode cX6_part 65 = .ok (.aload_n 0, 1) := by decide +kernel
theorem dX6_part_66 : decode cX6_part 66 = .ok (.iconst 5, 1) := by decide +kernel
theorem dX6_part_67 : decode cX6_part 67 = .ok (.invokevirtual 81, 3) := by decide +kernel
theorem dX6_part_70 : decode cX6_part 70 = .ok (.ireturn, 1) := by decide +kernel
theorem dX6_part_71 : decode cX6_part 71 = .ok (.aload_n 0, 1) := by decide +kernel
theorem dX6_part_72 : decode cX6_part 72 = .ok (.getfield 53, 3) := by decide +kernel
theorem dX6_part_75 : decode cX6_part 75 = .ok (.iconst 2, 1) := by decide +kernel
theorem dX6_part_76 : decode cX6_part 76 = .ok (.if_icmp .ne 17, 3) := by decide +kernel
theorem dX6_part_79 : decode cX6_part 79 = .ok (.aload_n 0, 1) := by decide +kernel
theorem dX6_part_80 : decode cX6_part 80 = .ok (.getfield 18, 3) := by decide +kernel
theorem dX6_part_83 : decode cX6_part 83 = .ok (.aload_n 0, 1) := by decide +kernel
theorem dX6_part_84 : decode cX6_part 84 = .ok (.getfield 104, 3) := by decide +kernel
theorem dX6_part_87 : decode cX6_part 87 = .ok (.invokevirtual 140, 3) := by decide +kernel
theorem dX6_part_90 : decode cX6_part 90 = .ok (.goto 22, 3) := by decide +kernel
theorem dX6_part_93 : decode cX6_part 93 = .ok (.iload 4, 2) := by decide +kernel
theorem dX6_part_95 : decode cX6_part 95 = .ok (.iconst (-1), 1) := by decide +kernel
theorem dX6_part_96 : decode cX6_part 96 = .ok (.if_icmp .eq 16, 3) := by decide +kernel
theorem dX6_part_99 : decode cX6_part 99 = .ok (.aload_n 0, 1) := by decide +kernel
theorem dX6_part_100 : decode cX6_part 100 = .ok (.getfield 18, 3) := by decide +kernel
theorem dX6_part_103 : decode cX6_part 103 = .ok (.sipush 10000, 3) := by decide +kernel
theorem dX6_part_106 : decode cX6_part 106 = .ok (.iload 4, 2) := by decide +kernel
theorem dX6_part_108 : decode cX6_part 108 = .ok (.iadd, 1) := by decide +kernel
theorem dX6_part_109 : decode cX6_part 109 = .ok (.invokevirtual 140, 3) := by decide +kernel
theorem dX6_part_112 : decode cX6_part 112 = .ok (.aload_n 0, 1) := by decide +kernel
theorem dX6_part_113 : decode cX6_part 113 = .ok (.invokevirtual 50, 3) := by decide +kernel
theorem dX6_part_116 : decode cX6_part 116 = .ok (.iload_n 2, 1) := by decide +kernel
theorem dX6_part_117 : decode cX6_part 117 = .ok (.ifCond .eq 28, 3) := by decide +kernel
theorem dX6_part_120 : decode cX6_part 120 = .ok (.aload_n 0, 1) := by decide +kernel
theorem dX6_part_121 : decode cX6_part 121 = .ok (.iload_n 1, 1) := by decide +kernel
theorem dX6_part_122 : decode cX6_part 122 = .ok (.iconst 1, 1) := by decide +kernel
theorem dX6_part_123 : decode cX6_part 123 = .ok (.iadd, 1) := by decide +kernel
theorem dX6_part_124 : decode cX6_part 124 = .ok (.invokevirtual 129, 3) := by decide +kernel
theorem dX6_part_127 : decode cX6_part 127 = .ok (.ifCond .eq 16, 3) := by decide +kernel
theorem dX6_part_130 : decode cX6_part 130 = .ok (.aload_n 0, 1) := by decide +kernel
theorem dX6_part_131 : decode cX6_part 131 = .ok (.bipush 41, 2) := by decide +kernel
theorem dX6_part_133 : decode cX6_part 133 = .ok (.invokevirtual 115, 3) := by decide +kernel
theorem dX6_part_136 : decode cX6_part 136 = .ok (.ifCond .eq 7, 3) := by decide +kernel
theorem dX6_part_139 : decode cX6_part 139 = .ok (.iconst 1, 1) := by decide +kernel
theorem dX6_part_140 : decode cX6_part 140 = .ok (.goto 4, 3) := by decide +kernel
theorem dX6_part_143 : decode cX6_part 143 = .ok (.iconst 0, 1) := by decide +kernel
theorem dX6_part_144 : decode cX6_part 144 = .ok (.ireturn, 1) := by decide +kernel
theorem dX6_part_145 : decode cX6_part 145 = .ok (.iload_n 3, 1) := by decide +kernel
theorem dX6_part_146 : decode cX6_part 146 = .ok (.ifCond .eq 25, 3) := by decide +kernel
theorem dX6_part_149 : decode cX6_part 149 = .ok (.aload_n 0, 1) := by decide +kernel
theorem dX6_part_150 : decode cX6_part 150 = .ok (.iload_n 1, 1) := by decide +kernel
theorem dX6_part_151 : decode cX6_part 151 = .ok (.iconst 1, 1) := by decide +kernel
theorem dX6_part_152 : decode cX6_part 152 = .ok (.iadd, 1) := by decide +kernel
theorem dX6_part_153 : decode cX6_part 153 = .ok (.invokevirtual 153, 3) := by decide +kernel
theorem dX6_part_156 : decode cX6_part 156 = .ok (.ifCond .ne 5, 3) := by decide +kernel
theorem dX6_part_159 : decode cX6_part 159 = .ok (.iconst 0, 1) := by decide +kernel
theorem dX6_part_160 : decode cX6_part 160 = .ok (.ireturn, 1) := by decide +kernel
theorem dX6_part_161 : decode cX6_part 161 = .ok (.aload_n 0, 1) := by decide +kernel
theorem dX6_part_162 : decode cX6_part 162 = .ok (.getfield 18, 3) := by decide +kernel
theorem dX6_part_165 : decode cX6_part 165 = .ok (.sipush 20000, 3) := by decide +kernel
theorem dX6_part_168 : decode cX6_part 168 = .ok (.invokevirtual 140, 3) := by decide +kernel
theorem dX6_part_171 : decode cX6_part 171 = .ok (.iconst 1, 1) := by decide +kernel
theorem dX6_part_172 : decode cX6_part 172 = .ok (.ireturn, 1) := by decide +kernel
theorem dX6_product_0 : decode cX6_product 0 = .ok (.aload_n 0, 1) := by decide +kernel
theorem dX6_product_1 : decode cX6_product 1 = .ok (.iload_n 1, 1) := by decide +kernel
theorem dX6_product_2 : decode cX6_product 2 = .ok (.invokevirtual 153, 3) := by decide +kernel
theorem dX6_product_5 : decode cX6_product 5 = .ok (.ifCond .ne 5, 3) := by decide +kernel
theorem dX6_product_8 : decode cX6_product 8 = .ok (.iconst 0, 1) := by decide +kernel
theorem dX6_product_9 : decode cX6_product 9 = .ok (.ireturn, 1) := by decide +kernel
theorem dX6_product_10 : decode cX6_product 10 = .ok (.iconst 0, 1) := by decide +kernel
theorem dX6_product_11 : decode cX6_product 11 = .ok (.istore_n 2, 1) := by decide +kernel
theorem dX6_product_12 : decode cX6_product 12 = .ok (.iload_n 2, 1) := by decide +kernel
theorem dX6_product_13 : decode cX6_product 13 = .ok (.sipush 1000, 3) := by decide +kernel
theorem dX6_product_16 : decode cX6_product 16 = .ok (.if_icmp .ge 44, 3) := by decide +kernel
theorem dX6_product_19 : decode cX6_product 19 = .ok (.aload_n 0, 1) := by decide +kernel
theorem dX6_product_20 : decode cX6_product 20 = .ok (.bipush 42, 2) := by decide +kernel
theorem dX6_product_22 : decode cX6_product 22 = .ok (.invokevirtual 147, 3) := by decide +kernel
theorem dX6_product_25 : decode cX6_product 25 = .ok (.ifCond .ne 5, 3) := by decide +kernel
theorem dX6_product_28 : decode cX6_product 28 = .ok (.iconst 1, 1) := by decide +kernel
theorem dX6_product_29 : decode cX6_product 29 = .ok (.ireturn, 1) := by decide +kernel
theorem dX6_product_30 : decode cX6_product 30 = .ok (.aload_n 0, 1) := by decide +kernel
theorem dX6_product_31 : decode cX6_product 31 = .ok (.invokevirtual 50, 3) := by decide +kernel
theorem dX6_product_34 : decode cX6_product 34 = .ok (.aload_n 0, 1) := by decide +kernel
theorem dX6_product_35 : decode cX6_product 35 = .ok (.iload_n 1, 1) := by decide +kernel
theorem dX6_product_36 : decode cX6_product 36 = .ok (.invokevirtual 153, 3) := by decide +kernel
theorem dX6_product_39 : decode cX6_product 39 = .ok (.ifCond .ne 5, 3) := by decide +kernel
theorem dX6_product_42 : decode cX6_product 42 = .ok (.iconst 0, 1) := by decide +kernel
theorem dX6_product_43 : decode cX6_product 43 = .ok (.ireturn, 1) := by decide +kernel
theorem dX6_product_44 : decode cX6_product 44 = .ok (.aload_n 0, 1) := by decide +kernel
theorem dX6_product_45 : decode cX6_product 45 = .ok (.getfield 18, 3) := by decide +kernel
theorem dX6_product_48 : decode cX6_product 48 = .ok (.sipush 20007, 3) := by decide +kernel
theorem dX6_product_51 : decode cX6_product 51 = .ok (.invokevirtual 140, 3) := by decide +kernel
theorem dX6_product_54 : decode cX6_product 54 = .ok (.iinc 2 1, 3) := by decide +kernel
theorem dX6_product_57 : decode cX6_product 57 = .ok (.goto (-45), 3) := by decide +kernel
theorem dX6_product_60 : decode cX6_product 60 = .ok (.iconst 1, 1) := by decide +kernel
theorem dX6_product_61 : decode cX6_product 61 = .ok (.ireturn, 1) := by decide +kernel
theorem dX6_readLaw_0 : decode cX6_readLaw 0 = .ok (.aload_n 0, 1) := by decide +kernel
theorem dX6_readLaw_1 : decode cX6_readLaw 1 = .ok (.getfield 18, 3) := by decide +kernel
theorem dX6_readLaw_4 : decode cX6_readLaw 4 = .ok (.invokevirtual 34, 3) := by decide +kernel
theorem dX6_readLaw_7 : decode cX6_readLaw 7 = .ok (.aload_n 0, 1) := by decide +kernel
theorem dX6_readLaw_8 : decode cX6_readLaw 8 = .ok (.iconst 0, 1) := by decide +kernel
theorem dX6_readLaw_9 : decode cX6_readLaw 9 = .ok (.putfield 37, 3) := by decide +kernel
theorem dX6_readLaw_12 : decode cX6_readLaw 12 = .ok (.aload_n 0, 1) := by decide +kernel
theorem dX6_readLaw_13 : decode cX6_readLaw 13 = .ok (.iconst 0, 1) := by decide +kernel
theorem dX6_readLaw_14 : decode cX6_readLaw 14 = .ok (.putfield 40, 3) := by decide +kernel
theorem dX6_readLaw_17 : decode cX6_readLaw 17 = .ok (.aload_n 0, 1) := by decide +kernel
theorem dX6_readLaw_18 : decode cX6_readLaw 18 = .ok (.iconst 0, 1) := by decide +kernel
theorem dX6_readLaw_19 : decode cX6_readLaw 19 = .ok (.putfield 44, 3) := by decide +kernel
theorem dX6_readLaw_22 : decode cX6_readLaw 22 = .ok (.aload_n 0, 1) := by decide +kernel
theorem dX6_readLaw_23 : decode cX6_readLaw 23 = .ok (.iconst 0, 1) := by decide +kernel
theorem dX6_readLaw_24 : decode cX6_readLaw 24 = .ok (.putfield 47, 3) := by decide +kernel
theorem dX6_readLaw_27 : decode cX6_readLaw 27 = .ok (.aload_n 0, 1) := by decide +kernel
theorem dX6_readLaw_28 : decode cX6_readLaw 28 = .ok (.invokevirtual 50, 3) := by decide +kernel
theorem dX6_readLaw_31 : decode cX6_readLaw 31 = .ok (.iconst 1, 1) := by decide +kernel
theorem dX6_readLaw_32 : decode cX6_readLaw 32 = .ok (.istore_n 1, 1) := by decide +kernel
theorem dX6_readLaw_33 : decode cX6_readLaw 33 = .ok (.iconst 0, 1) := by decide +kernel
theorem dX6_readLaw_34 : decode cX6_readLaw 34 = .ok (.istore_n 2, 1) := by decide +kernel
theorem dX6_readLaw_35 : decode cX6_readLaw 35 = .ok (.iload_n 2, 1) := by decide +kernel
theorem dX6_readLaw_36 : decode cX6_readLaw 36 = .ok (.sipush 1000, 3) := by decide +kernel
theorem dX6_readLaw_39 : decode cX6_readLaw 39 = .ok (.if_icmp .gt 117, 3) := by decide +kernel
theorem dX6_readLaw_42 : decode cX6_readLaw 42 = .ok (.aload_n 0, 1) := by decide +kernel
theorem dX6_readLaw_43 : decode cX6_readLaw 43 = .ok (.getfield 53, 3) := by decide +kernel
theorem dX6_readLaw_46 : decode cX6_readLaw 46 = .ok (.ifCond .eq 110, 3) := by decide +kernel
theorem dX6_readLaw_49 : decode cX6_readLaw 49 = .ok (.iload_n 1, 1) := by decide +kernel
theorem dX6_readLaw_50 : decode cX6_readLaw 50 = .ok (.ifCond .eq 106, 3) := by decide +kernel
theorem dX6_readLaw_53 : decode cX6_readLaw 53 = .ok (.aload_n 0, 1) := by decide +kernel
theorem dX6_readLaw_54 : decode cX6_readLaw 54 = .ok (.ldc 56, 2) := by decide +kernel
theorem dX6_readLaw_56 : decode cX6_readLaw 56 = .ok (.invokevirtual 58, 3) := by decide +kernel
theorem dX6_readLaw_59 : decode cX6_readLaw 59 = .ok (.tableswitch 85 0 5 #[37, 45, 53, 61, 69, 77], 37) := by decide +kernel
theorem dX6_readLaw_96 : decode cX6_readLaw 96 = .ok (.aload_n 0, 1) := by decide +kernel
theorem dX6_readLaw_97 : decode cX6_readLaw 97 = .ok (.invokevirtual 62, 3) := by decide +kernel
theorem dX6_readLaw_100 : decode cX6_readLaw 100 = .ok (.istore_n 1, 1) := by decide +kernel
theorem dX6_readLaw_101 : decode cX6_readLaw 101 = .ok (.goto 49, 3) := by decide +kernel
theorem dX6_readLaw_104 : decode cX6_readLaw 104 = .ok (.aload_n 0, 1) := by decide +kernel
theorem dX6_readLaw_105 : decode cX6_readLaw 105 = .ok (.invokevirtual 66, 3) := by decide +kernel
theorem dX6_readLaw_108 : decode cX6_readLaw 108 = .ok (.istore_n 1, 1) := by decide +kernel
theorem dX6_readLaw_109 : decode cX6_readLaw 109 = .ok (.goto 41, 3) := by decide +kernel
theorem dX6_readLaw_112 : decode cX6_readLaw 112 = .ok (.aload_n 0, 1) := by decide +kernel
theorem dX6_readLaw_113 : decode cX6_readLaw 113 = .ok (.invokevirtual 69, 3) := by decide +kernel
theorem dX6_readLaw_116 : decode cX6_readLaw 116 = .ok (.istore_n 1, 1) := by decide +kernel
theorem dX6_readLaw_117 : decode cX6_readLaw 117 = .ok (.goto 33, 3) := by decide +kernel
theorem dX6_readLaw_120 : decode cX6_readLaw 120 = .ok (.aload_n 0, 1) := by decide +kernel
theorem dX6_readLaw_121 : decode cX6_readLaw 121 = .ok (.invokevirtual 72, 3) := by decide +kernel
theorem dX6_readLaw_124 : decode cX6_readLaw 124 = .ok (.istore_n 1, 1) := by decide +kernel
theorem dX6_readLaw_125 : decode cX6_readLaw 125 = .ok (.goto 25, 3) := by decide +kernel
theorem dX6_readLaw_128 : decode cX6_readLaw 128 = .ok (.aload_n 0, 1) := by decide +kernel
theorem dX6_readLaw_129 : decode cX6_readLaw 129 = .ok (.invokevirtual 75, 3) := by decide +kernel
theorem dX6_readLaw_132 : decode cX6_readLaw 132 = .ok (.istore_n 1, 1) := by decide +kernel
theorem dX6_readLaw_133 : decode cX6_readLaw 133 = .ok (.goto 17, 3) := by decide +kernel
theorem dX6_readLaw_136 : decode cX6_readLaw 136 = .ok (.aload_n 0, 1) := by decide +kernel
theorem dX6_readLaw_137 : decode cX6_readLaw 137 = .ok (.invokevirtual 78, 3) := by decide +kernel
theorem dX6_readLaw_140 : decode cX6_readLaw 140 = .ok (.istore_n 1, 1) := by decide +kernel
theorem dX6_readLaw_141 : decode cX6_readLaw 141 = .ok (.goto 9, 3) := by decide +kernel
theorem dX6_readLaw_144 : decode cX6_readLaw 144 = .ok (.aload_n 0, 1) := by decide +kernel
theorem dX6_readLaw_145 : decode cX6_readLaw 145 = .ok (.iconst 1, 1) := by decide +kernel
theorem dX6_readLaw_146 : decode cX6_readLaw 146 = .ok (.invokevirtual 81, 3) := by decide +kernel
theorem dX6_readLaw_149 : decode cX6_readLaw 149 = .ok (.istore_n 1, 1) := by decide +kernel
theorem dX6_readLaw_150 : decode cX6_readLaw 150 = .ok (.iinc 2 1, 3) := by decide +kernel
theorem dX6_readLaw_153 : decode cX6_readLaw 153 = .ok (.goto (-118), 3) := by decide +kernel
theorem dX6_readLaw_156 : decode cX6_readLaw 156 = .ok (.aload_n 0, 1) := by decide +kernel
theorem dX6_readLaw_157 : decode cX6_readLaw 157 = .ok (.iconst 0, 1) := by decide +kernel
theorem dX6_readLaw_158 : decode cX6_readLaw 158 = .ok (.putfield 30, 3) := by decide +kernel
theorem dX6_readLaw_161 : decode cX6_readLaw 161 = .ok (.aload_n 0, 1) := by decide +kernel
theorem dX6_readLaw_162 : decode cX6_readLaw 162 = .ok (.getfield 37, 3) := by decide +kernel
theorem dX6_readLaw_165 : decode cX6_readLaw 165 = .ok (.ireturn, 1) := by decide +kernel
theorem dX6_readNumber_0 : decode cX6_readNumber 0 = .ok (.aload_n 0, 1) := by decide +kernel
theorem dX6_readNumber_1 : decode cX6_readNumber 1 = .ok (.iconst 0, 1) := by decide +kernel
theorem dX6_readNumber_2 : decode cX6_readNumber 2 = .ok (.putfield 104, 3) := by decide +kernel
theorem dX6_readNumber_5 : decode cX6_readNumber 5 = .ok (.aload_n 0, 1) := by decide +kernel
theorem dX6_readNumber_6 : decode cX6_readNumber 6 = .ok (.getfield 47, 3) := by decide +kernel
theorem dX6_readNumber_9 : decode cX6_readNumber 9 = .ok (.aload_n 0, 1) := by decide +kernel
theorem dX6_readNumber_10 : decode cX6_readNumber 10 = .ok (.getfield 30, 3) := by decide +kernel
theorem dX6_readNumber_13 : decode cX6_readNumber 13 = .ok (.if_icmp .ge 68, 3) := by decide +kernel
theorem dX6_readNumber_16 : decode cX6_readNumber 16 = .ok (.aload_n 0, 1) := by decide +kernel
theorem dX6_readNumber_17 : decode cX6_readNumber 17 = .ok (.getfield 9, 3) := by decide +kernel
theorem dX6_readNumber_20 : decode cX6_readNumber 20 = .ok (.aload_n 0, 1) := by decide +kernel
theorem dX6_readNumber_21 : decode cX6_readNumber 21 = .ok (.getfield 47, 3) := by decide +kernel
theorem dX6_readNumber_24 : decode cX6_readNumber 24 = .ok (.caload, 1) := by decide +kernel
theorem dX6_readNumber_25 : decode cX6_readNumber 25 = .ok (.bipush 48, 2) := by decide +kernel
theorem dX6_readNumber_27 : decode cX6_readNumber 27 = .ok (.if_icmp .lt 54, 3) := by decide +kernel
theorem dX6_readNumber_30 : decode cX6_readNumber 30 = .ok (.aload_n 0, 1) := by decide +kernel
theorem dX6_readNumber_31 : decode cX6_readNumber 31 = .ok (.getfield 9, 3) := by decide +kernel
theorem dX6_readNumber_34 : decode cX6_readNumber 34 = .ok (.aload_n 0, 1) := by decide +kernel
theorem dX6_readNumber_35 : decode cX6_readNumber 35 = .ok (.getfield 47, 3) := by decide +kernel
theorem dX6_readNumber_38 : decode cX6_readNumber 38 = .ok (.caload, 1) := by decide +kernel
theorem dX6_readNumber_39 : decode cX6_readNumber 39 = .ok (.bipush 57, 2) := by decide +kernel
theorem dX6_readNumber_41 : decode cX6_readNumber 41 = .ok (.if_icmp .gt 40, 3) := by decide +kernel
theorem dX6_readNumber_44 : decode cX6_readNumber 44 = .ok (.aload_n 0, 1) := by decide +kernel
theorem dX6_readNumber_45 : decode cX6_readNumber 45 = .ok (.aload_n 0, 1) := by decide +kernel
theorem dX6_readNumber_46 : decode cX6_readNumber 46 = .ok (.getfield 104, 3) := by decide +kernel
theorem dX6_readNumber_49 : decode cX6_readNumber 49 = .ok (.bipush 10, 2) := by decide +kernel
theorem dX6_readNumber_51 : decode cX6_readNumber 51 = .ok (.imul, 1) := by decide +kernel
theorem dX6_readNumber_52 : decode cX6_readNumber 52 = .ok (.aload_n 0, 1) := by decide +kernel
theorem dX6_readNumber_53 : decode cX6_readNumber 53 = .ok (.getfield 9, 3) := by decide +kernel
theorem dX6_readNumber_56 : decode cX6_readNumber 56 = .ok (.aload_n 0, 1) := by decide +kernel
theorem dX6_readNumber_57 : decode cX6_readNumber 57 = .ok (.getfield 47, 3) := by decide +kernel
theorem dX6_readNumber_60 : decode cX6_readNumber 60 = .ok (.caload, 1) := by decide +kernel
theorem dX6_readNumber_61 : decode cX6_readNumber 61 = .ok (.iadd, 1) := by decide +kernel
theorem dX6_readNumber_62 : decode cX6_readNumber 62 = .ok (.bipush 48, 2) := by decide +kernel
theorem dX6_readNumber_64 : decode cX6_readNumber 64 = .ok (.isub, 1) := by decide +kernel
theorem dX6_readNumber_65 : decode cX6_readNumber 65 = .ok (.putfield 104, 3) := by decide +kernel
theorem dX6_readNumber_68 : decode cX6_readNumber 68 = .ok (.aload_n 0, 1) := by decide +kernel
theorem dX6_readNumber_69 : decode cX6_readNumber 69 = .ok (.dup, 1) := by decide +kernel
theorem dX6_readNumber_70 : decode cX6_readNumber 70 = .ok (.getfield 47, 3) := by decide +kernel
theorem dX6_readNumber_73 : decode cX6_readNumber 73 = .ok (.iconst 1, 1) := by decide +kernel
theorem dX6_readNumber_74 : decode cX6_readNumber 74 = .ok (.iadd, 1) := by decide +kernel
theorem dX6_readNumber_75 : decode cX6_readNumber 75 = .ok (.putfield 47, 3) := by decide +kernel
theorem dX6_readNumber_78 : decode cX6_readNumber 78 = .ok (.goto (-73), 3) := by decide +kernel
theorem dX6_readNumber_81 : decode cX6_readNumber 81 = .ok (.aload_n 0, 1) := by decide +kernel
theorem dX6_readNumber_82 : decode cX6_readNumber 82 = .ok (.aload_n 0, 1) := by decide +kernel
theorem dX6_readNumber_83 : decode cX6_readNumber 83 = .ok (.getfield 47, 3) := by decide +kernel
theorem dX6_readNumber_86 : decode cX6_readNumber 86 = .ok (.aload_n 0, 1) := by decide +kernel
theorem dX6_readNumber_87 : decode cX6_readNumber 87 = .ok (.getfield 158, 3) := by decide +kernel
theorem dX6_readNumber_90 : decode cX6_readNumber 90 = .ok (.isub, 1) := by decide +kernel
theorem dX6_readNumber_91 : decode cX6_readNumber 91 = .ok (.iconst 4, 1) := by decide +kernel
theorem dX6_readNumber_92 : decode cX6_readNumber 92 = .ok (.if_icmp .gt 7, 3) := by decide +kernel
theorem dX6_readNumber_95 : decode cX6_readNumber 95 = .ok (.iconst 2, 1) := by decide +kernel
theorem dX6_readNumber_96 : decode cX6_readNumber 96 = .ok (.goto 4, 3) := by decide +kernel
theorem dX6_readNumber_99 : decode cX6_readNumber 99 = .ok (.iconst 4, 1) := by decide +kernel
theorem dX6_readNumber_100 : decode cX6_readNumber 100 = .ok (.putfield 53, 3) := by decide +kernel
theorem dX6_readNumber_103 : decode cX6_readNumber 103 = .ok (.return_, 1) := by decide +kernel
theorem dX6_readWord_0 : decode cX6_readWord 0 = .ok (.aload_n 0, 1) := by decide +kernel
theorem dX6_readWord_1 : decode cX6_readWord 1 = .ok (.getfield 47, 3) := by decide +kernel
theorem dX6_readWord_4 : decode cX6_readWord 4 = .ok (.aload_n 0, 1) := by decide +kernel
theorem dX6_readWord_5 : decode cX6_readWord 5 = .ok (.getfield 30, 3) := by decide +kernel
theorem dX6_readWord_8 : decode cX6_readWord 8 = .ok (.if_icmp .ge 44, 3) := by decide +kernel
theorem dX6_readWord_11 : decode cX6_readWord 11 = .ok (.aload_n 0, 1) := by decide +kernel
theorem dX6_readWord_12 : decode cX6_readWord 12 = .ok (.getfield 9, 3) := by decide +kernel
theorem dX6_readWord_15 : decode cX6_readWord 15 = .ok (.aload_n 0, 1) := by decide +kernel
theorem dX6_readWord_16 : decode cX6_readWord 16 = .ok (.getfield 47, 3) := by decide +kernel
theorem dX6_readWord_19 : decode cX6_readWord 19 = .ok (.caload, 1) := by decide +kernel
theorem dX6_readWord_20 : decode cX6_readWord 20 = .ok (.bipush 97, 2) := by decide +kernel
theorem dX6_readWord_22 : decode cX6_readWord 22 = .ok (.if_icmp .lt 30, 3) := by decide +kernel
theorem dX6_readWord_25 : decode cX6_readWord 25 = .ok (.aload_n 0, 1) := by decide +kernel
theorem dX6_readWord_26 : decode cX6_readWord 26 = .ok (.getfield 9, 3) := by decide +kernel
theorem dX6_readWord_29 : decode cX6_readWord 29 = .ok (.aload_n 0, 1) := by decide +kernel
theorem dX6_readWord_30 : decode cX6_readWord 30 = .ok (.getfield 47, 3) := by decide +kernel
theorem dX6_readWord_33 : decode cX6_readWord 33 = .ok (.caload, 1) := by decide +kernel
theorem dX6_readWord_34 : decode cX6_readWord 34 = .ok (.bipush 122, 2) := by decide +kernel
theorem dX6_readWord_36 : decode cX6_readWord 36 = .ok (.if_icmp .gt 16, 3) := by decide +kernel
theorem dX6_readWord_39 : decode cX6_readWord 39 = .ok (.aload_n 0, 1) := by decide +kernel
theorem dX6_readWord_40 : decode cX6_readWord 40 = .ok (.dup, 1) := by decide +kernel
theorem dX6_readWord_41 : decode cX6_readWord 41 = .ok (.getfield 47, 3) := by decide +kernel
theorem dX6_readWord_44 : decode cX6_readWord 44 = .ok (.iconst 1, 1) := by decide +kernel
theorem dX6_readWord_45 : decode cX6_readWord 45 = .ok (.iadd, 1) := by decide +kernel
theorem dX6_readWord_46 : decode cX6_readWord 46 = .ok (.putfield 47, 3) := by decide +kernel
theorem dX6_readWord_49 : decode cX6_readWord 49 = .ok (.goto (-49), 3) := by decide +kernel
theorem dX6_readWord_52 : decode cX6_readWord 52 = .ok (.aload_n 0, 1) := by decide +kernel
theorem dX6_readWord_53 : decode cX6_readWord 53 = .ok (.aload_n 0, 1) := by decide +kernel
theorem dX6_readWord_54 : decode cX6_readWord 54 = .ok (.getfield 47, 3) := by decide +kernel
theorem dX6_readWord_57 : decode cX6_readWord 57 = .ok (.aload_n 0, 1) := by decide +kernel
theorem dX6_readWord_58 : decode cX6_readWord 58 = .ok (.getfield 158, 3) := by decide +kernel
theorem dX6_readWord_61 : decode cX6_readWord 61 = .ok (.isub, 1) := by decide +kernel
theorem dX6_readWord_62 : decode cX6_readWord 62 = .ok (.bipush 8, 2) := by decide +kernel
theorem dX6_readWord_64 : decode cX6_readWord 64 = .ok (.if_icmp .gt 7, 3) := by decide +kernel
theorem dX6_readWord_67 : decode cX6_readWord 67 = .ok (.iconst 1, 1) := by decide +kernel
theorem dX6_readWord_68 : decode cX6_readWord 68 = .ok (.goto 4, 3) := by decide +kernel
theorem dX6_readWord_71 : decode cX6_readWord 71 = .ok (.iconst 4, 1) := by decide +kernel
theorem dX6_readWord_72 : decode cX6_readWord 72 = .ok (.putfield 53, 3) := by decide +kernel
theorem dX6_readWord_75 : decode cX6_readWord 75 = .ok (.return_, 1) := by decide +kernel
theorem dX6_ruleLine_0 : decode cX6_ruleLine 0 = .ok (.aload_n 0, 1) := by decide +kernel
theorem dX6_ruleLine_1 : decode cX6_ruleLine 1 = .ok (.invokevirtual 50, 3) := by decide +kernel
theorem dX6_ruleLine_4 : decode cX6_ruleLine 4 = .ok (.aload_n 0, 1) := by decide +kernel
theorem dX6_ruleLine_5 : decode cX6_ruleLine 5 = .ok (.bipush 7, 2) := by decide +kernel
theorem dX6_ruleLine_7 : decode cX6_ruleLine 7 = .ok (.invokevirtual 101, 3) := by decide +kernel
theorem dX6_ruleLine_10 : decode cX6_ruleLine 10 = .ok (.ifCond .ne 5, 3) := by decide +kernel
theorem dX6_ruleLine_13 : decode cX6_ruleLine 13 = .ok (.iconst 0, 1) := by decide +kernel
theorem dX6_ruleLine_14 : decode cX6_ruleLine 14 = .ok (.ireturn, 1) := by decide +kernel
theorem dX6_ruleLine_15 : decode cX6_ruleLine 15 = .ok (.bipush 12, 2) := by decide +kernel
theorem dX6_ruleLine_17 : decode cX6_ruleLine 17 = .ok (.aload_n 0, 1) := by decide +kernel
theorem dX6_ruleLine_18 : decode cX6_ruleLine 18 = .ok (.getfield 104, 3) := by decide +kernel
theorem dX6_ruleLine_21 : decode cX6_ruleLine 21 = .ok (.iadd, 1) := by decide +kernel
theorem dX6_ruleLine_22 : decode cX6_ruleLine 22 = .ok (.istore_n 1, 1) := by decide +kernel
theorem dX6_ruleLine_23 : decode cX6_ruleLine 23 = .ok (.aload_n 0, 1) := by decide +kernel
theorem dX6_ruleLine_24 : decode cX6_ruleLine 24 = .ok (.getfield 18, 3) := by decide +kernel
theorem dX6_ruleLine_27 : decode cX6_ruleLine 27 = .ok (.iload_n 1, 1) := by decide +kernel
theorem dX6_ruleLine_28 : decode cX6_ruleLine 28 = .ok (.invokevirtual 107, 3) := by decide +kernel
theorem dX6_ruleLine_31 : decode cX6_ruleLine 31 = .ok (.ifCond .eq 9, 3) := by decide +kernel
theorem dX6_ruleLine_34 : decode cX6_ruleLine 34 = .ok (.aload_n 0, 1) := by decide +kernel
theorem dX6_ruleLine_35 : decode cX6_ruleLine 35 = .ok (.iconst 3, 1) := by decide +kernel
theorem dX6_ruleLine_36 : decode cX6_ruleLine 36 = .ok (.invokevirtual 81, 3) := by decide +kernel
theorem dX6_ruleLine_39 : decode cX6_ruleLine 39 = .ok (.ireturn, 1) := by decide +kernel
theorem dX6_ruleLine_40 : decode cX6_ruleLine 40 = .ok (.aload_n 0, 1) := by decide +kernel
theorem dX6_ruleLine_41 : decode cX6_ruleLine 41 = .ok (.invokevirtual 50, 3) := by decide +kernel
theorem dX6_ruleLine_44 : decode cX6_ruleLine 44 = .ok (.aload_n 0, 1) := by decide +kernel
theorem dX6_ruleLine_45 : decode cX6_ruleLine 45 = .ok (.ldc 110, 2) := by decide +kernel
theorem dX6_ruleLine_47 : decode cX6_ruleLine 47 = .ok (.invokevirtual 90, 3) := by decide +kernel
theorem dX6_ruleLine_50 : decode cX6_ruleLine 50 = .ok (.ifCond .eq 17, 3) := by decide +kernel
theorem dX6_ruleLine_53 : decode cX6_ruleLine 53 = .ok (.aload_n 0, 1) := by decide +kernel
theorem dX6_ruleLine_54 : decode cX6_ruleLine 54 = .ok (.iload_n 1, 1) := by decide +kernel
theorem dX6_ruleLine_55 : decode cX6_ruleLine 55 = .ok (.ldc 22, 2) := by decide +kernel
theorem dX6_ruleLine_57 : decode cX6_ruleLine 57 = .ok (.invokevirtual 94, 3) := by decide +kernel
theorem dX6_ruleLine_60 : decode cX6_ruleLine 60 = .ok (.ifCond .eq 7, 3) := by decide +kernel
theorem dX6_ruleLine_63 : decode cX6_ruleLine 63 = .ok (.iconst 1, 1) := by decide +kernel
theorem dX6_ruleLine_64 : decode cX6_ruleLine 64 = .ok (.goto 4, 3) := by decide +kernel
theorem dX6_ruleLine_67 : decode cX6_ruleLine 67 = .ok (.iconst 0, 1) := by decide +kernel
theorem dX6_ruleLine_68 : decode cX6_ruleLine 68 = .ok (.ireturn, 1) := by decide +kernel
theorem dX6_sinceLine_0 : decode cX6_sinceLine 0 = .ok (.aload_n 0, 1) := by decide +kernel
theorem dX6_sinceLine_1 : decode cX6_sinceLine 1 = .ok (.getfield 40, 3) := by decide +kernel
theorem dX6_sinceLine_4 : decode cX6_sinceLine 4 = .ok (.ifCond .eq 9, 3) := by decide +kernel
theorem dX6_sinceLine_7 : decode cX6_sinceLine 7 = .ok (.aload_n 0, 1) := by decide +kernel
theorem dX6_sinceLine_8 : decode cX6_sinceLine 8 = .ok (.iconst 3, 1) := by decide +kernel
theorem dX6_sinceLine_9 : decode cX6_sinceLine 9 = .ok (.invokevirtual 81, 3) := by decide +kernel
theorem dX6_sinceLine_12 : decode cX6_sinceLine 12 = .ok (.ireturn, 1) := by decide +kernel
theorem dX6_sinceLine_13 : decode cX6_sinceLine 13 = .ok (.aload_n 0, 1) := by decide +kernel
theorem dX6_sinceLine_14 : decode cX6_sinceLine 14 = .ok (.iconst 1, 1) := by decide +kernel
theorem dX6_sinceLine_15 : decode cX6_sinceLine 15 = .ok (.putfield 40, 3) := by decide +kernel
theorem dX6_sinceLine_18 : decode cX6_sinceLine 18 = .ok (.aload_n 0, 1) := by decide +kernel
theorem dX6_sinceLine_19 : decode cX6_sinceLine 19 = .ok (.invokevirtual 50, 3) := by decide +kernel
theorem dX6_sinceLine_22 : decode cX6_sinceLine 22 = .ok (.aload_n 0, 1) := by decide +kernel
theorem dX6_sinceLine_23 : decode cX6_sinceLine 23 = .ok (.bipush 9, 2) := by decide +kernel
theorem dX6_sinceLine_25 : decode cX6_sinceLine 25 = .ok (.invokevirtual 101, 3) := by decide +kernel
theorem dX6_sinceLine_28 : decode cX6_sinceLine 28 = .ok (.ifCond .ne 5, 3) := by decide +kernel
theorem dX6_sinceLine_31 : decode cX6_sinceLine 31 = .ok (.iconst 0, 1) := by decide +kernel
theorem dX6_sinceLine_32 : decode cX6_sinceLine 32 = .ok (.ireturn, 1) := by decide +kernel
theorem dX6_sinceLine_33 : decode cX6_sinceLine 33 = .ok (.aload_n 0, 1) := by decide +kernel
theorem dX6_sinceLine_34 : decode cX6_sinceLine 34 = .ok (.getfield 18, 3) := by decide +kernel
theorem dX6_sinceLine_37 : decode cX6_sinceLine 37 = .ok (.aload_n 0, 1) := by decide +kernel
theorem dX6_sinceLine_38 : decode cX6_sinceLine 38 = .ok (.getfield 104, 3) := by decide +kernel
theorem dX6_sinceLine_41 : decode cX6_sinceLine 41 = .ok (.putfield 112, 3) := by decide +kernel
theorem dX6_sinceLine_44 : decode cX6_sinceLine 44 = .ok (.aload_n 0, 1) := by decide +kernel
theorem dX6_sinceLine_45 : decode cX6_sinceLine 45 = .ok (.invokevirtual 50, 3) := by decide +kernel
theorem dX6_sinceLine_48 : decode cX6_sinceLine 48 = .ok (.aload_n 0, 1) := by decide +kernel
theorem dX6_sinceLine_49 : decode cX6_sinceLine 49 = .ok (.bipush 59, 2) := by decide +kernel
theorem dX6_sinceLine_51 : decode cX6_sinceLine 51 = .ok (.invokevirtual 115, 3) := by decide +kernel
theorem dX6_sinceLine_54 : decode cX6_sinceLine 54 = .ok (.ireturn, 1) := by decide +kernel
theorem dX6_sum_0 : decode cX6_sum 0 = .ok (.aload_n 0, 1) := by decide +kernel
theorem dX6_sum_1 : decode cX6_sum 1 = .ok (.iload_n 1, 1) := by decide +kernel
theorem dX6_sum_2 : decode cX6_sum 2 = .ok (.invokevirtual 150, 3) := by decide +kernel
theorem dX6_sum_5 : decode cX6_sum 5 = .ok (.ifCond .ne 5, 3) := by decide +kernel
theorem dX6_sum_8 : decode cX6_sum 8 = .ok (.iconst 0, 1) := by decide +kernel
theorem dX6_sum_9 : decode cX6_sum 9 = .ok (.ireturn, 1) := by decide +kernel
theorem dX6_sum_10 : decode cX6_sum 10 = .ok (.iconst 0, 1) := by decide +kernel
theorem dX6_sum_11 : decode cX6_sum 11 = .ok (.istore_n 2, 1) := by decide +kernel
theorem dX6_sum_12 : decode cX6_sum 12 = .ok (.iload_n 2, 1) := by decide +kernel
theorem dX6_sum_13 : decode cX6_sum 13 = .ok (.sipush 1000, 3) := by decide +kernel
theorem dX6_sum_16 : decode cX6_sum 16 = .ok (.if_icmp .ge 65, 3) := by decide +kernel
theorem dX6_sum_19 : decode cX6_sum 19 = .ok (.aload_n 0, 1) := by decide +kernel
theorem dX6_sum_20 : decode cX6_sum 20 = .ok (.bipush 43, 2) := by decide +kernel
theorem dX6_sum_22 : decode cX6_sum 22 = .ok (.invokevirtual 147, 3) := by decide +kernel
theorem dX6_sum_25 : decode cX6_sum 25 = .ok (.istore_n 3, 1) := by decide +kernel
theorem dX6_sum_26 : decode cX6_sum 26 = .ok (.iload_n 3, 1) := by decide +kernel
theorem dX6_sum_27 : decode cX6_sum 27 = .ok (.ifCond .ne 14, 3) := by decide +kernel
theorem dX6_sum_30 : decode cX6_sum 30 = .ok (.aload_n 0, 1) := by decide +kernel
theorem dX6_sum_31 : decode cX6_sum 31 = .ok (.bipush 45, 2) := by decide +kernel
theorem dX6_sum_33 : decode cX6_sum 33 = .ok (.invokevirtual 147, 3) := by decide +kernel
theorem dX6_sum_36 : decode cX6_sum 36 = .ok (.ifCond .ne 5, 3) := by decide +kernel
theorem dX6_sum_39 : decode cX6_sum 39 = .ok (.iconst 1, 1) := by decide +kernel
theorem dX6_sum_40 : decode cX6_sum 40 = .ok (.ireturn, 1) := by decide +kernel
theorem dX6_sum_41 : decode cX6_sum 41 = .ok (.aload_n 0, 1) := by decide +kernel
theorem dX6_sum_42 : decode cX6_sum 42 = .ok (.invokevirtual 50, 3) := by decide +kernel
theorem dX6_sum_45 : decode cX6_sum 45 = .ok (.aload_n 0, 1) := by decide +kernel
theorem dX6_sum_46 : decode cX6_sum 46 = .ok (.iload_n 1, 1) := by decide +kernel
theorem dX6_sum_47 : decode cX6_sum 47 = .ok (.invokevirtual 150, 3) := by decide +kernel
theorem dX6_sum_50 : decode cX6_sum 50 = .ok (.ifCond .ne 5, 3) := by decide +kernel
theorem dX6_sum_53 : decode cX6_sum 53 = .ok (.iconst 0, 1) := by decide +kernel
theorem dX6_sum_54 : decode cX6_sum 54 = .ok (.ireturn, 1) := by decide +kernel
theorem dX6_sum_55 : decode cX6_sum 55 = .ok (.aload_n 0, 1) := by decide +kernel
theorem dX6_sum_56 : decode cX6_sum 56 = .ok (.getfield 18, 3) := by decide +kernel
theorem dX6_sum_59 : decode cX6_sum 59 = .ok (.iload_n 3, 1) := by decide +kernel
theorem dX6_sum_60 : decode cX6_sum 60 = .ok (.ifCond .eq 9, 3) := by decide +kernel
theorem dX6_sum_63 : decode cX6_sum 63 = .ok (.sipush 20005, 3) := by decide +kernel
theorem dX6_sum_66 : decode cX6_sum 66 = .ok (.goto 6, 3) := by decide +kernel
theorem dX6_sum_69 : decode cX6_sum 69 = .ok (.sipush 20006, 3) := by decide +kernel
theorem dX6_sum_72 : decode cX6_sum 72 = .ok (.invokevirtual 140, 3) := by decide +kernel
theorem dX6_sum_75 : decode cX6_sum 75 = .ok (.iinc 2 1, 3) := by decide +kernel
theorem dX6_sum_78 : decode cX6_sum 78 = .ok (.goto (-66), 3) := by decide +kernel
theorem dX6_sum_81 : decode cX6_sum 81 = .ok (.iconst 1, 1) := by decide +kernel
theorem dX6_sum_82 : decode cX6_sum 82 = .ok (.ireturn, 1) := by decide +kernel
theorem dX6_takeSign_0 : decode cX6_takeSign 0 = .ok (.aload_n 0, 1) := by decide +kernel
theorem dX6_takeSign_1 : decode cX6_takeSign 1 = .ok (.iload_n 1, 1) := by decide +kernel
theorem dX6_takeSign_2 : decode cX6_takeSign 2 = .ok (.invokevirtual 147, 3) := by decide +kernel
theorem dX6_takeSign_5 : decode cX6_takeSign 5 = .ok (.ifCond .ne 9, 3) := by decide +kernel
theorem dX6_takeSign_8 : decode cX6_takeSign 8 = .ok (.aload_n 0, 1) := by decide +kernel
theorem dX6_takeSign_9 : decode cX6_takeSign 9 = .ok (.iconst 1, 1) := by decide +kernel
theorem dX6_takeSign_10 : decode cX6_takeSign 10 = .ok (.invokevirtual 81, 3) := by decide +kernel
theorem dX6_takeSign_13 : decode cX6_takeSign 13 = .ok (.ireturn, 1) := by decide +kernel
theorem dX6_takeSign_14 : decode cX6_takeSign 14 = .ok (.aload_n 0, 1) := by decide +kernel
theorem dX6_takeSign_15 : decode cX6_takeSign 15 = .ok (.invokevirtual 50, 3) := by decide +kernel
theorem dX6_takeSign_18 : decode cX6_takeSign 18 = .ok (.iconst 1, 1) := by decide +kernel
theorem dX6_takeSign_19 : decode cX6_takeSign 19 = .ok (.ireturn, 1) := by decide +kernel
theorem dX6_takeSigns_0 : decode cX6_takeSigns 0 = .ok (.bipush 56, 2) := by decide +kernel
theorem dX6_takeSigns_2 : decode cX6_takeSigns 2 = .ok (.istore_n 3, 1) := by decide +kernel
theorem dX6_takeSigns_3 : decode cX6_takeSigns 3 = .ok (.iload_n 3, 1) := by decide +kernel
theorem dX6_takeSigns_4 : decode cX6_takeSigns 4 = .ok (.ifCond .lt 72, 3) := by decide +kernel
theorem dX6_takeSigns_7 : decode cX6_takeSigns 7 = .ok (.lload_n 1, 1) := by decide +kernel
theorem dX6_takeSigns_8 : decode cX6_takeSigns 8 = .ok (.iload_n 3, 1) := by decide +kernel
theorem dX6_takeSigns_9 : decode cX6_takeSigns 9 = .ok (.lshr, 1) := by decide +kernel
theorem dX6_takeSigns_10 : decode cX6_takeSigns 10 = .ok (.ldc2_w 28, 3) := by decide +kernel
theorem dX6_takeSigns_13 : decode cX6_takeSigns 13 = .ok (.land, 1) := by decide +kernel
theorem dX6_takeSigns_14 : decode cX6_takeSigns 14 = .ok (.l2i, 1) := by decide +kernel
theorem dX6_takeSigns_15 : decode cX6_takeSigns 15 = .ok (.istore 4, 2) := by decide +kernel
theorem dX6_takeSigns_17 : decode cX6_takeSigns 17 = .ok (.iload 4, 2) := by decide +kernel
theorem dX6_takeSigns_19 : decode cX6_takeSigns 19 = .ok (.bipush 10, 2) := by decide +kernel
theorem dX6_takeSigns_21 : decode cX6_takeSigns 21 = .ok (.if_icmp .eq 17, 3) := by decide +kernel
theorem dX6_takeSigns_24 : decode cX6_takeSigns 24 = .ok (.iload 4, 2) := by decide +kernel
theorem dX6_takeSigns_26 : decode cX6_takeSigns 26 = .ok (.bipush 32, 2) := by decide +kernel
theorem dX6_takeSigns_28 : decode cX6_takeSigns 28 = .ok (.if_icmp .lt 42, 3) := by decide +kernel
theorem dX6_takeSigns_31 : decode cX6_takeSigns 31 = .ok (.iload 4, 2) := by decide +kernel
theorem dX6_takeSigns_33 : decode cX6_takeSigns 33 = .ok (.bipush 126, 2) := by decide +kernel
theorem dX6_takeSigns_35 : decode cX6_takeSigns 35 = .ok (.if_icmp .gt 35, 3) := by decide +kernel
theorem dX6_takeSigns_38 : decode cX6_takeSigns 38 = .ok (.aload_n 0, 1) := by decide +kernel
theorem dX6_takeSigns_39 : decode cX6_takeSigns 39 = .ok (.getfield 30, 3) := by decide +kernel
theorem dX6_takeSigns_42 : decode cX6_takeSigns 42 = .ok (.sipush 1000, 3) := by decide +kernel
theorem dX6_takeSigns_45 : decode cX6_takeSigns 45 = .ok (.if_icmp .ge 25, 3) := by decide +kernel
theorem dX6_takeSigns_48 : decode cX6_takeSigns 48 = .ok (.aload_n 0, 1) := by decide +kernel
theorem dX6_takeSigns_49 : decode cX6_takeSigns 49 = .ok (.getfield 9, 3) := by decide +kernel
theorem dX6_takeSigns_52 : decode cX6_takeSigns 52 = .ok (.aload_n 0, 1) := by decide +kernel
theorem dX6_takeSigns_53 : decode cX6_takeSigns 53 = .ok (.getfield 30, 3) := by decide +kernel
theorem dX6_takeSigns_56 : decode cX6_takeSigns 56 = .ok (.iload 4, 2) := by decide +kernel
theorem dX6_takeSigns_58 : decode cX6_takeSigns 58 = .ok (.i2c, 1) := by decide +kernel
theorem dX6_takeSigns_59 : decode cX6_takeSigns 59 = .ok (.castore, 1) := by decide +kernel
theorem dX6_takeSigns_60 : decode cX6_takeSigns 60 = .ok (.aload_n 0, 1) := by decide +kernel
theorem dX6_takeSigns_61 : decode cX6_takeSigns 61 = .ok (.dup, 1) := by decide +kernel
theorem dX6_takeSigns_62 : decode cX6_takeSigns 62 = .ok (.getfield 30, 3) := by decide +kernel
theorem dX6_takeSigns_65 : decode cX6_takeSigns 65 = .ok (.iconst 1, 1) := by decide +kernel
theorem dX6_takeSigns_66 : decode cX6_takeSigns 66 = .ok (.iadd, 1) := by decide +kernel
theorem dX6_takeSigns_67 : decode cX6_takeSigns 67 = .ok (.putfield 30, 3) := by decide +kernel
theorem dX6_takeSigns_70 : decode cX6_takeSigns 70 = .ok (.iinc 3 (-8), 3) := by decide +kernel
theorem dX6_takeSigns_73 : decode cX6_takeSigns 73 = .ok (.goto (-70), 3) := by decide +kernel
theorem dX6_takeSigns_76 : decode cX6_takeSigns 76 = .ok (.return_, 1) := by decide +kernel
theorem dX6_takeWord_0 : decode cX6_takeWord 0 = .ok (.aload_n 0, 1) := by decide +kernel
theorem dX6_takeWord_1 : decode cX6_takeWord 1 = .ok (.aload_n 1, 1) := by decide +kernel
theorem dX6_takeWord_2 : decode cX6_takeWord 2 = .ok (.invokevirtual 58, 3) := by decide +kernel
theorem dX6_takeWord_5 : decode cX6_takeWord 5 = .ok (.ifCond .eq 9, 3) := by decide +kernel
theorem dX6_takeWord_8 : decode cX6_takeWord 8 = .ok (.aload_n 0, 1) := by decide +kernel
theorem dX6_takeWord_9 : decode cX6_takeWord 9 = .ok (.iconst 1, 1) := by decide +kernel
theorem dX6_takeWord_10 : decode cX6_takeWord 10 = .ok (.invokevirtual 81, 3) := by decide +kernel
theorem dX6_takeWord_13 : decode cX6_takeWord 13 = .ok (.ireturn, 1) := by decide +kernel
theorem dX6_takeWord_14 : decode cX6_takeWord 14 = .ok (.aload_n 0, 1) := by decide +kernel
theorem dX6_takeWord_15 : decode cX6_takeWord 15 = .ok (.invokevirtual 50, 3) := by decide +kernel
theorem dX6_takeWord_18 : decode cX6_takeWord 18 = .ok (.iconst 1, 1) := by decide +kernel
theorem dX6_takeWord_19 : decode cX6_takeWord 19 = .ok (.ireturn, 1) := by decide +kernel
theorem dX6_wholeE_0 : decode cX6_wholeE 0 = .ok (.aload_n 0, 1) := by decide +kernel
theorem dX6_wholeE_1 : decode cX6_wholeE 1 = .ok (.aload_n 2, 1) := by decide +kernel
theorem dX6_wholeE_2 : decode cX6_wholeE 2 = .ok (.putfield 24, 3) := by decide +kernel
theorem dX6_wholeE_5 : decode cX6_wholeE 5 = .ok (.aload_n 0, 1) := by decide +kernel
theorem dX6_wholeE_6 : decode cX6_wholeE 6 = .ok (.getfield 18, 3) := by decide +kernel
theorem dX6_wholeE_9 : decode cX6_wholeE 9 = .ok (.getfield 124, 3) := by decide +kernel
theorem dX6_wholeE_12 : decode cX6_wholeE 12 = .ok (.iload_n 1, 1) := by decide +kernel
theorem dX6_wholeE_13 : decode cX6_wholeE 13 = .ok (.aload_n 0, 1) := by decide +kernel
theorem dX6_wholeE_14 : decode cX6_wholeE 14 = .ok (.getfield 18, 3) := by decide +kernel
theorem dX6_wholeE_17 : decode cX6_wholeE 17 = .ok (.getfield 128, 3) := by decide +kernel
theorem dX6_wholeE_20 : decode cX6_wholeE 20 = .ok (.iastore, 1) := by decide +kernel
theorem dX6_wholeE_21 : decode cX6_wholeE 21 = .ok (.aload_n 0, 1) := by decide +kernel
theorem dX6_wholeE_22 : decode cX6_wholeE 22 = .ok (.iconst 0, 1) := by decide +kernel
theorem dX6_wholeE_23 : decode cX6_wholeE 23 = .ok (.invokevirtual 129, 3) := by decide +kernel
theorem dX6_wholeE_26 : decode cX6_wholeE 26 = .ok (.ifCond .ne 5, 3) := by decide +kernel
theorem dX6_wholeE_29 : decode cX6_wholeE 29 = .ok (.iconst 0, 1) := by decide +kernel
theorem dX6_wholeE_30 : decode cX6_wholeE 30 = .ok (.ireturn, 1) := by decide +kernel
theorem dX6_wholeE_31 : decode cX6_wholeE 31 = .ok (.aload_n 0, 1) := by decide +kernel
theorem dX6_wholeE_32 : decode cX6_wholeE 32 = .ok (.getfield 18, 3) := by decide +kernel
theorem dX6_wholeE_35 : decode cX6_wholeE 35 = .ok (.getfield 132, 3) := by decide +kernel
theorem dX6_wholeE_38 : decode cX6_wholeE 38 = .ok (.iload_n 1, 1) := by decide +kernel
theorem dX6_wholeE_39 : decode cX6_wholeE 39 = .ok (.aload_n 0, 1) := by decide +kernel
theorem dX6_wholeE_40 : decode cX6_wholeE 40 = .ok (.getfield 18, 3) := by decide +kernel
theorem dX6_wholeE_43 : decode cX6_wholeE 43 = .ok (.getfield 128, 3) := by decide +kernel
theorem dX6_wholeE_46 : decode cX6_wholeE 46 = .ok (.iastore, 1) := by decide +kernel
theorem dX6_wholeE_47 : decode cX6_wholeE 47 = .ok (.aload_n 0, 1) := by decide +kernel
theorem dX6_wholeE_48 : decode cX6_wholeE 48 = .ok (.bipush 59, 2) := by decide +kernel
theorem dX6_wholeE_50 : decode cX6_wholeE 50 = .ok (.invokevirtual 115, 3) := by decide +kernel
theorem dX6_wholeE_53 : decode cX6_wholeE 53 = .ok (.ireturn, 1) := by decide +kernel
theorem dX6_wordIn_0 : decode cX6_wordIn 0 = .ok (.aload_n 0, 1) := by decide +kernel
theorem dX6_wordIn_1 : decode cX6_wordIn 1 = .ok (.getfield 53, 3) := by decide +kernel
theorem dX6_wordIn_4 : decode cX6_wordIn 4 = .ok (.iconst 1, 1) := by decide +kernel
theorem dX6_wordIn_5 : decode cX6_wordIn 5 = .ok (.if_icmp .eq 5, 3) := by decide +kernel
theorem dX6_wordIn_8 : decode cX6_wordIn 8 = .ok (.iconst (-1), 1) := by decide +kernel
theorem dX6_wordIn_9 : decode cX6_wordIn 9 = .ok (.ireturn, 1) := by decide +kernel
theorem dX6_wordIn_10 : decode cX6_wordIn 10 = .ok (.iconst 0, 1) := by decide +kernel
theorem dX6_wordIn_11 : decode cX6_wordIn 11 = .ok (.istore_n 2, 1) := by decide +kernel
theorem dX6_wordIn_12 : decode cX6_wordIn 12 = .ok (.iconst 0, 1) := by decide +kernel
theorem dX6_wordIn_13 : decode cX6_wordIn 13 = .ok (.istore_n 3, 1) := by decide +kernel
theorem dX6_wordIn_14 : decode cX6_wordIn 14 = .ok (.iconst 0, 1) := by decide +kernel
theorem dX6_wordIn_15 : decode cX6_wordIn 15 = .ok (.istore 4, 2) := by decide +kernel
theorem dX6_wordIn_17 : decode cX6_wordIn 17 = .ok (.iload 4, 2) := by decide +kernel
theorem dX6_wordIn_19 : decode cX6_wordIn 19 = .ok (.aload_n 1, 1) := by decide +kernel
theorem dX6_wordIn_20 : decode cX6_wordIn 20 = .ok (.invokevirtual 161, 3) := by decide +kernel
theorem dX6_wordIn_23 : decode cX6_wordIn 23 = .ok (.if_icmp .gt 64, 3) := by decide +kernel
theorem dX6_wordIn_26 : decode cX6_wordIn 26 = .ok (.iload 4, 2) := by decide +kernel
theorem dX6_wordIn_28 : decode cX6_wordIn 28 = .ok (.aload_n 1, 1) := by decide +kernel
theorem dX6_wordIn_29 : decode cX6_wordIn 29 = .ok (.invokevirtual 161, 3) := by decide +kernel
theorem dX6_wordIn_32 : decode cX6_wordIn 32 = .ok (.if_icmp .eq 14, 3) := by decide +kernel
theorem dX6_wordIn_35 : decode cX6_wordIn 35 = .ok (.aload_n 1, 1) := by decide +kernel
theorem dX6_wordIn_36 : decode cX6_wordIn 36 = .ok (.iload 4, 2) := by decide +kernel
theorem dX6_wordIn_38 : decode cX6_wordIn 38 = .ok (.invokevirtual 167, 3) := by decide +kernel
theorem dX6_wordIn_41 : decode cX6_wordIn 41 = .ok (.bipush 32, 2) := by decide +kernel
theorem dX6_wordIn_43 : decode cX6_wordIn 43 = .ok (.if_icmp .ne 38, 3) := by decide +kernel
theorem dX6_wordIn_46 : decode cX6_wordIn 46 = .ok (.iload 4, 2) := by decide +kernel
theorem dX6_wordIn_48 : decode cX6_wordIn 48 = .ok (.iload_n 3, 1) := by decide +kernel
theorem dX6_wordIn_49 : decode cX6_wordIn 49 = .ok (.isub, 1) := by decide +kernel
theorem dX6_wordIn_50 : decode cX6_wordIn 50 = .ok (.aload_n 0, 1) := by decide +kernel
theorem dX6_wordIn_51 : decode cX6_wordIn 51 = .ok (.getfield 47, 3) := by decide +kernel
theorem dX6_wordIn_54 : decode cX6_wordIn 54 = .ok (.aload_n 0, 1) := by decide +kernel
theorem dX6_wordIn_55 : decode cX6_wordIn 55 = .ok (.getfield 158, 3) := by decide +kernel
theorem dX6_wordIn_58 : decode cX6_wordIn 58 = .ok (.isub, 1) := by decide +kernel
theorem dX6_wordIn_59 : decode cX6_wordIn 59 = .ok (.if_icmp .ne 14, 3) := by decide +kernel
theorem dX6_wordIn_62 : decode cX6_wordIn 62 = .ok (.aload_n 0, 1) := by decide +kernel
theorem dX6_wordIn_63 : decode cX6_wordIn 63 = .ok (.aload_n 1, 1) := by decide +kernel
theorem dX6_wordIn_64 : decode cX6_wordIn 64 = .ok (.iload_n 3, 1) := by decide +kernel
theorem dX6_wordIn_65 : decode cX6_wordIn 65 = .ok (.invokevirtual 171, 3) := by decide +kernel
theorem dX6_wordIn_68 : decode cX6_wordIn 68 = .ok (.ifCond .eq 5, 3) := by decide +kernel
theorem dX6_wordIn_71 : decode cX6_wordIn 71 = .ok (.iload_n 2, 1) := by decide +kernel
theorem dX6_wordIn_72 : decode cX6_wordIn 72 = .ok (.ireturn, 1) := by decide +kernel
theorem dX6_wordIn_73 : decode cX6_wordIn 73 = .ok (.iinc 2 1, 3) := by decide +kernel
theorem dX6_wordIn_76 : decode cX6_wordIn 76 = .ok (.iload 4, 2) := by decide +kernel
theorem dX6_wordIn_78 : decode cX6_wordIn 78 = .ok (.iconst 1, 1) := by decide +kernel
theorem dX6_wordIn_79 : decode cX6_wordIn 79 = .ok (.iadd, 1) := by decide +kernel
theorem dX6_wordIn_80 : decode cX6_wordIn 80 = .ok (.istore_n 3, 1) := by decide +kernel
theorem dX6_wordIn_81 : decode cX6_wordIn 81 = .ok (.iinc 4 1, 3) := by decide +kernel
theorem dX6_wordIn_84 : decode cX6_wordIn 84 = .ok (.goto (-67), 3) := by decide +kernel
theorem dX6_wordIn_87 : decode cX6_wordIn 87 = .ok (.iconst (-1), 1) := by decide +kernel
theorem dX6_wordIn_88 : decode cX6_wordIn 88 = .ok (.ireturn, 1) := by decide +kernel
theorem dX6_wrong_0 : decode cX6_wrong 0 = .ok (.aload_n 0, 1) := by decide +kernel
theorem dX6_wrong_1 : decode cX6_wrong 1 = .ok (.iload_n 1, 1) := by decide +kernel
theorem dX6_wrong_2 : decode cX6_wrong 2 = .ok (.bipush 16, 2) := by decide +kernel
theorem dX6_wrong_4 : decode cX6_wrong 4 = .ok (.aload_n 0, 1) := by decide +kernel
theorem dX6_wrong_5 : decode cX6_wrong 5 = .ok (.getfield 158, 3) := by decide +kernel
theorem dX6_wrong_8 : decode cX6_wrong 8 = .ok (.imul, 1) := by decide +kernel
theorem dX6_wrong_9 : decode cX6_wrong 9 = .ok (.iadd, 1) := by decide +kernel
theorem dX6_wrong_10 : decode cX6_wrong 10 = .ok (.putfield 37, 3) := by decide +kernel
theorem dX6_wrong_13 : decode cX6_wrong 13 = .ok (.iconst 0, 1) := by decide +kernel
theorem dX6_wrong_14 : decode cX6_wrong 14 = .ok (.ireturn, 1) := by decide +kernel
theorem dX7_ageOf_0 : decode cX7_ageOf 0 = .ok (.aload_n 0, 1) := by decide +kernel
theorem dX7_ageOf_1 : decode cX7_ageOf 1 = .ok (.getfield 9, 3) := by decide +kernel
theorem dX7_ageOf_4 : decode cX7_ageOf 4 = .ok (.iload_n 1, 1) := by decide +kernel
theorem dX7_ageOf_5 : decode cX7_ageOf 5 = .ok (.bipush 10, 2) := by decide +kernel
theorem dX7_ageOf_7 : decode cX7_ageOf 7 = .ok (.imul, 1) := by decide +kernel
theorem dX7_ageOf_8 : decode cX7_ageOf 8 = .ok (.iload_n 2, 1) := by decide +kernel
theorem dX7_ageOf_9 : decode cX7_ageOf 9 = .ok (.iadd, 1) := by decide +kernel
theorem dX7_ageOf_10 : decode cX7_ageOf 10 = .ok (.iaload, 1) := by decide +kernel
theorem dX7_ageOf_11 : decode cX7_ageOf 11 = .ok (.ireturn, 1) := by decide +kernel
theorem dX7_isTold_0 : decode cX7_isTold 0 = .ok (.aload_n 0, 1) := by decide +kernel
theorem dX7_isTold_1 : decode cX7_isTold 1 = .ok (.getfield 18, 3) := by decide +kernel
theorem dX7_isTold_4 : decode cX7_isTold 4 = .ok (.iload_n 1, 1) := by decide +kernel
theorem dX7_isTold_5 : decode cX7_isTold 5 = .ok (.iaload, 1) := by decide +kernel
theorem dX7_isTold_6 : decode cX7_isTold 6 = .ok (.i2l, 1) := by decide +kernel
theorem dX7_isTold_7 : decode cX7_isTold 7 = .ok (.iload_n 2, 1) := by decide +kernel
theorem dX7_isTold_8 : decode cX7_isTold 8 = .ok (.invokestatic 24, 3) := by decide +kernel
theorem dX7_isTold_11 : decode cX7_isTold 11 = .ok (.ireturn, 1) := by decide +kernel
theorem dX7_layerOfNumber_0 : decode cX7_layerOfNumber 0 = .ok (.iconst 0, 1) := by decide +kernel
theorem dX7_layerOfNumber_1 : decode cX7_layerOfNumber 1 = .ok (.istore_n 3, 1) := by decide +kernel
theorem dX7_layerOfNumber_2 : decode cX7_layerOfNumber 2 = .ok (.iconst 0, 1) := by decide +kernel
theorem dX7_layerOfNumber_3 : decode cX7_layerOfNumber 3 = .ok (.istore 4, 2) := by decide +kernel
theorem dX7_layerOfNumber_5 : decode cX7_layerOfNumber 5 = .ok (.iload 4, 2) := by decide +kernel
theorem dX7_layerOfNumber_7 : decode cX7_layerOfNumber 7 = .ok (.bipush 10, 2) := by decide +kernel
theorem dX7_layerOfNumber_9 : decode cX7_layerOfNumber 9 = .ok (.if_icmp .ge 30, 3) := by decide +kernel
theorem dX7_layerOfNumber_12 : decode cX7_layerOfNumber 12 = .ok (.aload_n 0, 1) := by decide +kernel
theorem dX7_layerOfNumber_13 : decode cX7_layerOfNumber 13 = .ok (.iload_n 1, 1) := by decide +kernel
theorem dX7_layerOfNumber_14 : decode cX7_layerOfNumber 14 = .ok (.iload 4, 2) := by decide +kernel
theorem dX7_layerOfNumber_16 : decode cX7_layerOfNumber 16 = .ok (.invokevirtual 37, 3) := by decide +kernel
theorem dX7_layerOfNumber_19 : decode cX7_layerOfNumber 19 = .ok (.ifCond .eq 14, 3) := by decide +kernel
theorem dX7_layerOfNumber_22 : decode cX7_layerOfNumber 22 = .ok (.iload_n 3, 1) := by decide +kernel
theorem dX7_layerOfNumber_23 : decode cX7_layerOfNumber 23 = .ok (.iload_n 2, 1) := by decide +kernel
theorem dX7_layerOfNumber_24 : decode cX7_layerOfNumber 24 = .ok (.if_icmp .ne 6, 3) := by decide +kernel
theorem dX7_layerOfNumber_27 : decode cX7_layerOfNumber 27 = .ok (.iload 4, 2) := by decide +kernel
theorem dX7_layerOfNumber_29 : decode cX7_layerOfNumber 29 = .ok (.ireturn, 1) := by decide +kernel
theorem dX7_layerOfNumber_30 : decode cX7_layerOfNumber 30 = .ok (.iinc 3 1, 3) := by decide +kernel
theorem dX7_layerOfNumber_33 : decode cX7_layerOfNumber 33 = .ok (.iinc 4 1, 3) := by decide +kernel
theorem dX7_layerOfNumber_36 : decode cX7_layerOfNumber 36 = .ok (.goto (-31), 3) := by decide +kernel
theorem dX7_layerOfNumber_39 : decode cX7_layerOfNumber 39 = .ok (.iconst 0, 1) := by decide +kernel
theorem dX7_layerOfNumber_40 : decode cX7_layerOfNumber 40 = .ok (.ireturn, 1) := by decide +kernel
theorem dX7_layersAt_0 : decode cX7_layersAt 0 = .ok (.aload_n 0, 1) := by decide +kernel
theorem dX7_layersAt_1 : decode cX7_layersAt 1 = .ok (.getfield 18, 3) := by decide +kernel
theorem dX7_layersAt_4 : decode cX7_layersAt 4 = .ok (.iload_n 1, 1) := by decide +kernel
theorem dX7_layersAt_5 : decode cX7_layersAt 5 = .ok (.iaload, 1) := by decide +kernel
theorem dX7_layersAt_6 : decode cX7_layersAt 6 = .ok (.invokestatic 28, 3) := by decide +kernel
theorem dX7_layersAt_9 : decode cX7_layersAt 9 = .ok (.ireturn, 1) := by decide +kernel
theorem dX7_layersTold_0 : decode cX7_layersTold 0 = .ok (.iconst 0, 1) := by decide +kernel
theorem dX7_layersTold_1 : decode cX7_layersTold 1 = .ok (.istore_n 1, 1) := by decide +kernel
theorem dX7_layersTold_2 : decode cX7_layersTold 2 = .ok (.iconst 0, 1) := by decide +kernel
theorem dX7_layersTold_3 : decode cX7_layersTold 3 = .ok (.istore_n 2, 1) := by decide +kernel
theorem dX7_layersTold_4 : decode cX7_layersTold 4 = .ok (.iload_n 2, 1) := by decide +kernel
theorem dX7_layersTold_5 : decode cX7_layersTold 5 = .ok (.bipush 8, 2) := by decide +kernel
theorem dX7_layersTold_7 : decode cX7_layersTold 7 = .ok (.if_icmp .ge 17, 3) := by decide +kernel
theorem dX7_layersTold_10 : decode cX7_layersTold 10 = .ok (.iload_n 1, 1) := by decide +kernel
theorem dX7_layersTold_11 : decode cX7_layersTold 11 = .ok (.aload_n 0, 1) := by decide +kernel
theorem dX7_layersTold_12 : decode cX7_layersTold 12 = .ok (.iload_n 2, 1) := by decide +kernel
theorem dX7_layersTold_13 : decode cX7_layersTold 13 = .ok (.invokevirtual 34, 3) := by decide +kernel
theorem dX7_layersTold_16 : decode cX7_layersTold 16 = .ok (.iadd, 1) := by decide +kernel
theorem dX7_layersTold_17 : decode cX7_layersTold 17 = .ok (.istore_n 1, 1) := by decide +kernel
theorem dX7_layersTold_18 : decode cX7_layersTold 18 = .ok (.iinc 2 1, 3) := by decide +kernel
theorem dX7_layersTold_21 : decode cX7_layersTold 21 = .ok (.goto (-17), 3) := by decide +kernel
theorem dX7_layersTold_24 : decode cX7_layersTold 24 = .ok (.iload_n 1, 1) := by decide +kernel
theorem dX7_layersTold_25 : decode cX7_layersTold 25 = .ok (.ireturn, 1) := by decide +kernel
theorem dX7_tellLayer_0 : decode cX7_tellLayer 0 = .ok (.aload_n 0, 1) := by decide +kernel
theorem dX7_tellLayer_1 : decode cX7_tellLayer 1 = .ok (.getfield 9, 3) := by decide +kernel
theorem dX7_tellLayer_4 : decode cX7_tellLayer 4 = .ok (.iload_n 1, 1) := by decide +kernel
theorem dX7_tellLayer_5 : decode cX7_tellLayer 5 = .ok (.bipush 10, 2) := by decide +kernel
theorem dX7_tellLayer_7 : decode cX7_tellLayer 7 = .ok (.imul, 1) := by decide +kernel
theorem dX7_tellLayer_8 : decode cX7_tellLayer 8 = .ok (.iload_n 2, 1) := by decide +kernel
theorem dX7_tellLayer_9 : decode cX7_tellLayer 9 = .ok (.iadd, 1) := by decide +kernel
theorem dX7_tellLayer_10 : decode cX7_tellLayer 10 = .ok (.iload_n 3, 1) := by decide +kernel
theorem dX7_tellLayer_11 : decode cX7_tellLayer 11 = .ok (.iastore, 1) := by decide +kernel
theorem dX7_tellLayer_12 : decode cX7_tellLayer 12 = .ok (.aload_n 0, 1) := by decide +kernel
theorem dX7_tellLayer_13 : decode cX7_tellLayer 13 = .ok (.getfield 18, 3) := by decide +kernel
theorem dX7_tellLayer_16 : decode cX7_tellLayer 16 = .ok (.iload_n 1, 1) := by decide +kernel
theorem dX7_tellLayer_17 : decode cX7_tellLayer 17 = .ok (.dup2, 1) := by decide +kernel
theorem dX7_tellLayer_18 : decode cX7_tellLayer 18 = .ok (.iaload, 1) := by decide +kernel
theorem dX7_tellLayer_19 : decode cX7_tellLayer 19 = .ok (.iconst 1, 1) := by decide +kernel
theorem dX7_tellLayer_20 : decode cX7_tellLayer 20 = .ok (.iload_n 2, 1) := by decide +kernel
theorem dX7_tellLayer_21 : decode cX7_tellLayer 21 = .ok (.ishl, 1) := by decide +kernel
theorem dX7_tellLayer_22 : decode cX7_tellLayer 22 = .ok (.ior, 1) := by decide +kernel
theorem dX7_tellLayer_23 : decode cX7_tellLayer 23 = .ok (.iastore, 1) := by decide +kernel
theorem dX7_tellLayer_24 : decode cX7_tellLayer 24 = .ok (.return_, 1) := by decide +kernel
theorem dX7_tellWay_0 : decode cX7_tellWay 0 = .ok (.aload_n 0, 1) := by decide +kernel
theorem dX7_tellWay_1 : decode cX7_tellWay 1 = .ok (.getfield 21, 3) := by decide +kernel
theorem dX7_tellWay_4 : decode cX7_tellWay 4 = .ok (.iload_n 1, 1) := by decide +kernel
theorem dX7_tellWay_5 : decode cX7_tellWay 5 = .ok (.bipush 8, 2) := by decide +kernel
theorem dX7_tellWay_7 : decode cX7_tellWay 7 = .ok (.imul, 1) := by decide +kernel
theorem dX7_tellWay_8 : decode cX7_tellWay 8 = .ok (.iload_n 2, 1) := by decide +kernel
theorem dX7_tellWay_9 : decode cX7_tellWay 9 = .ok (.iadd, 1) := by decide +kernel
theorem dX7_tellWay_10 : decode cX7_tellWay 10 = .ok (.iload_n 3, 1) := by decide +kernel
theorem dX7_tellWay_11 : decode cX7_tellWay 11 = .ok (.iastore, 1) := by decide +kernel
theorem dX7_tellWay_12 : decode cX7_tellWay 12 = .ok (.aload_n 0, 1) := by decide +kernel
theorem dX7_tellWay_13 : decode cX7_tellWay 13 = .ok (.getfield 21, 3) := by decide +kernel
theorem dX7_tellWay_16 : decode cX7_tellWay 16 = .ok (.iload_n 2, 1) := by decide +kernel
theorem dX7_tellWay_17 : decode cX7_tellWay 17 = .ok (.bipush 8, 2) := by decide +kernel
theorem dX7_tellWay_19 : decode cX7_tellWay 19 = .ok (.imul, 1) := by decide +kernel
theorem dX7_tellWay_20 : decode cX7_tellWay 20 = .ok (.iload_n 1, 1) := by decide +kernel
theorem dX7_tellWay_21 : decode cX7_tellWay 21 = .ok (.iadd, 1) := by decide +kernel
theorem dX7_tellWay_22 : decode cX7_tellWay 22 = .ok (.iload_n 3, 1) := by decide +kernel
theorem dX7_tellWay_23 : decode cX7_tellWay 23 = .ok (.iastore, 1) := by decide +kernel
theorem dX7_tellWay_24 : decode cX7_tellWay 24 = .ok (.return_, 1) := by decide +kernel
theorem dX8_answer_0 : decode cX8_answer 0 = .ok (.iload_n 1, 1) := by decide +kernel
theorem dX8_answer_1 : decode cX8_answer 1 = .ok (.ifCond .ne 8, 3) := by decide +kernel
theorem dX8_answer_4 : decode cX8_answer 4 = .ok (.aload_n 0, 1) := by decide +kernel
theorem dX8_answer_5 : decode cX8_answer 5 = .ok (.getfield 129, 3) := by decide +kernel
theorem dX8_answer_8 : decode cX8_answer 8 = .ok (.ireturn, 1) := by decide +kernel
theorem dX8_answer_9 : decode cX8_answer 9 = .ok (.aload_n 0, 1) := by decide +kernel
theorem dX8_answer_10 : decode cX8_answer 10 = .ok (.getfield 129, 3) := by decide +kernel
theorem dX8_answer_13 : decode cX8_answer 13 = .ok (.ifCond .ne 5, 3) := by decide +kernel
theorem dX8_answer_16 : decode cX8_answer 16 = .ok (.iconst (-1), 1) := by decide +kernel
theorem dX8_answer_17 : decode cX8_answer 17 = .ok (.ireturn, 1) := by decide +kernel
theorem dX8_answer_18 : decode cX8_answer 18 = .ok (.iload_n 1, 1) := by decide +kernel
theorem dX8_answer_19 : decode cX8_answer 19 = .ok (.tableswitch 40 1 3 #[25, 30, 35], 25) := by decide +kernel
theorem dX8_answer_44 : decode cX8_answer 44 = .ok (.aload_n 0, 1) := by decide +kernel
theorem dX8_answer_45 : decode cX8_answer 45 = .ok (.getfield 132, 3) := by decide +kernel
theorem dX8_answer_48 : decode cX8_answer 48 = .ok (.ireturn, 1) := by decide +kernel
theorem dX8_answer_49 : decode cX8_answer 49 = .ok (.aload_n 0, 1) := by decide +kernel
theorem dX8_answer_50 : decode cX8_answer 50 = .ok (.getfield 135, 3) := by decide +kernel
theorem dX8_answer_53 : decode cX8_answer 53 = .ok (.ireturn, 1) := by decide +kernel
theorem dX8_answer_54 : decode cX8_answer 54 = .ok (.aload_n 0, 1) := by decide +kernel
theorem dX8_answer_55 : decode cX8_answer 55 = .ok (.getfield 138, 3) := by decide +kernel
theorem dX8_answer_58 : decode cX8_answer 58 = .ok (.ireturn, 1) := by decide +kernel
theorem dX8_answer_59 : decode cX8_answer 59 = .ok (.aload_n 0, 1) := by decide +kernel
theorem dX8_answer_60 : decode cX8_answer 60 = .ok (.getfield 141, 3) := by decide +kernel
theorem dX8_answer_63 : decode cX8_answer 63 = .ok (.ireturn, 1) := by decide +kernel
theorem dX8_countStories_0 : decode cX8_countStories 0 = .ok (.aload_n 0, 1) := by decide +kernel
theorem dX8_countStories_1 : decode cX8_countStories 1 = .ok (.iconst 0, 1) := by decide +kernel
theorem dX8_countStories_2 : decode cX8_countStories 2 = .ok (.putfield 129, 3) := by decide +kernel
theorem dX8_countStories_5 : decode cX8_countStories 5 = .ok (.aload_n 0, 1) := by decide +kernel
theorem dX8_countStories_6 : decode cX8_countStories 6 = .ok (.bipush 11, 2) := by decide +kernel
theorem dX8_countStories_8 : decode cX8_countStories 8 = .ok (.putfield 132, 3) := by decide +kernel
theorem dX8_countStories_11 : decode cX8_countStories 11 = .ok (.aload_n 0, 1) := by decide +kernel
theorem dX8_countStories_12 : decode cX8_countStories 12 = .ok (.iconst 0, 1) := by decide +kernel
theorem dX8_countStories_13 : decode cX8_countStories 13 = .ok (.putfield 135, 3) := by decide +kernel
theorem dX8_countStories_16 : decode cX8_countStories 16 = .ok (.aload_n 0, 1) := by decide +kernel
theorem dX8_countStories_17 : decode cX8_countStories 17 = .ok (.iconst 0, 1) := by decide +kernel
theorem dX8_countStories_18 : decode cX8_countStories 18 = .ok (.putfield 138, 3) := by decide +kernel
theorem dX8_countStories_21 : decode cX8_countStories 21 = .ok (.aload_n 0, 1) := by decide +kernel
theorem dX8_countStories_22 : decode cX8_countStories 22 = .ok (.iconst 0, 1) := by decide +kernel
theorem dX8_countStories_23 : decode cX8_countStories 23 = .ok (.putfield 141, 3) := by decide +kernel
theorem dX8_countStories_26 : decode cX8_countStories 26 = .ok (.iconst 0, 1) := by decide +kernel
theorem dX8_countStories_27 : decode cX8_countStories 27 = .ok (.istore_n 1, 1) := by decide +kernel
theorem dX8_countStories_28 : decode cX8_countStories 28 = .ok (.iload_n 1, 1) := by decide +kernel
theorem dX8_countStories_29 : decode cX8_countStories 29 = .ok (.sipush 1024, 3) := by decide +kernel
theorem dX8_countStories_32 : decode cX8_countStories 32 = .ok (.if_icmp .ge 95, 3) := by decide +kernel
theorem dX8_countStories_35 : decode cX8_countStories 35 = .ok (.aload_n 0, 1) := by decide +kernel
theorem dX8_countStories_36 : decode cX8_countStories 36 = .ok (.getfield 18, 3) := by decide +kernel
theorem dX8_countStories_39 : decode cX8_countStories 39 = .ok (.iload_n 1, 1) := by decide +kernel
theorem dX8_countStories_40 : decode cX8_countStories 40 = .ok (.baload, 1) := by decide +kernel
theorem dX8_countStories_41 : decode cX8_countStories 41 = .ok (.ifCond .eq 6, 3) := by decide +kernel
theorem dX8_countStories_44 : decode cX8_countStories 44 = .ok (.goto 77, 3) := by decide +kernel
theorem dX8_countStories_47 : decode cX8_countStories 47 = .ok (.aload_n 0, 1) := by decide +kernel
theorem dX8_countStories_48 : decode cX8_countStories 48 = .ok (.dup, 1) := by decide +kernel
theorem dX8_countStories_49 : decode cX8_countStories 49 = .ok (.getfield 129, 3) := by decide +kernel
theorem dX8_countStories_52 : decode cX8_countStories 52 = .ok (.iconst 1, 1) := by decide +kernel
theorem dX8_countStories_53 : decode cX8_countStories 53 = .ok (.iadd, 1) := by decide +kernel
theorem dX8_countStories_54 : decode cX8_countStories 54 = .ok (.putfield 129, 3) := by decide +kernel
theorem dX8_countStories_57 : decode cX8_countStories 57 = .ok (.iload_n 1, 1) := by decide +kernel
theorem dX8_countStories_58 : decode cX8_countStories 58 = .ok (.invokestatic 144, 3) := by decide +kernel
theorem dX8_countStories_61 : decode cX8_countStories 61 = .ok (.istore_n 2, 1) := by decide +kernel
theorem dX8_countStories_62 : decode cX8_countStories 62 = .ok (.iload_n 2, 1) := by decide +kernel
theorem dX8_countStories_63 : decode cX8_countStories 63 = .ok (.aload_n 0, 1) := by decide +kernel
theorem dX8_countStories_64 : decode cX8_countStories 64 = .ok (.getfield 132, 3) := by decide +kernel
theorem dX8_countStories_67 : decode cX8_countStories 67 = .ok (.if_icmp .ge 26, 3) := by decide +kernel
theorem dX8_countStories_70 : decode cX8_countStories 70 = .ok (.aload_n 0, 1) := by decide +kernel
theorem dX8_countStories_71 : decode cX8_countStories 71 = .ok (.iload_n 2, 1) := by decide +kernel
theorem dX8_countStories_72 : decode cX8_countStories 72 = .ok (.putfield 132, 3) := by decide +kernel
theorem dX8_countStories_75 : decode cX8_countStories 75 = .ok (.aload_n 0, 1) := by decide +kernel
theorem dX8_countStories_76 : decode cX8_countStories 76 = .ok (.iload_n 1, 1) := by decide +kernel
theorem dX8_countStories_77 : decode cX8_countStories 77 = .ok (.putfield 135, 3) := by decide +kernel
theorem dX8_countStories_80 : decode cX8_countStories 80 = .ok (.aload_n 0, 1) := by decide +kernel
theorem dX8_countStories_81 : decode cX8_countStories 81 = .ok (.iload_n 1, 1) := by decide +kernel
theorem dX8_countStories_82 : decode cX8_countStories 82 = .ok (.putfield 138, 3) := by decide +kernel
theorem dX8_countStories_85 : decode cX8_countStories 85 = .ok (.aload_n 0, 1) := by decide +kernel
theorem dX8_countStories_86 : decode cX8_countStories 86 = .ok (.iload_n 1, 1) := by decide +kernel
theorem dX8_countStories_87 : decode cX8_countStories 87 = .ok (.putfield 141, 3) := by decide +kernel
theorem dX8_countStories_90 : decode cX8_countStories 90 = .ok (.goto 31, 3) := by decide +kernel
theorem dX8_countStories_93 : decode cX8_countStories 93 = .ok (.iload_n 2, 1) := by decide +kernel
theorem dX8_countStories_94 : decode cX8_countStories 94 = .ok (.aload_n 0, 1) := by decide +kernel
theorem dX8_countStories_95 : decode cX8_countStories 95 = .ok (.getfield 132, 3) := by decide +kernel
theorem dX8_countStories_98 : decode cX8_countStories 98 = .ok (.if_icmp .ne 23, 3) := by decide +kernel
theorem dX8_countStories_101 : decode cX8_countStories 101 = .ok (.aload_n 0, 1) := by decide +kernel
theorem dX8_countStories_102 : decode cX8_countStories 102 = .ok (.dup, 1) := by decide +kernel
theorem dX8_countStories_103 : decode cX8_countStories 103 = .ok (.getfield 138, 3) := by decide +kernel
theorem dX8_countStories_106 : decode cX8_countStories 106 = .ok (.iload_n 1, 1) := by decide +kernel
theorem dX8_countStories_107 : decode cX8_countStories 107 = .ok (.iand, 1) := by decide +kernel
theorem dX8_countStories_108 : decode cX8_countStories 108 = .ok (.putfield 138, 3) := by decide +kernel
theorem dX8_countStories_111 : decode cX8_countStories 111 = .ok (.aload_n 0, 1) := by decide +kernel
theorem dX8_countStories_112 : decode cX8_countStories 112 = .ok (.dup, 1) := by decide +kernel
theorem dX8_countStories_113 : decode cX8_countStories 113 = .ok (.getfield 141, 3) := by decide +kernel
theorem dX8_countStories_116 : decode cX8_countStories 116 = .ok (.iload_n 1, 1) := by decide +kernel
theorem dX8_countStories_117 : decode cX8_countStories 117 = .ok (.ior, 1) := by decide +kernel
theorem dX8_countStories_118 : decode cX8_countStories 118 = .ok (.putfield 141, 3) := by decide +kernel
theorem dX8_countStories_121 : decode cX8_countStories 121 = .ok (.iinc 1 1, 3) := by decide +kernel
theorem dX8_countStories_124 : decode cX8_countStories 124 = .ok (.goto (-96), 3) := by decide +kernel
theorem dX8_countStories_127 : decode cX8_countStories 127 = .ok (.return_, 1) := by decide +kernel
theorem dX8_doubt_0 : decode cX8_doubt 0 = .ok (.aload_n 0, 1) := by decide +kernel
theorem dX8_doubt_1 : decode cX8_doubt 1 = .ok (.lconst 0, 1) := by decide +kernel
theorem dX8_doubt_2 : decode cX8_doubt 2 = .ok (.putfield 149, 3) := by decide +kernel
theorem dX8_doubt_5 : decode cX8_doubt 5 = .ok (.iconst 0, 1) := by decide +kernel
theorem dX8_doubt_6 : decode cX8_doubt 6 = .ok (.istore_n 1, 1) := by decide +kernel
theorem dX8_doubt_7 : decode cX8_doubt 7 = .ok (.iload_n 1, 1) := by decide +kernel
theorem dX8_doubt_8 : decode cX8_doubt 8 = .ok (.aload_n 0, 1) := by decide +kernel
theorem dX8_doubt_9 : decode cX8_doubt 9 = .ok (.getfield 29, 3) := by decide +kernel
theorem dX8_doubt_12 : decode cX8_doubt 12 = .ok (.getfield 45, 3) := by decide +kernel
theorem dX8_doubt_15 : decode cX8_doubt 15 = .ok (.if_icmp .ge 53, 3) := by decide +kernel
theorem dX8_doubt_18 : decode cX8_doubt 18 = .ok (.aload_n 0, 1) := by decide +kernel
theorem dX8_doubt_19 : decode cX8_doubt 19 = .ok (.getfield 37, 3) := by decide +kernel
theorem dX8_doubt_22 : decode cX8_doubt 22 = .ok (.getfield 58, 3) := by decide +kernel
theorem dX8_doubt_25 : decode cX8_doubt 25 = .ok (.iload_n 1, 1) := by decide +kernel
theorem dX8_doubt_26 : decode cX8_doubt 26 = .ok (.iaload, 1) := by decide +kernel
theorem dX8_doubt_27 : decode cX8_doubt 27 = .ok (.ifCond .ne 23, 3) := by decide +kernel
theorem dX8_doubt_30 : decode cX8_doubt 30 = .ok (.aload_n 0, 1) := by decide +kernel
theorem dX8_doubt_31 : decode cX8_doubt 31 = .ok (.getfield 141, 3) := by decide +kernel
theorem dX8_doubt_34 : decode cX8_doubt 34 = .ok (.i2l, 1) := by decide +kernel
theorem dX8_doubt_35 : decode cX8_doubt 35 = .ok (.aload_n 0, 1) := by decide +kernel
theorem dX8_doubt_36 : decode cX8_doubt 36 = .ok (.getfield 29, 3) := by decide +kernel
theorem dX8_doubt_39 : decode cX8_doubt 39 = .ok (.getfield 152, 3) := by decide +kernel
theorem dX8_doubt_42 : decode cX8_doubt 42 = .ok (.iload_n 1, 1) := by decide +kernel
theorem dX8_doubt_43 : decode cX8_doubt 43 = .ok (.iaload, 1) := by decide +kernel
theorem dX8_doubt_44 : decode cX8_doubt 44 = .ok (.invokestatic 114, 3) := by decide +kernel
theorem dX8_doubt_47 : decode cX8_doubt 47 = .ok (.ifCond .eq 15, 3) := by decide +kernel
theorem dX8_doubt_50 : decode cX8_doubt 50 = .ok (.aload_n 0, 1) := by decide +kernel
theorem dX8_doubt_51 : decode cX8_doubt 51 = .ok (.dup, 1) := by decide +kernel
theorem dX8_doubt_52 : decode cX8_doubt 52 = .ok (.getfield 149, 3) := by decide +kernel
theorem dX8_doubt_55 : decode cX8_doubt 55 = .ok (.lconst 1, 1) := by decide +kernel
theorem dX8_doubt_56 : decode cX8_doubt 56 = .ok (.iload_n 1, 1) := by decide +kernel
theorem dX8_doubt_57 : decode cX8_doubt 57 = .ok (.lshl, 1) := by decide +kernel
theorem dX8_doubt_58 : decode cX8_doubt 58 = .ok (.lor, 1) := by decide +kernel
theorem dX8_doubt_59 : decode cX8_doubt 59 = .ok (.putfield 149, 3) := by decide +kernel
theorem dX8_doubt_62 : decode cX8_doubt 62 = .ok (.iinc 1 1, 3) := by decide +kernel
theorem dX8_doubt_65 : decode cX8_doubt 65 = .ok (.goto (-58), 3) := by decide +kernel
theorem dX8_doubt_68 : decode cX8_doubt 68 = .ok (.return_, 1) := by decide +kernel
theorem dX8_leastRules_0 : decode cX8_leastRules 0 = .ok (.iconst 0, 1) := by decide +kernel
theorem dX8_leastRules_1 : decode cX8_leastRules 1 = .ok (.istore_n 1, 1) := by decide +kernel
theorem dX8_leastRules_2 : decode cX8_leastRules 2 = .ok (.iconst 0, 1) := by decide +kernel
theorem dX8_leastRules_3 : decode cX8_leastRules 3 = .ok (.istore_n 2, 1) := by decide +kernel
theorem dX8_leastRules_4 : decode cX8_leastRules 4 = .ok (.iload_n 2, 1) := by decide +kernel
theorem dX8_leastRules_5 : decode cX8_leastRules 5 = .ok (.aload_n 0, 1) := by decide +kernel
theorem dX8_leastRules_6 : decode cX8_leastRules 6 = .ok (.getfield 29, 3) := by decide +kernel
theorem dX8_leastRules_9 : decode cX8_leastRules 9 = .ok (.getfield 45, 3) := by decide +kernel
theorem dX8_leastRules_12 : decode cX8_leastRules 12 = .ok (.if_icmp .ge 43, 3) := by decide +kernel
theorem dX8_leastRules_15 : decode cX8_leastRules 15 = .ok (.aload_n 0, 1) := by decide +kernel
theorem dX8_leastRules_16 : decode cX8_leastRules 16 = .ok (.getfield 149, 3) := by decide +kernel
theorem dX8_leastRules_19 : decode cX8_leastRules 19 = .ok (.iload_n 2, 1) := by decide +kernel
theorem dX8_leastRules_20 : decode cX8_leastRules 20 = .ok (.invokestatic 114, 3) := by decide +kernel
theorem dX8_leastRules_23 : decode cX8_leastRules 23 = .ok (.ifCond .eq 26, 3) := by decide +kernel
theorem dX8_leastRules_26 : decode cX8_leastRules 26 = .ok (.aload_n 0, 1) := by decide +kernel
theorem dX8_leastRules_27 : decode cX8_leastRules 27 = .ok (.getfield 9, 3) := by decide +kernel
theorem dX8_leastRules_30 : decode cX8_leastRules 30 = .ok (.iload_n 2, 1) := by decide +kernel
theorem dX8_leastRules_31 : decode cX8_leastRules 31 = .ok (.iaload, 1) := by decide +kernel
theorem dX8_leastRules_32 : decode cX8_leastRules 32 = .ok (.ifCond .eq 17, 3) := by decide +kernel
theorem dX8_leastRules_35 : decode cX8_leastRules 35 = .ok (.aload_n 0, 1) := by decide +kernel
theorem dX8_leastRules_36 : decode cX8_leastRules 36 = .ok (.getfield 22, 3) := by decide +kernel
theorem dX8_leastRules_39 : decode cX8_leastRules 39 = .ok (.iload_n 1, 1) := by decide +kernel
theorem dX8_leastRules_40 : decode cX8_leastRules 40 = .ok (.aload_n 0, 1) := by decide +kernel
theorem dX8_leastRules_41 : decode cX8_leastRules 41 = .ok (.iload_n 2, 1) := by decide +kernel
theorem dX8_leastRules_42 : decode cX8_leastRules 42 = .ok (.invokevirtual 153, 3) := by decide +kernel
theorem dX8_leastRules_45 : decode cX8_leastRules 45 = .ok (.iastore, 1) := by decide +kernel
theorem dX8_leastRules_46 : decode cX8_leastRules 46 = .ok (.iinc 1 1, 3) := by decide +kernel
theorem dX8_leastRules_49 : decode cX8_leastRules 49 = .ok (.iinc 2 1, 3) := by decide +kernel
theorem dX8_leastRules_52 : decode cX8_leastRules 52 = .ok (.goto (-48), 3) := by decide +kernel
theorem dX8_leastRules_55 : decode cX8_leastRules 55 = .ok (.iconst (-1), 1) := by decide +kernel
theorem dX8_leastRules_56 : decode cX8_leastRules 56 = .ok (.istore_n 2, 1) := by decide +kernel
theorem dX8_leastRules_57 : decode cX8_leastRules 57 = .ok (.iconst 0, 1) := by decide +kernel
theorem dX8_leastRules_58 : decode cX8_leastRules 58 = .ok (.istore_n 3, 1) := by decide +kernel
theorem dX8_leastRules_59 : decode cX8_leastRules 59 = .ok (.iload_n 3, 1) := by decide +kernel
theorem dX8_leastRules_60 : decode cX8_leastRules 60 = .ok (.sipush 256, 3) := by decide +kernel
theorem dX8_leastRules_63 : decode cX8_leastRules 63 = .ok (.if_icmp .ge 48, 3) := by decide +kernel
theorem dX8_leastRules_66 : decode cX8_leastRules 66 = .ok (.iload_n 2, 1) := by decide +kernel
theorem dX8_leastRules_67 : decode cX8_leastRules 67 = .ok (.iconst (-1), 1) := by decide +kernel
theorem dX8_leastRules_68 : decode cX8_leastRules 68 = .ok (.if_icmp .eq 14, 3) := by decide +kernel
theorem dX8_leastRules_71 : decode cX8_leastRules 71 = .ok (.iload_n 3, 1) := by decide +kernel
theorem dX8_leastRules_72 : decode cX8_leastRules 72 = .ok (.invokestatic 144, 3) := by decide +kernel
theorem dX8_leastRules_75 : decode cX8_leastRules 75 = .ok (.iload_n 2, 1) := by decide +kernel
theorem dX8_leastRules_76 : decode cX8_leastRules 76 = .ok (.invokestatic 144, 3) := by decide +kernel
theorem dX8_leastRules_79 : decode cX8_leastRules 79 = .ok (.if_icmp .ge 7, 3) := by decide +kernel
theorem dX8_leastRules_82 : decode cX8_leastRules 82 = .ok (.iconst 1, 1) := by decide +kernel
theorem dX8_leastRules_83 : decode cX8_leastRules 83 = .ok (.goto 4, 3) := by decide +kernel
theorem dX8_leastRules_86 : decode cX8_leastRules 86 = .ok (.iconst 0, 1) := by decide +kernel
theorem dX8_leastRules_87 : decode cX8_leastRules 87 = .ok (.istore 4, 2) := by decide +kernel
theorem dX8_leastRules_89 : decode cX8_leastRules 89 = .ok (.iload 4, 2) := by decide +kernel
theorem dX8_leastRules_91 : decode cX8_leastRules 91 = .ok (.ifCond .eq 14, 3) := by decide +kernel
theorem dX8_leastRules_94 : decode cX8_leastRules 94 = .ok (.aload_n 0, 1) := by decide +kernel
theorem dX8_leastRules_95 : decode cX8_leastRules 95 = .ok (.iload_n 3, 1) := by decide +kernel
theorem dX8_leastRules_96 : decode cX8_leastRules 96 = .ok (.iload_n 1, 1) := by decide +kernel
theorem dX8_leastRules_97 : decode cX8_leastRules 97 = .ok (.invokevirtual 156, 3) := by decide +kernel
theorem dX8_leastRules_100 : decode cX8_leastRules 100 = .ok (.ifCond .eq 5, 3) := by decide +kernel
theorem dX8_leastRules_103 : decode cX8_leastRules 103 = .ok (.iload_n 3, 1) := by decide +kernel
theorem dX8_leastRules_104 : decode cX8_leastRules 104 = .ok (.istore_n 2, 1) := by decide +kernel
theorem dX8_leastRules_105 : decode cX8_leastRules 105 = .ok (.iinc 3 1, 3) := by decide +kernel
theorem dX8_leastRules_108 : decode cX8_leastRules 108 = .ok (.goto (-49), 3) := by decide +kernel
theorem dX8_leastRules_111 : decode cX8_leastRules 111 = .ok (.iload_n 2, 1) := by decide +kernel
theorem dX8_leastRules_112 : decode cX8_leastRules 112 = .ok (.ireturn, 1) := by decide +kernel
theorem dX8_refuteAll_0 : decode cX8_refuteAll 0 = .ok (.iconst 0, 1) := by decide +kernel
theorem dX8_refuteAll_1 : decode cX8_refuteAll 1 = .ok (.istore_n 1, 1) := by decide +kernel
theorem dX8_refuteAll_2 : decode cX8_refuteAll 2 = .ok (.iload_n 1, 1) := by decide +kernel
theorem dX8_refuteAll_3 : decode cX8_refuteAll 3 = .ok (.sipush 1024, 3) := by decide +kernel
theorem dX8_refuteAll_6 : decode cX8_refuteAll 6 = .ok (.if_icmp .ge 16, 3) := by decide +kernel
theorem dX8_refuteAll_9 : decode cX8_refuteAll 9 = .ok (.aload_n 0, 1) := by decide +kernel
theorem dX8_refuteAll_10 : decode cX8_refuteAll 10 = .ok (.getfield 18, 3) := by decide +kernel
theorem dX8_refuteAll_13 : decode cX8_refuteAll 13 = .ok (.iload_n 1, 1) := by decide +kernel
theorem dX8_refuteAll_14 : decode cX8_refuteAll 14 = .ok (.iconst 0, 1) := by decide +kernel
theorem dX8_refuteAll_15 : decode cX8_refuteAll 15 = .ok (.bastore, 1) := by decide +kernel
theorem dX8_refuteAll_16 : decode cX8_refuteAll 16 = .ok (.iinc 1 1, 3) := by decide +kernel
theorem dX8_refuteAll_19 : decode cX8_refuteAll 19 = .ok (.goto (-17), 3) := by decide +kernel
theorem dX8_refuteAll_22 : decode cX8_refuteAll 22 = .ok (.iconst 0, 1) := by decide +kernel
theorem dX8_refuteAll_23 : decode cX8_refuteAll 23 = .ok (.istore_n 1, 1) := by decide +kernel
theorem dX8_refuteAll_24 : decode cX8_refuteAll 24 = .ok (.iload_n 1, 1) := by decide +kernel
theorem dX8_refuteAll_25 : decode cX8_refuteAll 25 = .ok (.aload_n 0, 1) := by decide +kernel
theorem dX8_refuteAll_26 : decode cX8_refuteAll 26 = .ok (.getfield 29, 3) := by decide +kernel
theorem dX8_refuteAll_29 : decode cX8_refuteAll 29 = .ok (.getfield 45, 3) := by decide +kernel
theorem dX8_refuteAll_32 : decode cX8_refuteAll 32 = .ok (.if_icmp .ge 76, 3) := by decide +kernel
theorem dX8_refuteAll_35 : decode cX8_refuteAll 35 = .ok (.aload_n 0, 1) := by decide +kernel
theorem dX8_refuteAll_36 : decode cX8_refuteAll 36 = .ok (.getfield 41, 3) := by decide +kernel
theorem dX8_refuteAll_39 : decode cX8_refuteAll 39 = .ok (.iload_n 1, 1) := by decide +kernel
theorem dX8_refuteAll_40 : decode cX8_refuteAll 40 = .ok (.invokestatic 114, 3) := by decide +kernel
theorem dX8_refuteAll_43 : decode cX8_refuteAll 43 = .ok (.ifCond .eq 13, 3) := by decide +kernel
theorem dX8_refuteAll_46 : decode cX8_refuteAll 46 = .ok (.aload_n 0, 1) := by decide +kernel
theorem dX8_refuteAll_47 : decode cX8_refuteAll 47 = .ok (.aload_n 0, 1) := by decide +kernel
theorem dX8_refuteAll_48 : decode cX8_refuteAll 48 = .ok (.getfield 15, 3) := by decide +kernel
theorem dX8_refuteAll_51 : decode cX8_refuteAll 51 = .ok (.iload_n 1, 1) := by decide +kernel
theorem dX8_refuteAll_52 : decode cX8_refuteAll 52 = .ok (.iaload, 1) := by decide +kernel
theorem dX8_refuteAll_53 : decode cX8_refuteAll 53 = .ok (.invokevirtual 118, 3) := by decide +kernel
theorem dX8_refuteAll_56 : decode cX8_refuteAll 56 = .ok (.iconst 0, 1) := by decide +kernel
theorem dX8_refuteAll_57 : decode cX8_refuteAll 57 = .ok (.istore_n 2, 1) := by decide +kernel
theorem dX8_refuteAll_58 : decode cX8_refuteAll 58 = .ok (.iload_n 2, 1) := by decide +kernel
theorem dX8_refuteAll_59 : decode cX8_refuteAll 59 = .ok (.iload_n 1, 1) := by decide +kernel
theorem dX8_refuteAll_60 : decode cX8_refuteAll 60 = .ok (.if_icmp .ge 42, 3) := by decide +kernel
theorem dX8_refuteAll_63 : decode cX8_refuteAll 63 = .ok (.aload_n 0, 1) := by decide +kernel
theorem dX8_refuteAll_64 : decode cX8_refuteAll 64 = .ok (.getfield 37, 3) := by decide +kernel
theorem dX8_refuteAll_67 : decode cX8_refuteAll 67 = .ok (.getfield 122, 3) := by decide +kernel
theorem dX8_refuteAll_70 : decode cX8_refuteAll 70 = .ok (.iload_n 1, 1) := by decide +kernel
theorem dX8_refuteAll_71 : decode cX8_refuteAll 71 = .ok (.laload, 1) := by decide +kernel
theorem dX8_refuteAll_72 : decode cX8_refuteAll 72 = .ok (.iload_n 2, 1) := by decide +kernel
theorem dX8_refuteAll_73 : decode cX8_refuteAll 73 = .ok (.invokestatic 114, 3) := by decide +kernel
theorem dX8_refuteAll_76 : decode cX8_refuteAll 76 = .ok (.ifCond .eq 20, 3) := by decide +kernel
theorem dX8_refuteAll_79 : decode cX8_refuteAll 79 = .ok (.aload_n 0, 1) := by decide +kernel
theorem dX8_refuteAll_80 : decode cX8_refuteAll 80 = .ok (.aload_n 0, 1) := by decide +kernel
theorem dX8_refuteAll_81 : decode cX8_refuteAll 81 = .ok (.getfield 15, 3) := by decide +kernel
theorem dX8_refuteAll_84 : decode cX8_refuteAll 84 = .ok (.iload_n 1, 1) := by decide +kernel
theorem dX8_refuteAll_85 : decode cX8_refuteAll 85 = .ok (.iaload, 1) := by decide +kernel
theorem dX8_refuteAll_86 : decode cX8_refuteAll 86 = .ok (.aload_n 0, 1) := by decide +kernel
theorem dX8_refuteAll_87 : decode cX8_refuteAll 87 = .ok (.getfield 15, 3) := by decide +kernel
theorem dX8_refuteAll_90 : decode cX8_refuteAll 90 = .ok (.iload_n 2, 1) := by decide +kernel
theorem dX8_refuteAll_91 : decode cX8_refuteAll 91 = .ok (.iaload, 1) := by decide +kernel
theorem dX8_refuteAll_92 : decode cX8_refuteAll 92 = .ok (.ior, 1) := by decide +kernel
theorem dX8_refuteAll_93 : decode cX8_refuteAll 93 = .ok (.invokevirtual 118, 3) := by decide +kernel
theorem dX8_refuteAll_96 : decode cX8_refuteAll 96 = .ok (.iinc 2 1, 3) := by decide +kernel
theorem dX8_refuteAll_99 : decode cX8_refuteAll 99 = .ok (.goto (-41), 3) := by decide +kernel
theorem dX8_refuteAll_102 : decode cX8_refuteAll 102 = .ok (.iinc 1 1, 3) := by decide +kernel
theorem dX8_refuteAll_105 : decode cX8_refuteAll 105 = .ok (.goto (-81), 3) := by decide +kernel
theorem dX8_refuteAll_108 : decode cX8_refuteAll 108 = .ok (.aload_n 0, 1) := by decide +kernel
theorem dX8_refuteAll_109 : decode cX8_refuteAll 109 = .ok (.invokevirtual 126, 3) := by decide +kernel
theorem dX8_refuteAll_112 : decode cX8_refuteAll 112 = .ok (.return_, 1) := by decide +kernel
theorem dX8_refuteWithout_0 : decode cX8_refuteWithout 0 = .ok (.aload_n 0, 1) := by decide +kernel
theorem dX8_refuteWithout_1 : decode cX8_refuteWithout 1 = .ok (.getfield 18, 3) := by decide +kernel
theorem dX8_refuteWithout_4 : decode cX8_refuteWithout 4 = .ok (.sipush 1023, 3) := by decide +kernel
theorem dX8_refuteWithout_7 : decode cX8_refuteWithout 7 = .ok (.iload_n 1, 1) := by decide +kernel
theorem dX8_refuteWithout_8 : decode cX8_refuteWithout 8 = .ok (.iconst (-1), 1) := by decide +kernel
theorem dX8_refuteWithout_9 : decode cX8_refuteWithout 9 = .ok (.ixor, 1) := by decide +kernel
theorem dX8_refuteWithout_10 : decode cX8_refuteWithout 10 = .ok (.iand, 1) := by decide +kernel
theorem dX8_refuteWithout_11 : decode cX8_refuteWithout 11 = .ok (.iconst 1, 1) := by decide +kernel
theorem dX8_refuteWithout_12 : decode cX8_refuteWithout 12 = .ok (.bastore, 1) := by decide +kernel
theorem dX8_refuteWithout_13 : decode cX8_refuteWithout 13 = .ok (.return_, 1) := by decide +kernel
theorem dX8_rulesAgainst_0 : decode cX8_rulesAgainst 0 = .ok (.iconst 0, 1) := by decide +kernel
theorem dX8_rulesAgainst_1 : decode cX8_rulesAgainst 1 = .ok (.istore_n 2, 1) := by decide +kernel
theorem dX8_rulesAgainst_2 : decode cX8_rulesAgainst 2 = .ok (.iconst 0, 1) := by decide +kernel
theorem dX8_rulesAgainst_3 : decode cX8_rulesAgainst 3 = .ok (.istore_n 3, 1) := by decide +kernel
theorem dX8_rulesAgainst_4 : decode cX8_rulesAgainst 4 = .ok (.iload_n 3, 1) := by decide +kernel
theorem dX8_rulesAgainst_5 : decode cX8_rulesAgainst 5 = .ok (.bipush 8, 2) := by decide +kernel
theorem dX8_rulesAgainst_7 : decode cX8_rulesAgainst 7 = .ok (.if_icmp .ge 41, 3) := by decide +kernel
theorem dX8_rulesAgainst_10 : decode cX8_rulesAgainst 10 = .ok (.aload_n 0, 1) := by decide +kernel
theorem dX8_rulesAgainst_11 : decode cX8_rulesAgainst 11 = .ok (.getfield 33, 3) := by decide +kernel
theorem dX8_rulesAgainst_14 : decode cX8_rulesAgainst 14 = .ok (.bipush 12, 2) := by decide +kernel
theorem dX8_rulesAgainst_16 : decode cX8_rulesAgainst 16 = .ok (.iload_n 3, 1) := by decide +kernel
theorem dX8_rulesAgainst_17 : decode cX8_rulesAgainst 17 = .ok (.iadd, 1) := by decide +kernel
theorem dX8_rulesAgainst_18 : decode cX8_rulesAgainst 18 = .ok (.invokevirtual 160, 3) := by decide +kernel
theorem dX8_rulesAgainst_21 : decode cX8_rulesAgainst 21 = .ok (.ifCond .eq 21, 3) := by decide +kernel
theorem dX8_rulesAgainst_24 : decode cX8_rulesAgainst 24 = .ok (.aload_n 0, 1) := by decide +kernel
theorem dX8_rulesAgainst_25 : decode cX8_rulesAgainst 25 = .ok (.getfield 37, 3) := by decide +kernel
theorem dX8_rulesAgainst_28 : decode cX8_rulesAgainst 28 = .ok (.iload_n 3, 1) := by decide +kernel
theorem dX8_rulesAgainst_29 : decode cX8_rulesAgainst 29 = .ok (.iload_n 1, 1) := by decide +kernel
theorem dX8_rulesAgainst_30 : decode cX8_rulesAgainst 30 = .ok (.invokevirtual 164, 3) := by decide +kernel
theorem dX8_rulesAgainst_33 : decode cX8_rulesAgainst 33 = .ok (.ifCond .eq 9, 3) := by decide +kernel
theorem dX8_rulesAgainst_36 : decode cX8_rulesAgainst 36 = .ok (.iload_n 2, 1) := by decide +kernel
theorem dX8_rulesAgainst_37 : decode cX8_rulesAgainst 37 = .ok (.iconst 1, 1) := by decide +kernel
theorem dX8_rulesAgainst_38 : decode cX8_rulesAgainst 38 = .ok (.iload_n 3, 1) := by decide +kernel
theorem dX8_rulesAgainst_39 : decode cX8_rulesAgainst 39 = .ok (.ishl, 1) := by decide +kernel
theorem dX8_rulesAgainst_40 : decode cX8_rulesAgainst 40 = .ok (.ior, 1) := by decide +kernel
theorem dX8_rulesAgainst_41 : decode cX8_rulesAgainst 41 = .ok (.istore_n 2, 1) := by decide +kernel
theorem dX8_rulesAgainst_42 : decode cX8_rulesAgainst 42 = .ok (.iinc 3 1, 3) := by decide +kernel
theorem dX8_rulesAgainst_45 : decode cX8_rulesAgainst 45 = .ok (.goto (-41), 3) := by decide +kernel
theorem dX8_rulesAgainst_48 : decode cX8_rulesAgainst 48 = .ok (.iload_n 2, 1) := by decide +kernel
theorem dX8_rulesAgainst_49 : decode cX8_rulesAgainst 49 = .ok (.ireturn, 1) := by decide +kernel
theorem dX8_spreadToSmaller_0 : decode cX8_spreadToSmaller 0 = .ok (.iconst 0, 1) := by decide +kernel
theorem dX8_spreadToSmaller_1 : decode cX8_spreadToSmaller 1 = .ok (.istore_n 1, 1) := by decide +kernel
theorem dX8_spreadToSmaller_2 : decode cX8_spreadToSmaller 2 = .ok (.iload_n 1, 1) := by decide +kernel
theorem dX8_spreadToSmaller_3 : decode cX8_spreadToSmaller 3 = .ok (.bipush 10, 2) := by decide +kernel
theorem dX8_spreadToSmaller_5 : decode cX8_spreadToSmaller 5 = .ok (.if_icmp .ge 44, 3) := by decide +kernel
theorem dX8_spreadToSmaller_8 : decode cX8_spreadToSmaller 8 = .ok (.iconst 0, 1) := by decide +kernel
theorem dX8_spreadToSmaller_9 : decode cX8_spreadToSmaller 9 = .ok (.istore_n 2, 1) := by decide +kernel
theorem dX8_spreadToSmaller_10 : decode cX8_spreadToSmaller 10 = .ok (.iload_n 2, 1) := by decide +kernel
theorem dX8_spreadToSmaller_11 : decode cX8_spreadToSmaller 11 = .ok (.sipush 1024, 3) := by decide +kernel
theorem dX8_spreadToSmaller_14 : decode cX8_spreadToSmaller 14 = .ok (.if_icmp .ge 29, 3) := by decide +kernel
theorem dX8_spreadToSmaller_17 : decode cX8_spreadToSmaller 17 = .ok (.aload_n 0, 1) := by decide +kernel
theorem dX8_spreadToSmaller_18 : decode cX8_spreadToSmaller 18 = .ok (.getfield 18, 3) := by decide +kernel
theorem dX8_spreadToSmaller_21 : decode cX8_spreadToSmaller 21 = .ok (.iload_n 2, 1) := by decide +kernel
theorem dX8_spreadToSmaller_22 : decode cX8_spreadToSmaller 22 = .ok (.iconst 1, 1) := by decide +kernel
theorem dX8_spreadToSmaller_23 : decode cX8_spreadToSmaller 23 = .ok (.iload_n 1, 1) := by decide +kernel
theorem dX8_spreadToSmaller_24 : decode cX8_spreadToSmaller 24 = .ok (.ishl, 1) := by decide +kernel
theorem dX8_spreadToSmaller_25 : decode cX8_spreadToSmaller 25 = .ok (.ior, 1) := by decide +kernel
theorem dX8_spreadToSmaller_26 : decode cX8_spreadToSmaller 26 = .ok (.baload, 1) := by decide +kernel
theorem dX8_spreadToSmaller_27 : decode cX8_spreadToSmaller 27 = .ok (.ifCond .eq 10, 3) := by decide +kernel
theorem dX8_spreadToSmaller_30 : decode cX8_spreadToSmaller 30 = .ok (.aload_n 0, 1) := by decide +kernel
theorem dX8_spreadToSmaller_31 : decode cX8_spreadToSmaller 31 = .ok (.getfield 18, 3) := by decide +kernel
theorem dX8_spreadToSmaller_34 : decode cX8_spreadToSmaller 34 = .ok (.iload_n 2, 1) := by decide +kernel
theorem dX8_spreadToSmaller_35 : decode cX8_spreadToSmaller 35 = .ok (.iconst 1, 1) := by decide +kernel
theorem dX8_spreadToSmaller_36 : decode cX8_spreadToSmaller 36 = .ok (.bastore, 1) := by decide +kernel
theorem dX8_spreadToSmaller_37 : decode cX8_spreadToSmaller 37 = .ok (.iinc 2 1, 3) := by decide +kernel
theorem dX8_spreadToSmaller_40 : decode cX8_spreadToSmaller 40 = .ok (.goto (-30), 3) := by decide +kernel
theorem dX8_spreadToSmaller_43 : decode cX8_spreadToSmaller 43 = .ok (.iinc 1 1, 3) := by decide +kernel
theorem dX8_spreadToSmaller_46 : decode cX8_spreadToSmaller 46 = .ok (.goto (-44), 3) := by decide +kernel
theorem dX8_spreadToSmaller_49 : decode cX8_spreadToSmaller 49 = .ok (.return_, 1) := by decide +kernel
theorem dX8_stopsAll_0 : decode cX8_stopsAll 0 = .ok (.iconst 0, 1) := by decide +kernel
theorem dX8_stopsAll_1 : decode cX8_stopsAll 1 = .ok (.istore_n 3, 1) := by decide +kernel
theorem dX8_stopsAll_2 : decode cX8_stopsAll 2 = .ok (.iload_n 3, 1) := by decide +kernel
theorem dX8_stopsAll_3 : decode cX8_stopsAll 3 = .ok (.iload_n 2, 1) := by decide +kernel
theorem dX8_stopsAll_4 : decode cX8_stopsAll 4 = .ok (.if_icmp .ge 22, 3) := by decide +kernel
theorem dX8_stopsAll_7 : decode cX8_stopsAll 7 = .ok (.aload_n 0, 1) := by decide +kernel
theorem dX8_stopsAll_8 : decode cX8_stopsAll 8 = .ok (.getfield 22, 3) := by decide +kernel
theorem dX8_stopsAll_11 : decode cX8_stopsAll 11 = .ok (.iload_n 3, 1) := by decide +kernel
theorem dX8_stopsAll_12 : decode cX8_stopsAll 12 = .ok (.iaload, 1) := by decide +kernel
theorem dX8_stopsAll_13 : decode cX8_stopsAll 13 = .ok (.iload_n 1, 1) := by decide +kernel
theorem dX8_stopsAll_14 : decode cX8_stopsAll 14 = .ok (.iand, 1) := by decide +kernel
theorem dX8_stopsAll_15 : decode cX8_stopsAll 15 = .ok (.ifCond .ne 5, 3) := by decide +kernel
theorem dX8_stopsAll_18 : decode cX8_stopsAll 18 = .ok (.iconst 0, 1) := by decide +kernel
theorem dX8_stopsAll_19 : decode cX8_stopsAll 19 = .ok (.ireturn, 1) := by decide +kernel
theorem dX8_stopsAll_20 : decode cX8_stopsAll 20 = .ok (.iinc 3 1, 3) := by decide +kernel
theorem dX8_stopsAll_23 : decode cX8_stopsAll 23 = .ok (.goto (-21), 3) := by decide +kernel
theorem dX8_stopsAll_26 : decode cX8_stopsAll 26 = .ok (.iconst 1, 1) := by decide +kernel
theorem dX8_stopsAll_27 : decode cX8_stopsAll 27 = .ok (.ireturn, 1) := by decide +kernel
theorem dX8_tell_0 : decode cX8_tell 0 = .ok (.aload_n 0, 1) := by decide +kernel
theorem dX8_tell_1 : decode cX8_tell 1 = .ok (.lconst 0, 1) := by decide +kernel
theorem dX8_tell_2 : decode cX8_tell 2 = .ok (.putfield 41, 3) := by decide +kernel
theorem dX8_tell_5 : decode cX8_tell 5 = .ok (.iconst 0, 1) := by decide +kernel
theorem dX8_tell_6 : decode cX8_tell 6 = .ok (.istore_n 1, 1) := by decide +kernel
theorem dX8_tell_7 : decode cX8_tell 7 = .ok (.iload_n 1, 1) := by decide +kernel
theorem dX8_tell_8 : decode cX8_tell 8 = .ok (.aload_n 0, 1) := by decide +kernel
theorem dX8_tell_9 : decode cX8_tell 9 = .ok (.getfield 29, 3) := by decide +kernel
theorem dX8_tell_12 : decode cX8_tell 12 = .ok (.getfield 45, 3) := by decide +kernel
theorem dX8_tell_15 : decode cX8_tell 15 = .ok (.if_icmp .ge 82, 3) := by decide +kernel
theorem dX8_tell_18 : decode cX8_tell 18 = .ok (.aload_n 0, 1) := by decide +kernel
theorem dX8_tell_19 : decode cX8_tell 19 = .ok (.getfield 9, 3) := by decide +kernel
theorem dX8_tell_22 : decode cX8_tell 22 = .ok (.iload_n 1, 1) := by decide +kernel
theorem dX8_tell_23 : decode cX8_tell 23 = .ok (.aload_n 0, 1) := by decide +kernel
theorem dX8_tell_24 : decode cX8_tell 24 = .ok (.iload_n 1, 1) := by decide +kernel
theorem dX8_tell_25 : decode cX8_tell 25 = .ok (.invokevirtual 51, 3) := by decide +kernel
theorem dX8_tell_28 : decode cX8_tell 28 = .ok (.iastore, 1) := by decide +kernel
theorem dX8_tell_29 : decode cX8_tell 29 = .ok (.aload_n 0, 1) := by decide +kernel
theorem dX8_tell_30 : decode cX8_tell 30 = .ok (.iload_n 1, 1) := by decide +kernel
theorem dX8_tell_31 : decode cX8_tell 31 = .ok (.invokevirtual 55, 3) := by decide +kernel
theorem dX8_tell_34 : decode cX8_tell 34 = .ok (.aload_n 0, 1) := by decide +kernel
theorem dX8_tell_35 : decode cX8_tell 35 = .ok (.getfield 9, 3) := by decide +kernel
theorem dX8_tell_38 : decode cX8_tell 38 = .ok (.iload_n 1, 1) := by decide +kernel
theorem dX8_tell_39 : decode cX8_tell 39 = .ok (.iaload, 1) := by decide +kernel
theorem dX8_tell_40 : decode cX8_tell 40 = .ok (.iand, 1) := by decide +kernel
theorem dX8_tell_41 : decode cX8_tell 41 = .ok (.istore_n 2, 1) := by decide +kernel
theorem dX8_tell_42 : decode cX8_tell 42 = .ok (.aload_n 0, 1) := by decide +kernel
theorem dX8_tell_43 : decode cX8_tell 43 = .ok (.getfield 15, 3) := by decide +kernel
theorem dX8_tell_46 : decode cX8_tell 46 = .ok (.iload_n 1, 1) := by decide +kernel
theorem dX8_tell_47 : decode cX8_tell 47 = .ok (.iload_n 2, 1) := by decide +kernel
theorem dX8_tell_48 : decode cX8_tell 48 = .ok (.ifCond .eq 7, 3) := by decide +kernel
theorem dX8_tell_51 : decode cX8_tell 51 = .ok (.iload_n 2, 1) := by decide +kernel
theorem dX8_tell_52 : decode cX8_tell 52 = .ok (.goto 9, 3) := by decide +kernel
theorem dX8_tell_55 : decode cX8_tell 55 = .ok (.aload_n 0, 1) := by decide +kernel
theorem dX8_tell_56 : decode cX8_tell 56 = .ok (.getfield 9, 3) := by decide +kernel
theorem dX8_tell_59 : decode cX8_tell 59 = .ok (.iload_n 1, 1) := by decide +kernel
theorem dX8_tell_60 : decode cX8_tell 60 = .ok (.iaload, 1) := by decide +kernel
theorem dX8_tell_61 : decode cX8_tell 61 = .ok (.iastore, 1) := by decide +kernel
theorem dX8_tell_62 : decode cX8_tell 62 = .ok (.iload_n 2, 1) := by decide +kernel
theorem dX8_tell_63 : decode cX8_tell 63 = .ok (.ifCond .ne 16, 3) := by decide +kernel
theorem dX8_tell_66 : decode cX8_tell 66 = .ok (.aload_n 0, 1) := by decide +kernel
theorem dX8_tell_67 : decode cX8_tell 67 = .ok (.getfield 37, 3) := by decide +kernel
theorem dX8_tell_70 : decode cX8_tell 70 = .ok (.getfield 58, 3) := by decide +kernel
theorem dX8_tell_73 : decode cX8_tell 73 = .ok (.iload_n 1, 1) := by decide +kernel
theorem dX8_tell_74 : decode cX8_tell 74 = .ok (.iaload, 1) := by decide +kernel
theorem dX8_tell_75 : decode cX8_tell 75 = .ok (.iconst 2, 1) := by decide +kernel
theorem dX8_tell_76 : decode cX8_tell 76 = .ok (.if_icmp .ne 15, 3) := by decide +kernel
theorem dX8_tell_79 : decode cX8_tell 79 = .ok (.aload_n 0, 1) := by decide +kernel
theorem dX8_tell_80 : decode cX8_tell 80 = .ok (.dup, 1) := by decide +kernel
theorem dX8_tell_81 : decode cX8_tell 81 = .ok (.getfield 41, 3) := by decide +kernel
theorem dX8_tell_84 : decode cX8_tell 84 = .ok (.lconst 1, 1) := by decide +kernel
theorem dX8_tell_85 : decode cX8_tell 85 = .ok (.iload_n 1, 1) := by decide +kernel
theorem dX8_tell_86 : decode cX8_tell 86 = .ok (.lshl, 1) := by decide +kernel
theorem dX8_tell_87 : decode cX8_tell 87 = .ok (.lor, 1) := by decide +kernel
theorem dX8_tell_88 : decode cX8_tell 88 = .ok (.putfield 41, 3) := by decide +kernel
theorem dX8_tell_91 : decode cX8_tell 91 = .ok (.iinc 1 1, 3) := by decide +kernel
theorem dX8_tell_94 : decode cX8_tell 94 = .ok (.goto (-87), 3) := by decide +kernel
theorem dX8_tell_97 : decode cX8_tell 97 = .ok (.aload_n 0, 1) := by decide +kernel
theorem dX8_tell_98 : decode cX8_tell 98 = .ok (.invokevirtual 63, 3) := by decide +kernel
theorem dX8_tell_101 : decode cX8_tell 101 = .ok (.aload_n 0, 1) := by decide +kernel
theorem dX8_tell_102 : decode cX8_tell 102 = .ok (.invokevirtual 66, 3) := by decide +kernel
theorem dX8_tell_105 : decode cX8_tell 105 = .ok (.aload_n 0, 1) := by decide +kernel
theorem dX8_tell_106 : decode cX8_tell 106 = .ok (.invokevirtual 69, 3) := by decide +kernel
theorem dX8_tell_109 : decode cX8_tell 109 = .ok (.return_, 1) := by decide +kernel
theorem dX8_whoCan_0 : decode cX8_whoCan 0 = .ok (.iconst 0, 1) := by decide +kernel
theorem dX8_whoCan_1 : decode cX8_whoCan 1 = .ok (.istore_n 2, 1) := by decide +kernel
theorem dX8_whoCan_2 : decode cX8_whoCan 2 = .ok (.iconst 0, 1) := by decide +kernel
theorem dX8_whoCan_3 : decode cX8_whoCan 3 = .ok (.istore_n 3, 1) := by decide +kernel
theorem dX8_whoCan_4 : decode cX8_whoCan 4 = .ok (.iload_n 3, 1) := by decide +kernel
theorem dX8_whoCan_5 : decode cX8_whoCan 5 = .ok (.aload_n 0, 1) := by decide +kernel
theorem dX8_whoCan_6 : decode cX8_whoCan 6 = .ok (.getfield 25, 3) := by decide +kernel
theorem dX8_whoCan_9 : decode cX8_whoCan 9 = .ok (.getfield 72, 3) := by decide +kernel
theorem dX8_whoCan_12 : decode cX8_whoCan 12 = .ok (.if_icmp .ge 127, 3) := by decide +kernel
theorem dX8_whoCan_15 : decode cX8_whoCan 15 = .ok (.aload_n 0, 1) := by decide +kernel
theorem dX8_whoCan_16 : decode cX8_whoCan 16 = .ok (.getfield 29, 3) := by decide +kernel
theorem dX8_whoCan_19 : decode cX8_whoCan 19 = .ok (.getfield 77, 3) := by decide +kernel
theorem dX8_whoCan_22 : decode cX8_whoCan 22 = .ok (.iload_n 1, 1) := by decide +kernel
theorem dX8_whoCan_23 : decode cX8_whoCan 23 = .ok (.iaload, 1) := by decide +kernel
theorem dX8_whoCan_24 : decode cX8_whoCan 24 = .ok (.aload_n 0, 1) := by decide +kernel
theorem dX8_whoCan_25 : decode cX8_whoCan 25 = .ok (.getfield 25, 3) := by decide +kernel
theorem dX8_whoCan_28 : decode cX8_whoCan 28 = .ok (.getfield 80, 3) := by decide +kernel
theorem dX8_whoCan_31 : decode cX8_whoCan 31 = .ok (.iload_n 3, 1) := by decide +kernel
theorem dX8_whoCan_32 : decode cX8_whoCan 32 = .ok (.iaload, 1) := by decide +kernel
theorem dX8_whoCan_33 : decode cX8_whoCan 33 = .ok (.isub, 1) := by decide +kernel
theorem dX8_whoCan_34 : decode cX8_whoCan 34 = .ok (.istore 4, 2) := by decide +kernel
theorem dX8_whoCan_36 : decode cX8_whoCan 36 = .ok (.aload_n 0, 1) := by decide +kernel
theorem dX8_whoCan_37 : decode cX8_whoCan 37 = .ok (.getfield 25, 3) := by decide +kernel
theorem dX8_whoCan_40 : decode cX8_whoCan 40 = .ok (.getfield 81, 3) := by decide +kernel
theorem dX8_whoCan_43 : decode cX8_whoCan 43 = .ok (.iload_n 3, 1) := by decide +kernel
theorem dX8_whoCan_44 : decode cX8_whoCan 44 = .ok (.iaload, 1) := by decide +kernel
theorem dX8_whoCan_45 : decode cX8_whoCan 45 = .ok (.aload_n 0, 1) := by decide +kernel
theorem dX8_whoCan_46 : decode cX8_whoCan 46 = .ok (.getfield 29, 3) := by decide +kernel
theorem dX8_whoCan_49 : decode cX8_whoCan 49 = .ok (.getfield 84, 3) := by decide +kernel
theorem dX8_whoCan_52 : decode cX8_whoCan 52 = .ok (.iload_n 1, 1) := by decide +kernel
theorem dX8_whoCan_53 : decode cX8_whoCan 53 = .ok (.iaload, 1) := by decide +kernel
theorem dX8_whoCan_54 : decode cX8_whoCan 54 = .ok (.if_icmp .ne 79, 3) := by decide +kernel
theorem dX8_whoCan_57 : decode cX8_whoCan 57 = .ok (.iload 4, 2) := by decide +kernel
theorem dX8_whoCan_59 : decode cX8_whoCan 59 = .ok (.ifCond .lt 74, 3) := by decide +kernel
theorem dX8_whoCan_62 : decode cX8_whoCan 62 = .ok (.iload 4, 2) := by decide +kernel
theorem dX8_whoCan_64 : decode cX8_whoCan 64 = .ok (.aload_n 0, 1) := by decide +kernel
theorem dX8_whoCan_65 : decode cX8_whoCan 65 = .ok (.getfield 33, 3) := by decide +kernel
theorem dX8_whoCan_68 : decode cX8_whoCan 68 = .ok (.getfield 85, 3) := by decide +kernel
theorem dX8_whoCan_71 : decode cX8_whoCan 71 = .ok (.if_icmp .le 6, 3) := by decide +kernel
theorem dX8_whoCan_74 : decode cX8_whoCan 74 = .ok (.goto 59, 3) := by decide +kernel
theorem dX8_whoCan_77 : decode cX8_whoCan 77 = .ok (.iload 4, 2) := by decide +kernel
theorem dX8_whoCan_79 : decode cX8_whoCan 79 = .ok (.ifCond .ne 18, 3) := by decide +kernel
theorem dX8_whoCan_82 : decode cX8_whoCan 82 = .ok (.aload_n 0, 1) := by decide +kernel
theorem dX8_whoCan_83 : decode cX8_whoCan 83 = .ok (.getfield 29, 3) := by decide +kernel
theorem dX8_whoCan_86 : decode cX8_whoCan 86 = .ok (.getfield 90, 3) := by decide +kernel
theorem dX8_whoCan_89 : decode cX8_whoCan 89 = .ok (.iload_n 1, 1) := by decide +kernel
theorem dX8_whoCan_90 : decode cX8_whoCan 90 = .ok (.iaload, 1) := by decide +kernel
theorem dX8_whoCan_91 : decode cX8_whoCan 91 = .ok (.invokestatic 93, 3) := by decide +kernel
theorem dX8_whoCan_94 : decode cX8_whoCan 94 = .ok (.goto 8, 3) := by decide +kernel
theorem dX8_whoCan_97 : decode cX8_whoCan 97 = .ok (.bipush 24, 2) := by decide +kernel
theorem dX8_whoCan_99 : decode cX8_whoCan 99 = .ok (.invokestatic 93, 3) := by decide +kernel
theorem dX8_whoCan_102 : decode cX8_whoCan 102 = .ok (.istore 5, 2) := by decide +kernel
theorem dX8_whoCan_104 : decode cX8_whoCan 104 = .ok (.aload_n 0, 1) := by decide +kernel
theorem dX8_whoCan_105 : decode cX8_whoCan 105 = .ok (.getfield 25, 3) := by decide +kernel
theorem dX8_whoCan_108 : decode cX8_whoCan 108 = .ok (.getfield 96, 3) := by decide +kernel
theorem dX8_whoCan_111 : decode cX8_whoCan 111 = .ok (.iload_n 3, 1) := by decide +kernel
theorem dX8_whoCan_112 : decode cX8_whoCan 112 = .ok (.iaload, 1) := by decide +kernel
theorem dX8_whoCan_113 : decode cX8_whoCan 113 = .ok (.iload 5, 2) := by decide +kernel
theorem dX8_whoCan_115 : decode cX8_whoCan 115 = .ok (.iand, 1) := by decide +kernel
theorem dX8_whoCan_116 : decode cX8_whoCan 116 = .ok (.ifCond .eq 17, 3) := by decide +kernel
theorem dX8_whoCan_119 : decode cX8_whoCan 119 = .ok (.iload_n 2, 1) := by decide +kernel
theorem dX8_whoCan_120 : decode cX8_whoCan 120 = .ok (.iconst 1, 1) := by decide +kernel
theorem dX8_whoCan_121 : decode cX8_whoCan 121 = .ok (.aload_n 0, 1) := by decide +kernel
theorem dX8_whoCan_122 : decode cX8_whoCan 122 = .ok (.getfield 25, 3) := by decide +kernel
theorem dX8_whoCan_125 : decode cX8_whoCan 125 = .ok (.getfield 99, 3) := by decide +kernel
theorem dX8_whoCan_128 : decode cX8_whoCan 128 = .ok (.iload_n 3, 1) := by decide +kernel
theorem dX8_whoCan_129 : decode cX8_whoCan 129 = .ok (.iaload, 1) := by decide +kernel
theorem dX8_whoCan_130 : decode cX8_whoCan 130 = .ok (.ishl, 1) := by decide +kernel
theorem dX8_whoCan_131 : decode cX8_whoCan 131 = .ok (.ior, 1) := by decide +kernel
theorem dX8_whoCan_132 : decode cX8_whoCan 132 = .ok (.istore_n 2, 1) := by decide +kernel
theorem dX8_whoCan_133 : decode cX8_whoCan 133 = .ok (.iinc 3 1, 3) := by decide +kernel
theorem dX8_whoCan_136 : decode cX8_whoCan 136 = .ok (.goto (-132), 3) := by decide +kernel
theorem dX8_whoCan_139 : decode cX8_whoCan 139 = .ok (.iload_n 2, 1) := by decide +kernel
theorem dX8_whoCan_140 : decode cX8_whoCan 140 = .ok (.ireturn, 1) := by decide +kernel
theorem dX8_whoWasSeen_0 : decode cX8_whoWasSeen 0 = .ok (.iconst 0, 1) := by decide +kernel
theorem dX8_whoWasSeen_1 : decode cX8_whoWasSeen 1 = .ok (.istore_n 2, 1) := by decide +kernel
theorem dX8_whoWasSeen_2 : decode cX8_whoWasSeen 2 = .ok (.iconst 0, 1) := by decide +kernel
theorem dX8_whoWasSeen_3 : decode cX8_whoWasSeen 3 = .ok (.istore_n 3, 1) := by decide +kernel
theorem dX8_whoWasSeen_4 : decode cX8_whoWasSeen 4 = .ok (.iload_n 3, 1) := by decide +kernel
theorem dX8_whoWasSeen_5 : decode cX8_whoWasSeen 5 = .ok (.aload_n 0, 1) := by decide +kernel
theorem dX8_whoWasSeen_6 : decode cX8_whoWasSeen 6 = .ok (.getfield 29, 3) := by decide +kernel
theorem dX8_whoWasSeen_9 : decode cX8_whoWasSeen 9 = .ok (.getfield 102, 3) := by decide +kernel
theorem dX8_whoWasSeen_12 : decode cX8_whoWasSeen 12 = .ok (.if_icmp .ge 82, 3) := by decide +kernel
theorem dX8_whoWasSeen_15 : decode cX8_whoWasSeen 15 = .ok (.aload_n 0, 1) := by decide +kernel
theorem dX8_whoWasSeen_16 : decode cX8_whoWasSeen 16 = .ok (.getfield 29, 3) := by decide +kernel
theorem dX8_whoWasSeen_19 : decode cX8_whoWasSeen 19 = .ok (.getfield 77, 3) := by decide +kernel
theorem dX8_whoWasSeen_22 : decode cX8_whoWasSeen 22 = .ok (.iload_n 1, 1) := by decide +kernel
theorem dX8_whoWasSeen_23 : decode cX8_whoWasSeen 23 = .ok (.iaload, 1) := by decide +kernel
theorem dX8_whoWasSeen_24 : decode cX8_whoWasSeen 24 = .ok (.aload_n 0, 1) := by decide +kernel
theorem dX8_whoWasSeen_25 : decode cX8_whoWasSeen 25 = .ok (.getfield 29, 3) := by decide +kernel
theorem dX8_whoWasSeen_28 : decode cX8_whoWasSeen 28 = .ok (.getfield 105, 3) := by decide +kernel
theorem dX8_whoWasSeen_31 : decode cX8_whoWasSeen 31 = .ok (.iload_n 3, 1) := by decide +kernel
theorem dX8_whoWasSeen_32 : decode cX8_whoWasSeen 32 = .ok (.iaload, 1) := by decide +kernel
theorem dX8_whoWasSeen_33 : decode cX8_whoWasSeen 33 = .ok (.isub, 1) := by decide +kernel
theorem dX8_whoWasSeen_34 : decode cX8_whoWasSeen 34 = .ok (.istore 4, 2) := by decide +kernel
theorem dX8_whoWasSeen_36 : decode cX8_whoWasSeen 36 = .ok (.aload_n 0, 1) := by decide +kernel
theorem dX8_whoWasSeen_37 : decode cX8_whoWasSeen 37 = .ok (.getfield 29, 3) := by decide +kernel
theorem dX8_whoWasSeen_40 : decode cX8_whoWasSeen 40 = .ok (.getfield 108, 3) := by decide +kernel
theorem dX8_whoWasSeen_43 : decode cX8_whoWasSeen 43 = .ok (.iload_n 3, 1) := by decide +kernel
theorem dX8_whoWasSeen_44 : decode cX8_whoWasSeen 44 = .ok (.iaload, 1) := by decide +kernel
theorem dX8_whoWasSeen_45 : decode cX8_whoWasSeen 45 = .ok (.aload_n 0, 1) := by decide +kernel
theorem dX8_whoWasSeen_46 : decode cX8_whoWasSeen 46 = .ok (.getfield 29, 3) := by decide +kernel
theorem dX8_whoWasSeen_49 : decode cX8_whoWasSeen 49 = .ok (.getfield 84, 3) := by decide +kernel
theorem dX8_whoWasSeen_52 : decode cX8_whoWasSeen 52 = .ok (.iload_n 1, 1) := by decide +kernel
theorem dX8_whoWasSeen_53 : decode cX8_whoWasSeen 53 = .ok (.iaload, 1) := by decide +kernel
theorem dX8_whoWasSeen_54 : decode cX8_whoWasSeen 54 = .ok (.if_icmp .ne 34, 3) := by decide +kernel
theorem dX8_whoWasSeen_57 : decode cX8_whoWasSeen 57 = .ok (.iload 4, 2) := by decide +kernel
theorem dX8_whoWasSeen_59 : decode cX8_whoWasSeen 59 = .ok (.ifCond .lt 29, 3) := by decide +kernel
theorem dX8_whoWasSeen_62 : decode cX8_whoWasSeen 62 = .ok (.iload 4, 2) := by decide +kernel
theorem dX8_whoWasSeen_64 : decode cX8_whoWasSeen 64 = .ok (.aload_n 0, 1) := by decide +kernel
theorem dX8_whoWasSeen_65 : decode cX8_whoWasSeen 65 = .ok (.getfield 33, 3) := by decide +kernel
theorem dX8_whoWasSeen_68 : decode cX8_whoWasSeen 68 = .ok (.getfield 85, 3) := by decide +kernel
theorem dX8_whoWasSeen_71 : decode cX8_whoWasSeen 71 = .ok (.if_icmp .gt 17, 3) := by decide +kernel
theorem dX8_whoWasSeen_74 : decode cX8_whoWasSeen 74 = .ok (.iload_n 2, 1) := by decide +kernel
theorem dX8_whoWasSeen_75 : decode cX8_whoWasSeen 75 = .ok (.iconst 1, 1) := by decide +kernel
theorem dX8_whoWasSeen_76 : decode cX8_whoWasSeen 76 = .ok (.aload_n 0, 1) := by decide +kernel
theorem dX8_whoWasSeen_77 : decode cX8_whoWasSeen 77 = .ok (.getfield 29, 3) := by decide +kernel
theorem dX8_whoWasSeen_80 : decode cX8_whoWasSeen 80 = .ok (.getfield 111, 3) := by decide +kernel
theorem dX8_whoWasSeen_83 : decode cX8_whoWasSeen 83 = .ok (.iload_n 3, 1) := by decide +kernel
theorem dX8_whoWasSeen_84 : decode cX8_whoWasSeen 84 = .ok (.iaload, 1) := by decide +kernel
theorem dX8_whoWasSeen_85 : decode cX8_whoWasSeen 85 = .ok (.ishl, 1) := by decide +kernel
theorem dX8_whoWasSeen_86 : decode cX8_whoWasSeen 86 = .ok (.ior, 1) := by decide +kernel
theorem dX8_whoWasSeen_87 : decode cX8_whoWasSeen 87 = .ok (.istore_n 2, 1) := by decide +kernel
theorem dX8_whoWasSeen_88 : decode cX8_whoWasSeen 88 = .ok (.iinc 3 1, 3) := by decide +kernel
theorem dX8_whoWasSeen_91 : decode cX8_whoWasSeen 91 = .ok (.goto (-87), 3) := by decide +kernel
theorem dX8_whoWasSeen_94 : decode cX8_whoWasSeen 94 = .ok (.iload_n 2, 1) := by decide +kernel
theorem dX8_whoWasSeen_95 : decode cX8_whoWasSeen 95 = .ok (.ireturn, 1) := by decide +kernel
theorem dX9_allFinds_0 : decode cX9_allFinds 0 = .ok (.lconst 1, 1) := by decide +kernel
theorem dX9_allFinds_1 : decode cX9_allFinds 1 = .ok (.aload_n 0, 1) := by decide +kernel
theorem dX9_allFinds_2 : decode cX9_allFinds 2 = .ok (.getfield 45, 3) := by decide +kernel
theorem dX9_allFinds_5 : decode cX9_allFinds 5 = .ok (.lshl, 1) := by decide +kernel
theorem dX9_allFinds_6 : decode cX9_allFinds 6 = .ok (.lconst 1, 1) := by decide +kernel
theorem dX9_allFinds_7 : decode cX9_allFinds 7 = .ok (.lsub, 1) := by decide +kernel
theorem dX9_allFinds_8 : decode cX9_allFinds 8 = .ok (.lreturn, 1) := by decide +kernel
theorem dX9_findsAt_0 : decode cX9_findsAt 0 = .ok (.lconst 0, 1) := by decide +kernel
theorem dX9_findsAt_1 : decode cX9_findsAt 1 = .ok (.lstore_n 2, 1) := by decide +kernel
theorem dX9_findsAt_2 : decode cX9_findsAt 2 = .ok (.iconst 0, 1) := by decide +kernel
theorem dX9_findsAt_3 : decode cX9_findsAt 3 = .ok (.istore 4, 2) := by decide +kernel
theorem dX9_findsAt_5 : decode cX9_findsAt 5 = .ok (.iload 4, 2) := by decide +kernel
theorem dX9_findsAt_7 : decode cX9_findsAt 7 = .ok (.aload_n 0, 1) := by decide +kernel
theorem dX9_findsAt_8 : decode cX9_findsAt 8 = .ok (.getfield 45, 3) := by decide +kernel
theorem dX9_findsAt_11 : decode cX9_findsAt 11 = .ok (.if_icmp .ge 31, 3) := by decide +kernel
theorem dX9_findsAt_14 : decode cX9_findsAt 14 = .ok (.iload_n 1, 1) := by decide +kernel
theorem dX9_findsAt_15 : decode cX9_findsAt 15 = .ok (.i2l, 1) := by decide +kernel
theorem dX9_findsAt_16 : decode cX9_findsAt 16 = .ok (.aload_n 0, 1) := by decide +kernel
theorem dX9_findsAt_17 : decode cX9_findsAt 17 = .ok (.getfield 9, 3) := by decide +kernel
theorem dX9_findsAt_20 : decode cX9_findsAt 20 = .ok (.iload 4, 2) := by decide +kernel
theorem dX9_findsAt_22 : decode cX9_findsAt 22 = .ok (.iaload, 1) := by decide +kernel
theorem dX9_findsAt_23 : decode cX9_findsAt 23 = .ok (.invokestatic 55, 3) := by decide +kernel
theorem dX9_findsAt_26 : decode cX9_findsAt 26 = .ok (.ifCond .eq 10, 3) := by decide +kernel
theorem dX9_findsAt_29 : decode cX9_findsAt 29 = .ok (.lload_n 2, 1) := by decide +kernel
theorem dX9_findsAt_30 : decode cX9_findsAt 30 = .ok (.lconst 1, 1) := by decide +kernel
theorem dX9_findsAt_31 : decode cX9_findsAt 31 = .ok (.iload 4, 2) := by decide +kernel
theorem dX9_findsAt_33 : decode cX9_findsAt 33 = .ok (.lshl, 1) := by decide +kernel
theorem dX9_findsAt_34 : decode cX9_findsAt 34 = .ok (.lor, 1) := by decide +kernel
theorem dX9_findsAt_35 : decode cX9_findsAt 35 = .ok (.lstore_n 2, 1) := by decide +kernel
theorem dX9_findsAt_36 : decode cX9_findsAt 36 = .ok (.iinc 4 1, 3) := by decide +kernel
theorem dX9_findsAt_39 : decode cX9_findsAt 39 = .ok (.goto (-34), 3) := by decide +kernel
theorem dX9_findsAt_42 : decode cX9_findsAt 42 = .ok (.lload_n 2, 1) := by decide +kernel
theorem dX9_findsAt_43 : decode cX9_findsAt 43 = .ok (.lreturn, 1) := by decide +kernel
theorem dX9_findsWithout_0 : decode cX9_findsWithout 0 = .ok (.lconst 0, 1) := by decide +kernel
theorem dX9_findsWithout_1 : decode cX9_findsWithout 1 = .ok (.lstore_n 2, 1) := by decide +kernel
theorem dX9_findsWithout_2 : decode cX9_findsWithout 2 = .ok (.iconst 0, 1) := by decide +kernel
theorem dX9_findsWithout_3 : decode cX9_findsWithout 3 = .ok (.istore 4, 2) := by decide +kernel
theorem dX9_findsWithout_5 : decode cX9_findsWithout 5 = .ok (.iload 4, 2) := by decide +kernel
theorem dX9_findsWithout_7 : decode cX9_findsWithout 7 = .ok (.aload_n 0, 1) := by decide +kernel
theorem dX9_findsWithout_8 : decode cX9_findsWithout 8 = .ok (.getfield 45, 3) := by decide +kernel
theorem dX9_findsWithout_11 : decode cX9_findsWithout 11 = .ok (.if_icmp .ge 27, 3) := by decide +kernel
theorem dX9_findsWithout_14 : decode cX9_findsWithout 14 = .ok (.aload_n 0, 1) := by decide +kernel
theorem dX9_findsWithout_15 : decode cX9_findsWithout 15 = .ok (.getfield 24, 3) := by decide +kernel
theorem dX9_findsWithout_18 : decode cX9_findsWithout 18 = .ok (.iload 4, 2) := by decide +kernel
theorem dX9_findsWithout_20 : decode cX9_findsWithout 20 = .ok (.iaload, 1) := by decide +kernel
theorem dX9_findsWithout_21 : decode cX9_findsWithout 21 = .ok (.iload_n 1, 1) := by decide +kernel
theorem dX9_findsWithout_22 : decode cX9_findsWithout 22 = .ok (.if_icmp .eq 10, 3) := by decide +kernel
theorem dX9_findsWithout_25 : decode cX9_findsWithout 25 = .ok (.lload_n 2, 1) := by decide +kernel
theorem dX9_findsWithout_26 : decode cX9_findsWithout 26 = .ok (.lconst 1, 1) := by decide +kernel
theorem dX9_findsWithout_27 : decode cX9_findsWithout 27 = .ok (.iload 4, 2) := by decide +kernel
theorem dX9_findsWithout_29 : decode cX9_findsWithout 29 = .ok (.lshl, 1) := by decide +kernel
theorem dX9_findsWithout_30 : decode cX9_findsWithout 30 = .ok (.lor, 1) := by decide +kernel
theorem dX9_findsWithout_31 : decode cX9_findsWithout 31 = .ok (.lstore_n 2, 1) := by decide +kernel
theorem dX9_findsWithout_32 : decode cX9_findsWithout 32 = .ok (.iinc 4 1, 3) := by decide +kernel
theorem dX9_findsWithout_35 : decode cX9_findsWithout 35 = .ok (.goto (-30), 3) := by decide +kernel
theorem dX9_findsWithout_38 : decode cX9_findsWithout 38 = .ok (.lload_n 2, 1) := by decide +kernel
theorem dX9_findsWithout_39 : decode cX9_findsWithout 39 = .ok (.lreturn, 1) := by decide +kernel
theorem dX9_papersUpTo_0 : decode cX9_papersUpTo 0 = .ok (.iconst 0, 1) := by decide +kernel
theorem dX9_papersUpTo_1 : decode cX9_papersUpTo 1 = .ok (.istore_n 2, 1) := by decide +kernel
theorem dX9_papersUpTo_2 : decode cX9_papersUpTo 2 = .ok (.iconst 0, 1) := by decide +kernel
theorem dX9_papersUpTo_3 : decode cX9_papersUpTo 3 = .ok (.istore_n 3, 1) := by decide +kernel
theorem dX9_papersUpTo_4 : decode cX9_papersUpTo 4 = .ok (.iload_n 3, 1) := by decide +kernel
theorem dX9_papersUpTo_5 : decode cX9_papersUpTo 5 = .ok (.aload_n 0, 1) := by decide +kernel
theorem dX9_papersUpTo_6 : decode cX9_papersUpTo 6 = .ok (.getfield 52, 3) := by decide +kernel
theorem dX9_papersUpTo_9 : decode cX9_papersUpTo 9 = .ok (.if_icmp .ge 22, 3) := by decide +kernel
theorem dX9_papersUpTo_12 : decode cX9_papersUpTo 12 = .ok (.aload_n 0, 1) := by decide +kernel
theorem dX9_papersUpTo_13 : decode cX9_papersUpTo 13 = .ok (.getfield 42, 3) := by decide +kernel
theorem dX9_papersUpTo_16 : decode cX9_papersUpTo 16 = .ok (.iload_n 3, 1) := by decide +kernel
theorem dX9_papersUpTo_17 : decode cX9_papersUpTo 17 = .ok (.iaload, 1) := by decide +kernel
theorem dX9_papersUpTo_18 : decode cX9_papersUpTo 18 = .ok (.iload_n 1, 1) := by decide +kernel
theorem dX9_papersUpTo_19 : decode cX9_papersUpTo 19 = .ok (.if_icmp .gt 6, 3) := by decide +kernel
theorem dX9_papersUpTo_22 : decode cX9_papersUpTo 22 = .ok (.iinc 2 1, 3) := by decide +kernel
theorem dX9_papersUpTo_25 : decode cX9_papersUpTo 25 = .ok (.iinc 3 1, 3) := by decide +kernel
theorem dX9_papersUpTo_28 : decode cX9_papersUpTo 28 = .ok (.goto (-24), 3) := by decide +kernel
theorem dX9_papersUpTo_31 : decode cX9_papersUpTo 31 = .ok (.iload_n 2, 1) := by decide +kernel
theorem dX9_papersUpTo_32 : decode cX9_papersUpTo 32 = .ok (.ireturn, 1) := by decide +kernel
theorem dX9_tellFind_0 : decode cX9_tellFind 0 = .ok (.aload_n 0, 1) := by decide +kernel
theorem dX9_tellFind_1 : decode cX9_tellFind 1 = .ok (.getfield 45, 3) := by decide +kernel
theorem dX9_tellFind_4 : decode cX9_tellFind 4 = .ok (.bipush 40, 2) := by decide +kernel
theorem dX9_tellFind_6 : decode cX9_tellFind 6 = .ok (.if_icmp .ge 25, 3) := by decide +kernel
theorem dX9_tellFind_9 : decode cX9_tellFind 9 = .ok (.aload_n 0, 1) := by decide +kernel
theorem dX9_tellFind_10 : decode cX9_tellFind 10 = .ok (.getfield 45, 3) := by decide +kernel
theorem dX9_tellFind_13 : decode cX9_tellFind 13 = .ok (.ifCond .le 20, 3) := by decide +kernel
theorem dX9_tellFind_16 : decode cX9_tellFind 16 = .ok (.iload_n 3, 1) := by decide +kernel
theorem dX9_tellFind_17 : decode cX9_tellFind 17 = .ok (.aload_n 0, 1) := by decide +kernel
theorem dX9_tellFind_18 : decode cX9_tellFind 18 = .ok (.getfield 18, 3) := by decide +kernel
theorem dX9_tellFind_21 : decode cX9_tellFind 21 = .ok (.aload_n 0, 1) := by decide +kernel
theorem dX9_tellFind_22 : decode cX9_tellFind 22 = .ok (.getfield 45, 3) := by decide +kernel
theorem dX9_tellFind_25 : decode cX9_tellFind 25 = .ok (.iconst 1, 1) := by decide +kernel
theorem dX9_tellFind_26 : decode cX9_tellFind 26 = .ok (.isub, 1) := by decide +kernel
theorem dX9_tellFind_27 : decode cX9_tellFind 27 = .ok (.iaload, 1) := by decide +kernel
theorem dX9_tellFind_28 : decode cX9_tellFind 28 = .ok (.if_icmp .ge 5, 3) := by decide +kernel
theorem dX9_tellFind_31 : decode cX9_tellFind 31 = .ok (.iconst (-1), 1) := by decide +kernel
theorem dX9_tellFind_32 : decode cX9_tellFind 32 = .ok (.ireturn, 1) := by decide +kernel
theorem dX9_tellFind_33 : decode cX9_tellFind 33 = .ok (.aload_n 0, 1) := by decide +kernel
theorem dX9_tellFind_34 : decode cX9_tellFind 34 = .ok (.getfield 9, 3) := by decide +kernel
theorem dX9_tellFind_37 : decode cX9_tellFind 37 = .ok (.aload_n 0, 1) := by decide +kernel
theorem dX9_tellFind_38 : decode cX9_tellFind 38 = .ok (.getfield 45, 3) := by decide +kernel
theorem dX9_tellFind_41 : decode cX9_tellFind 41 = .ok (.iload_n 1, 1) := by decide +kernel
theorem dX9_tellFind_42 : decode cX9_tellFind 42 = .ok (.iastore, 1) := by decide +kernel
theorem dX9_tellFind_43 : decode cX9_tellFind 43 = .ok (.aload_n 0, 1) := by decide +kernel
theorem dX9_tellFind_44 : decode cX9_tellFind 44 = .ok (.getfield 15, 3) := by decide +kernel
theorem dX9_tellFind_47 : decode cX9_tellFind 47 = .ok (.aload_n 0, 1) := by decide +kernel
theorem dX9_tellFind_48 : decode cX9_tellFind 48 = .ok (.getfield 45, 3) := by decide +kernel
theorem dX9_tellFind_51 : decode cX9_tellFind 51 = .ok (.iload_n 2, 1) := by decide +kernel
theorem dX9_tellFind_52 : decode cX9_tellFind 52 = .ok (.iastore, 1) := by decide +kernel
theorem dX9_tellFind_53 : decode cX9_tellFind 53 = .ok (.aload_n 0, 1) := by decide +kernel
theorem dX9_tellFind_54 : decode cX9_tellFind 54 = .ok (.getfield 18, 3) := by decide +kernel
theorem dX9_tellFind_57 : decode cX9_tellFind 57 = .ok (.aload_n 0, 1) := by decide +kernel
theorem dX9_tellFind_58 : decode cX9_tellFind 58 = .ok (.getfield 45, 3) := by decide +kernel
theorem dX9_tellFind_61 : decode cX9_tellFind 61 = .ok (.iload_n 3, 1) := by decide +kernel
theorem dX9_tellFind_62 : decode cX9_tellFind 62 = .ok (.iastore, 1) := by decide +kernel
theorem dX9_tellFind_63 : decode cX9_tellFind 63 = .ok (.aload_n 0, 1) := by decide +kernel
theorem dX9_tellFind_64 : decode cX9_tellFind 64 = .ok (.getfield 21, 3) := by decide +kernel
theorem dX9_tellFind_67 : decode cX9_tellFind 67 = .ok (.aload_n 0, 1) := by decide +kernel
theorem dX9_tellFind_68 : decode cX9_tellFind 68 = .ok (.getfield 45, 3) := by decide +kernel
theorem dX9_tellFind_71 : decode cX9_tellFind 71 = .ok (.iload 4, 2) := by decide +kernel
theorem dX9_tellFind_73 : decode cX9_tellFind 73 = .ok (.iastore, 1) := by decide +kernel
theorem dX9_tellFind_74 : decode cX9_tellFind 74 = .ok (.aload_n 0, 1) := by decide +kernel
theorem dX9_tellFind_75 : decode cX9_tellFind 75 = .ok (.getfield 24, 3) := by decide +kernel
theorem dX9_tellFind_78 : decode cX9_tellFind 78 = .ok (.aload_n 0, 1) := by decide +kernel
theorem dX9_tellFind_79 : decode cX9_tellFind 79 = .ok (.getfield 45, 3) := by decide +kernel
theorem dX9_tellFind_82 : decode cX9_tellFind 82 = .ok (.iload 5, 2) := by decide +kernel
theorem dX9_tellFind_84 : decode cX9_tellFind 84 = .ok (.iastore, 1) := by decide +kernel
theorem dX9_tellFind_85 : decode cX9_tellFind 85 = .ok (.aload_n 0, 1) := by decide +kernel
theorem dX9_tellFind_86 : decode cX9_tellFind 86 = .ok (.getfield 27, 3) := by decide +kernel
theorem dX9_tellFind_89 : decode cX9_tellFind 89 = .ok (.aload_n 0, 1) := by decide +kernel
theorem dX9_tellFind_90 : decode cX9_tellFind 90 = .ok (.getfield 45, 3) := by decide +kernel
theorem dX9_tellFind_93 : decode cX9_tellFind 93 = .ok (.iload 6, 2) := by decide +kernel
theorem dX9_tellFind_95 : decode cX9_tellFind 95 = .ok (.iastore, 1) := by decide +kernel
theorem dX9_tellFind_96 : decode cX9_tellFind 96 = .ok (.aload_n 0, 1) := by decide +kernel
theorem dX9_tellFind_97 : decode cX9_tellFind 97 = .ok (.getfield 30, 3) := by decide +kernel
theorem dX9_tellFind_100 : decode cX9_tellFind 100 = .ok (.aload_n 0, 1) := by decide +kernel
theorem dX9_tellFind_101 : decode cX9_tellFind 101 = .ok (.getfield 45, 3) := by decide +kernel
theorem dX9_tellFind_104 : decode cX9_tellFind 104 = .ok (.iload 7, 2) := by decide +kernel
theorem dX9_tellFind_106 : decode cX9_tellFind 106 = .ok (.iastore, 1) := by decide +kernel
theorem dX9_tellFind_107 : decode cX9_tellFind 107 = .ok (.aload_n 0, 1) := by decide +kernel
theorem dX9_tellFind_108 : decode cX9_tellFind 108 = .ok (.dup, 1) := by decide +kernel
theorem dX9_tellFind_109 : decode cX9_tellFind 109 = .ok (.getfield 45, 3) := by decide +kernel
theorem dX9_tellFind_112 : decode cX9_tellFind 112 = .ok (.iconst 1, 1) := by decide +kernel
theorem dX9_tellFind_113 : decode cX9_tellFind 113 = .ok (.iadd, 1) := by decide +kernel
theorem dX9_tellFind_114 : decode cX9_tellFind 114 = .ok (.putfield 45, 3) := by decide +kernel
theorem dX9_tellFind_117 : decode cX9_tellFind 117 = .ok (.aload_n 0, 1) := by decide +kernel
theorem dX9_tellFind_118 : decode cX9_tellFind 118 = .ok (.getfield 45, 3) := by decide +kernel
theorem dX9_tellFind_121 : decode cX9_tellFind 121 = .ok (.iconst 1, 1) := by decide +kernel
theorem dX9_tellFind_122 : decode cX9_tellFind 122 = .ok (.isub, 1) := by decide +kernel
theorem dX9_tellFind_123 : decode cX9_tellFind 123 = .ok (.ireturn, 1) := by decide +kernel
theorem dX9_tellPaper_0 : decode cX9_tellPaper 0 = .ok (.aload_n 0, 1) := by decide +kernel
theorem dX9_tellPaper_1 : decode cX9_tellPaper 1 = .ok (.getfield 52, 3) := by decide +kernel
theorem dX9_tellPaper_4 : decode cX9_tellPaper 4 = .ok (.bipush 40, 2) := by decide +kernel
theorem dX9_tellPaper_6 : decode cX9_tellPaper 6 = .ok (.if_icmp .lt 5, 3) := by decide +kernel
theorem dX9_tellPaper_9 : decode cX9_tellPaper 9 = .ok (.iconst 0, 1) := by decide +kernel
theorem dX9_tellPaper_10 : decode cX9_tellPaper 10 = .ok (.ireturn, 1) := by decide +kernel
theorem dX9_tellPaper_11 : decode cX9_tellPaper 11 = .ok (.aload_n 0, 1) := by decide +kernel
theorem dX9_tellPaper_12 : decode cX9_tellPaper 12 = .ok (.getfield 42, 3) := by decide +kernel
theorem dX9_tellPaper_15 : decode cX9_tellPaper 15 = .ok (.aload_n 0, 1) := by decide +kernel
theorem dX9_tellPaper_16 : decode cX9_tellPaper 16 = .ok (.getfield 52, 3) := by decide +kernel
theorem dX9_tellPaper_19 : decode cX9_tellPaper 19 = .ok (.iload_n 1, 1) := by decide +kernel
theorem dX9_tellPaper_20 : decode cX9_tellPaper 20 = .ok (.iastore, 1) := by decide +kernel
theorem dX9_tellPaper_21 : decode cX9_tellPaper 21 = .ok (.aload_n 0, 1) := by decide +kernel
theorem dX9_tellPaper_22 : decode cX9_tellPaper 22 = .ok (.dup, 1) := by decide +kernel
theorem dX9_tellPaper_23 : decode cX9_tellPaper 23 = .ok (.getfield 52, 3) := by decide +kernel
theorem dX9_tellPaper_26 : decode cX9_tellPaper 26 = .ok (.iconst 1, 1) := by decide +kernel
theorem dX9_tellPaper_27 : decode cX9_tellPaper 27 = .ok (.iadd, 1) := by decide +kernel
theorem dX9_tellPaper_28 : decode cX9_tellPaper 28 = .ok (.putfield 52, 3) := by decide +kernel
theorem dX9_tellPaper_31 : decode cX9_tellPaper 31 = .ok (.iconst 1, 1) := by decide +kernel
theorem dX9_tellPaper_32 : decode cX9_tellPaper 32 = .ok (.ireturn, 1) := by decide +kernel
theorem dX9_tellSeen_0 : decode cX9_tellSeen 0 = .ok (.aload_n 0, 1) := by decide +kernel
theorem dX9_tellSeen_1 : decode cX9_tellSeen 1 = .ok (.getfield 49, 3) := by decide +kernel
theorem dX9_tellSeen_4 : decode cX9_tellSeen 4 = .ok (.bipush 20, 2) := by decide +kernel
theorem dX9_tellSeen_6 : decode cX9_tellSeen 6 = .ok (.if_icmp .lt 5, 3) := by decide +kernel
theorem dX9_tellSeen_9 : decode cX9_tellSeen 9 = .ok (.iconst 0, 1) := by decide +kernel
theorem dX9_tellSeen_10 : decode cX9_tellSeen 10 = .ok (.ireturn, 1) := by decide +kernel
theorem dX9_tellSeen_11 : decode cX9_tellSeen 11 = .ok (.aload_n 0, 1) := by decide +kernel
theorem dX9_tellSeen_12 : decode cX9_tellSeen 12 = .ok (.getfield 33, 3) := by decide +kernel
theorem dX9_tellSeen_15 : decode cX9_tellSeen 15 = .ok (.aload_n 0, 1) := by decide +kernel
theorem dX9_tellSeen_16 : decode cX9_tellSeen 16 = .ok (.getfield 49, 3) := by decide +kernel
theorem dX9_tellSeen_19 : decode cX9_tellSeen 19 = .ok (.iload_n 1, 1) := by decide +kernel
theorem dX9_tellSeen_20 : decode cX9_tellSeen 20 = .ok (.iastore, 1) := by decide +kernel
theorem dX9_tellSeen_21 : decode cX9_tellSeen 21 = .ok (.aload_n 0, 1) := by decide +kernel
theorem dX9_tellSeen_22 : decode cX9_tellSeen 22 = .ok (.getfield 36, 3) := by decide +kernel
theorem dX9_tellSeen_25 : decode cX9_tellSeen 25 = .ok (.aload_n 0, 1) := by decide +kernel
theorem dX9_tellSeen_26 : decode cX9_tellSeen 26 = .ok (.getfield 49, 3) := by decide +kernel
theorem dX9_tellSeen_29 : decode cX9_tellSeen 29 = .ok (.iload_n 2, 1) := by decide +kernel
theorem dX9_tellSeen_30 : decode cX9_tellSeen 30 = .ok (.iastore, 1) := by decide +kernel
theorem dX9_tellSeen_31 : decode cX9_tellSeen 31 = .ok (.aload_n 0, 1) := by decide +kernel
theorem dX9_tellSeen_32 : decode cX9_tellSeen 32 = .ok (.getfield 39, 3) := by decide +kernel
theorem dX9_tellSeen_35 : decode cX9_tellSeen 35 = .ok (.aload_n 0, 1) := by decide +kernel
theorem dX9_tellSeen_36 : decode cX9_tellSeen 36 = .ok (.getfield 49, 3) := by decide +kernel
theorem dX9_tellSeen_39 : decode cX9_tellSeen 39 = .ok (.iload_n 3, 1) := by decide +kernel
theorem dX9_tellSeen_40 : decode cX9_tellSeen 40 = .ok (.iastore, 1) := by decide +kernel
theorem dX9_tellSeen_41 : decode cX9_tellSeen 41 = .ok (.aload_n 0, 1) := by decide +kernel
theorem dX9_tellSeen_42 : decode cX9_tellSeen 42 = .ok (.dup, 1) := by decide +kernel
theorem dX9_tellSeen_43 : decode cX9_tellSeen 43 = .ok (.getfield 49, 3) := by decide +kernel
theorem dX9_tellSeen_46 : decode cX9_tellSeen 46 = .ok (.iconst 1, 1) := by decide +kernel
theorem dX9_tellSeen_47 : decode cX9_tellSeen 47 = .ok (.iadd, 1) := by decide +kernel
theorem dX9_tellSeen_48 : decode cX9_tellSeen 48 = .ok (.putfield 49, 3) := by decide +kernel
theorem dX9_tellSeen_51 : decode cX9_tellSeen 51 = .ok (.iconst 1, 1) := by decide +kernel
theorem dX9_tellSeen_52 : decode cX9_tellSeen 52 = .ok (.ireturn, 1) := by decide +kernel

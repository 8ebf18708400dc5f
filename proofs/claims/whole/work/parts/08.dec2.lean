theorem dX12_dayFact_17 : decode cX12_dayFact 17 = .ok (.ldc2_w 295, 3) := by decide +kernel
theorem dX12_dayFact_20 : decode cX12_dayFact 20 = .ok (.lcmp, 1) := by decide +kernel
theorem dX12_dayFact_21 : decode cX12_dayFact 21 = .ok (.ifCond .ne 5, 3) := by decide +kernel
theorem dX12_dayFact_24 : decode cX12_dayFact 24 = .ok (.iconst 2, 1) := by decide +kernel
theorem dX12_dayFact_25 : decode cX12_dayFact 25 = .ok (.ireturn, 1) := by decide +kernel
theorem dX12_dayFact_26 : decode cX12_dayFact 26 = .ok (.aload_n 0, 1) := by decide +kernel
theorem dX12_dayFact_27 : decode cX12_dayFact 27 = .ok (.getfield 270, 3) := by decide +kernel
theorem dX12_dayFact_30 : decode cX12_dayFact 30 = .ok (.ldc2_w 297, 3) := by decide +kernel
theorem dX12_dayFact_33 : decode cX12_dayFact 33 = .ok (.lcmp, 1) := by decide +kernel
theorem dX12_dayFact_34 : decode cX12_dayFact 34 = .ok (.ifCond .ne 5, 3) := by decide +kernel
theorem dX12_dayFact_37 : decode cX12_dayFact 37 = .ok (.iconst 3, 1) := by decide +kernel
theorem dX12_dayFact_38 : decode cX12_dayFact 38 = .ok (.ireturn, 1) := by decide +kernel
theorem dX12_dayFact_39 : decode cX12_dayFact 39 = .ok (.aload_n 0, 1) := by decide +kernel
theorem dX12_dayFact_40 : decode cX12_dayFact 40 = .ok (.getfield 270, 3) := by decide +kernel
theorem dX12_dayFact_43 : decode cX12_dayFact 43 = .ok (.ldc2_w 299, 3) := by decide +kernel
theorem dX12_dayFact_46 : decode cX12_dayFact 46 = .ok (.lcmp, 1) := by decide +kernel
theorem dX12_dayFact_47 : decode cX12_dayFact 47 = .ok (.ifCond .ne 5, 3) := by decide +kernel
theorem dX12_dayFact_50 : decode cX12_dayFact 50 = .ok (.iconst 4, 1) := by decide +kernel
theorem dX12_dayFact_51 : decode cX12_dayFact 51 = .ok (.ireturn, 1) := by decide +kernel
theorem dX12_dayFact_52 : decode cX12_dayFact 52 = .ok (.aload_n 0, 1) := by decide +kernel
theorem dX12_dayFact_53 : decode cX12_dayFact 53 = .ok (.getfield 270, 3) := by decide +kernel
theorem dX12_dayFact_56 : decode cX12_dayFact 56 = .ok (.ldc2_w 301, 3) := by decide +kernel
theorem dX12_dayFact_59 : decode cX12_dayFact 59 = .ok (.lcmp, 1) := by decide +kernel
theorem dX12_dayFact_60 : decode cX12_dayFact 60 = .ok (.ifCond .ne 5, 3) := by decide +kernel
theorem dX12_dayFact_63 : decode cX12_dayFact 63 = .ok (.iconst 5, 1) := by decide +kernel
theorem dX12_dayFact_64 : decode cX12_dayFact 64 = .ok (.ireturn, 1) := by decide +kernel
theorem dX12_dayFact_65 : decode cX12_dayFact 65 = .ok (.aload_n 0, 1) := by decide +kernel
theorem dX12_dayFact_66 : decode cX12_dayFact 66 = .ok (.getfield 270, 3) := by decide +kernel
theorem dX12_dayFact_69 : decode cX12_dayFact 69 = .ok (.ldc2_w 303, 3) := by decide +kernel
theorem dX12_dayFact_72 : decode cX12_dayFact 72 = .ok (.lcmp, 1) := by decide +kernel
theorem dX12_dayFact_73 : decode cX12_dayFact 73 = .ok (.ifCond .ne 6, 3) := by decide +kernel
theorem dX12_dayFact_76 : decode cX12_dayFact 76 = .ok (.bipush 6, 2) := by decide +kernel
theorem dX12_dayFact_78 : decode cX12_dayFact 78 = .ok (.ireturn, 1) := by decide +kernel
theorem dX12_dayFact_79 : decode cX12_dayFact 79 = .ok (.aload_n 0, 1) := by decide +kernel
theorem dX12_dayFact_80 : decode cX12_dayFact 80 = .ok (.getfield 270, 3) := by decide +kernel
theorem dX12_dayFact_83 : decode cX12_dayFact 83 = .ok (.ldc2_w 305, 3) := by decide +kernel
theorem dX12_dayFact_86 : decode cX12_dayFact 86 = .ok (.lcmp, 1) := by decide +kernel
theorem dX12_dayFact_87 : decode cX12_dayFact 87 = .ok (.ifCond .ne 6, 3) := by decide +kernel
theorem dX12_dayFact_90 : decode cX12_dayFact 90 = .ok (.bipush 7, 2) := by decide +kernel
theorem dX12_dayFact_92 : decode cX12_dayFact 92 = .ok (.ireturn, 1) := by decide +kernel
theorem dX12_dayFact_93 : decode cX12_dayFact 93 = .ok (.aload_n 0, 1) := by decide +kernel
theorem dX12_dayFact_94 : decode cX12_dayFact 94 = .ok (.getfield 270, 3) := by decide +kernel
theorem dX12_dayFact_97 : decode cX12_dayFact 97 = .ok (.ldc2_w 307, 3) := by decide +kernel
theorem dX12_dayFact_100 : decode cX12_dayFact 100 = .ok (.lcmp, 1) := by decide +kernel
theorem dX12_dayFact_101 : decode cX12_dayFact 101 = .ok (.ifCond .ne 6, 3) := by decide +kernel
theorem dX12_dayFact_104 : decode cX12_dayFact 104 = .ok (.bipush 8, 2) := by decide +kernel
theorem dX12_dayFact_106 : decode cX12_dayFact 106 = .ok (.ireturn, 1) := by decide +kernel
theorem dX12_dayFact_107 : decode cX12_dayFact 107 = .ok (.iconst 0, 1) := by decide +kernel
theorem dX12_dayFact_108 : decode cX12_dayFact 108 = .ok (.ireturn, 1) := by decide +kernel
theorem dX12_digsAt_0 : decode cX12_digsAt 0 = .ok (.aload_n 0, 1) := by decide +kernel
theorem dX12_digsAt_1 : decode cX12_digsAt 1 = .ok (.getfield 19, 3) := by decide +kernel
theorem dX12_digsAt_4 : decode cX12_digsAt 4 = .ok (.iload_n 1, 1) := by decide +kernel
theorem dX12_digsAt_5 : decode cX12_digsAt 5 = .ok (.iaload, 1) := by decide +kernel
theorem dX12_digsAt_6 : decode cX12_digsAt 6 = .ok (.istore_n 3, 1) := by decide +kernel
theorem dX12_digsAt_7 : decode cX12_digsAt 7 = .ok (.aload_n 0, 1) := by decide +kernel
theorem dX12_digsAt_8 : decode cX12_digsAt 8 = .ok (.getfield 156, 3) := by decide +kernel
theorem dX12_digsAt_11 : decode cX12_digsAt 11 = .ok (.aload_n 0, 1) := by decide +kernel
theorem dX12_digsAt_12 : decode cX12_digsAt 12 = .ok (.getfield 16, 3) := by decide +kernel
theorem dX12_digsAt_15 : decode cX12_digsAt 15 = .ok (.iload_n 1, 1) := by decide +kernel
theorem dX12_digsAt_16 : decode cX12_digsAt 16 = .ok (.iaload, 1) := by decide +kernel
theorem dX12_digsAt_17 : decode cX12_digsAt 17 = .ok (.iaload, 1) := by decide +kernel
theorem dX12_digsAt_18 : decode cX12_digsAt 18 = .ok (.istore 4, 2) := by decide +kernel
theorem dX12_digsAt_20 : decode cX12_digsAt 20 = .ok (.aload_n 0, 1) := by decide +kernel
theorem dX12_digsAt_21 : decode cX12_digsAt 21 = .ok (.getfield 174, 3) := by decide +kernel
theorem dX12_digsAt_24 : decode cX12_digsAt 24 = .ok (.iload_n 3, 1) := by decide +kernel
theorem dX12_digsAt_25 : decode cX12_digsAt 25 = .ok (.iaload, 1) := by decide +kernel
theorem dX12_digsAt_26 : decode cX12_digsAt 26 = .ok (.ifCond .le 90, 3) := by decide +kernel
theorem dX12_digsAt_29 : decode cX12_digsAt 29 = .ok (.aload_n 0, 1) := by decide +kernel
theorem dX12_digsAt_30 : decode cX12_digsAt 30 = .ok (.invokevirtual 562, 3) := by decide +kernel
theorem dX12_digsAt_33 : decode cX12_digsAt 33 = .ok (.iload 4, 2) := by decide +kernel
theorem dX12_digsAt_35 : decode cX12_digsAt 35 = .ok (.if_icmp .lt 4, 3) := by decide +kernel
theorem dX12_digsAt_38 : decode cX12_digsAt 38 = .ok (.return_, 1) := by decide +kernel
theorem dX12_digsAt_39 : decode cX12_digsAt 39 = .ok (.aload_n 0, 1) := by decide +kernel
theorem dX12_digsAt_40 : decode cX12_digsAt 40 = .ok (.getfield 171, 3) := by decide +kernel
theorem dX12_digsAt_43 : decode cX12_digsAt 43 = .ok (.bipush 9, 2) := by decide +kernel
theorem dX12_digsAt_45 : decode cX12_digsAt 45 = .ok (.iload_n 3, 1) := by decide +kernel
theorem dX12_digsAt_46 : decode cX12_digsAt 46 = .ok (.imul, 1) := by decide +kernel
theorem dX12_digsAt_47 : decode cX12_digsAt 47 = .ok (.iaload, 1) := by decide +kernel
theorem dX12_digsAt_48 : decode cX12_digsAt 48 = .ok (.istore 5, 2) := by decide +kernel
theorem dX12_digsAt_50 : decode cX12_digsAt 50 = .ok (.aload_n 0, 1) := by decide +kernel
theorem dX12_digsAt_51 : decode cX12_digsAt 51 = .ok (.getfield 174, 3) := by decide +kernel
theorem dX12_digsAt_54 : decode cX12_digsAt 54 = .ok (.iload_n 3, 1) := by decide +kernel
theorem dX12_digsAt_55 : decode cX12_digsAt 55 = .ok (.dup2, 1) := by decide +kernel
theorem dX12_digsAt_56 : decode cX12_digsAt 56 = .ok (.iaload, 1) := by decide +kernel
theorem dX12_digsAt_57 : decode cX12_digsAt 57 = .ok (.iconst 1, 1) := by decide +kernel
theorem dX12_digsAt_58 : decode cX12_digsAt 58 = .ok (.isub, 1) := by decide +kernel
theorem dX12_digsAt_59 : decode cX12_digsAt 59 = .ok (.iastore, 1) := by decide +kernel
theorem dX12_digsAt_60 : decode cX12_digsAt 60 = .ok (.iconst 0, 1) := by decide +kernel
theorem dX12_digsAt_61 : decode cX12_digsAt 61 = .ok (.istore 6, 2) := by decide +kernel
theorem dX12_digsAt_63 : decode cX12_digsAt 63 = .ok (.iload 6, 2) := by decide +kernel
theorem dX12_digsAt_65 : decode cX12_digsAt 65 = .ok (.aload_n 0, 1) := by decide +kernel
theorem dX12_digsAt_66 : decode cX12_digsAt 66 = .ok (.getfield 174, 3) := by decide +kernel
theorem dX12_digsAt_69 : decode cX12_digsAt 69 = .ok (.iload_n 3, 1) := by decide +kernel
theorem dX12_digsAt_70 : decode cX12_digsAt 70 = .ok (.iaload, 1) := by decide +kernel
theorem dX12_digsAt_71 : decode cX12_digsAt 71 = .ok (.if_icmp .ge 35, 3) := by decide +kernel
theorem dX12_digsAt_74 : decode cX12_digsAt 74 = .ok (.aload_n 0, 1) := by decide +kernel
theorem dX12_digsAt_75 : decode cX12_digsAt 75 = .ok (.getfield 171, 3) := by decide +kernel
theorem dX12_digsAt_78 : decode cX12_digsAt 78 = .ok (.bipush 9, 2) := by decide +kernel
theorem dX12_digsAt_80 : decode cX12_digsAt 80 = .ok (.iload_n 3, 1) := by decide +kernel
theorem dX12_digsAt_81 : decode cX12_digsAt 81 = .ok (.imul, 1) := by decide +kernel
theorem dX12_digsAt_82 : decode cX12_digsAt 82 = .ok (.iload 6, 2) := by decide +kernel
theorem dX12_digsAt_84 : decode cX12_digsAt 84 = .ok (.iadd, 1) := by decide +kernel
theorem dX12_digsAt_85 : decode cX12_digsAt 85 = .ok (.aload_n 0, 1) := by decide +kernel
theorem dX12_digsAt_86 : decode cX12_digsAt 86 = .ok (.getfield 171, 3) := by decide +kernel
theorem dX12_digsAt_89 : decode cX12_digsAt 89 = .ok (.bipush 9, 2) := by decide +kernel
theorem dX12_digsAt_91 : decode cX12_digsAt 91 = .ok (.iload_n 3, 1) := by decide +kernel
theorem dX12_digsAt_92 : decode cX12_digsAt 92 = .ok (.imul, 1) := by decide +kernel
theorem dX12_digsAt_93 : decode cX12_digsAt 93 = .ok (.iload 6, 2) := by decide +kernel
theorem dX12_digsAt_95 : decode cX12_digsAt 95 = .ok (.iadd, 1) := by decide +kernel
theorem dX12_digsAt_96 : decode cX12_digsAt 96 = .ok (.iconst 1, 1) := by decide +kernel
theorem dX12_digsAt_97 : decode cX12_digsAt 97 = .ok (.iadd, 1) := by decide +kernel
theorem dX12_digsAt_98 : decode cX12_digsAt 98 = .ok (.iaload, 1) := by decide +kernel
theorem dX12_digsAt_99 : decode cX12_digsAt 99 = .ok (.iastore, 1) := by decide +kernel
theorem dX12_digsAt_100 : decode cX12_digsAt 100 = .ok (.iinc 6 1, 3) := by decide +kernel
theorem dX12_digsAt_103 : decode cX12_digsAt 103 = .ok (.goto (-40), 3) := by decide +kernel
theorem dX12_digsAt_106 : decode cX12_digsAt 106 = .ok (.aload_n 0, 1) := by decide +kernel
theorem dX12_digsAt_107 : decode cX12_digsAt 107 = .ok (.iload_n 1, 1) := by decide +kernel
theorem dX12_digsAt_108 : decode cX12_digsAt 108 = .ok (.iload_n 2, 1) := by decide +kernel
theorem dX12_digsAt_109 : decode cX12_digsAt 109 = .ok (.iload 5, 2) := by decide +kernel
theorem dX12_digsAt_111 : decode cX12_digsAt 111 = .ok (.iconst 1, 1) := by decide +kernel
theorem dX12_digsAt_112 : decode cX12_digsAt 112 = .ok (.invokevirtual 574, 3) := by decide +kernel
theorem dX12_digsAt_115 : decode cX12_digsAt 115 = .ok (.return_, 1) := by decide +kernel
theorem dX12_digsAt_116 : decode cX12_digsAt 116 = .ok (.aload_n 0, 1) := by decide +kernel
theorem dX12_digsAt_117 : decode cX12_digsAt 117 = .ok (.iload_n 3, 1) := by decide +kernel
theorem dX12_digsAt_118 : decode cX12_digsAt 118 = .ok (.invokevirtual 565, 3) := by decide +kernel
theorem dX12_digsAt_121 : decode cX12_digsAt 121 = .ok (.ifCond .ne 4, 3) := by decide +kernel
theorem dX12_digsAt_124 : decode cX12_digsAt 124 = .ok (.return_, 1) := by decide +kernel
theorem dX12_digsAt_125 : decode cX12_digsAt 125 = .ok (.aload_n 0, 1) := by decide +kernel
theorem dX12_digsAt_126 : decode cX12_digsAt 126 = .ok (.iload_n 3, 1) := by decide +kernel
theorem dX12_digsAt_127 : decode cX12_digsAt 127 = .ok (.invokevirtual 571, 3) := by decide +kernel
theorem dX12_digsAt_130 : decode cX12_digsAt 130 = .ok (.istore 5, 2) := by decide +kernel
theorem dX12_digsAt_132 : decode cX12_digsAt 132 = .ok (.aload_n 0, 1) := by decide +kernel
theorem dX12_digsAt_133 : decode cX12_digsAt 133 = .ok (.invokevirtual 562, 3) := by decide +kernel
theorem dX12_digsAt_136 : decode cX12_digsAt 136 = .ok (.aload_n 0, 1) := by decide +kernel
theorem dX12_digsAt_137 : decode cX12_digsAt 137 = .ok (.getfield 162, 3) := by decide +kernel
theorem dX12_digsAt_140 : decode cX12_digsAt 140 = .ok (.bipush 10, 2) := by decide +kernel
theorem dX12_digsAt_142 : decode cX12_digsAt 142 = .ok (.iload_n 3, 1) := by decide +kernel
theorem dX12_digsAt_143 : decode cX12_digsAt 143 = .ok (.imul, 1) := by decide +kernel
theorem dX12_digsAt_144 : decode cX12_digsAt 144 = .ok (.iload 5, 2) := by decide +kernel
theorem dX12_digsAt_146 : decode cX12_digsAt 146 = .ok (.iadd, 1) := by decide +kernel
theorem dX12_digsAt_147 : decode cX12_digsAt 147 = .ok (.iaload, 1) := by decide +kernel
theorem dX12_digsAt_148 : decode cX12_digsAt 148 = .ok (.if_icmp .ge 7, 3) := by decide +kernel
theorem dX12_digsAt_151 : decode cX12_digsAt 151 = .ok (.iconst 1, 1) := by decide +kernel
theorem dX12_digsAt_152 : decode cX12_digsAt 152 = .ok (.goto 4, 3) := by decide +kernel
theorem dX12_digsAt_155 : decode cX12_digsAt 155 = .ok (.iconst 0, 1) := by decide +kernel
theorem dX12_digsAt_156 : decode cX12_digsAt 156 = .ok (.istore 6, 2) := by decide +kernel
theorem dX12_digsAt_158 : decode cX12_digsAt 158 = .ok (.aload_n 0, 1) := by decide +kernel
theorem dX12_digsAt_159 : decode cX12_digsAt 159 = .ok (.invokevirtual 562, 3) := by decide +kernel
theorem dX12_digsAt_162 : decode cX12_digsAt 162 = .ok (.iload 4, 2) := by decide +kernel
theorem dX12_digsAt_164 : decode cX12_digsAt 164 = .ok (.if_icmp .ge 7, 3) := by decide +kernel
theorem dX12_digsAt_167 : decode cX12_digsAt 167 = .ok (.iconst 1, 1) := by decide +kernel
theorem dX12_digsAt_168 : decode cX12_digsAt 168 = .ok (.goto 4, 3) := by decide +kernel
theorem dX12_digsAt_171 : decode cX12_digsAt 171 = .ok (.iconst 0, 1) := by decide +kernel
theorem dX12_digsAt_172 : decode cX12_digsAt 172 = .ok (.istore 7, 2) := by decide +kernel
theorem dX12_digsAt_174 : decode cX12_digsAt 174 = .ok (.iload 6, 2) := by decide +kernel
theorem dX12_digsAt_176 : decode cX12_digsAt 176 = .ok (.ifCond .eq 17, 3) := by decide +kernel
theorem dX12_digsAt_179 : decode cX12_digsAt 179 = .ok (.iload 7, 2) := by decide +kernel
theorem dX12_digsAt_181 : decode cX12_digsAt 181 = .ok (.ifCond .eq 12, 3) := by decide +kernel
theorem dX12_digsAt_184 : decode cX12_digsAt 184 = .ok (.aload_n 0, 1) := by decide +kernel
theorem dX12_digsAt_185 : decode cX12_digsAt 185 = .ok (.iload_n 1, 1) := by decide +kernel
theorem dX12_digsAt_186 : decode cX12_digsAt 186 = .ok (.iload_n 2, 1) := by decide +kernel
theorem dX12_digsAt_187 : decode cX12_digsAt 187 = .ok (.iload 5, 2) := by decide +kernel
theorem dX12_digsAt_189 : decode cX12_digsAt 189 = .ok (.iconst 0, 1) := by decide +kernel
theorem dX12_digsAt_190 : decode cX12_digsAt 190 = .ok (.invokevirtual 574, 3) := by decide +kernel
theorem dX12_digsAt_193 : decode cX12_digsAt 193 = .ok (.return_, 1) := by decide +kernel
theorem dX12_doubted_0 : decode cX12_doubted 0 = .ok (.aload_n 0, 1) := by decide +kernel
theorem dX12_doubted_1 : decode cX12_doubted 1 = .ok (.iconst 0, 1) := by decide +kernel
theorem dX12_doubted_2 : decode cX12_doubted 2 = .ok (.putfield 214, 3) := by decide +kernel
theorem dX12_doubted_5 : decode cX12_doubted 5 = .ok (.aload_n 0, 1) := by decide +kernel
theorem dX12_doubted_6 : decode cX12_doubted 6 = .ok (.iload_n 1, 1) := by decide +kernel
theorem dX12_doubted_7 : decode cX12_doubted 7 = .ok (.invokevirtual 249, 3) := by decide +kernel
theorem dX12_doubted_10 : decode cX12_doubted 10 = .ok (.ifCond .ne 5, 3) := by decide +kernel
theorem dX12_doubted_13 : decode cX12_doubted 13 = .ok (.iconst (-1), 1) := by decide +kernel
theorem dX12_doubted_14 : decode cX12_doubted 14 = .ok (.ireturn, 1) := by decide +kernel
theorem dX12_doubted_15 : decode cX12_doubted 15 = .ok (.aload_n 0, 1) := by decide +kernel
theorem dX12_doubted_16 : decode cX12_doubted 16 = .ok (.invokevirtual 505, 3) := by decide +kernel
theorem dX12_doubted_19 : decode cX12_doubted 19 = .ok (.aload_n 0, 1) := by decide +kernel
theorem dX12_doubted_20 : decode cX12_doubted 20 = .ok (.getfield 502, 3) := by decide +kernel
theorem dX12_doubted_23 : decode cX12_doubted 23 = .ok (.iload_n 1, 1) := by decide +kernel
theorem dX12_doubted_24 : decode cX12_doubted 24 = .ok (.lshr, 1) := by decide +kernel
theorem dX12_doubted_25 : decode cX12_doubted 25 = .ok (.lconst 1, 1) := by decide +kernel
theorem dX12_doubted_26 : decode cX12_doubted 26 = .ok (.land, 1) := by decide +kernel
theorem dX12_doubted_27 : decode cX12_doubted 27 = .ok (.lconst 1, 1) := by decide +kernel
theorem dX12_doubted_28 : decode cX12_doubted 28 = .ok (.lcmp, 1) := by decide +kernel
theorem dX12_doubted_29 : decode cX12_doubted 29 = .ok (.ifCond .ne 7, 3) := by decide +kernel
theorem dX12_doubted_32 : decode cX12_doubted 32 = .ok (.iconst 1, 1) := by decide +kernel
theorem dX12_doubted_33 : decode cX12_doubted 33 = .ok (.goto 4, 3) := by decide +kernel
theorem dX12_doubted_36 : decode cX12_doubted 36 = .ok (.iconst 0, 1) := by decide +kernel
theorem dX12_doubted_37 : decode cX12_doubted 37 = .ok (.ireturn, 1) := by decide +kernel
theorem dX12_draws_0 : decode cX12_draws 0 = .ok (.aload_n 0, 1) := by decide +kernel
theorem dX12_draws_1 : decode cX12_draws 1 = .ok (.aload_n 0, 1) := by decide +kernel
theorem dX12_draws_2 : decode cX12_draws 2 = .ok (.getfield 551, 3) := by decide +kernel
theorem dX12_draws_5 : decode cX12_draws 5 = .ok (.ldc2_w 554, 3) := by decide +kernel
theorem dX12_draws_8 : decode cX12_draws 8 = .ok (.lmul, 1) := by decide +kernel
theorem dX12_draws_9 : decode cX12_draws 9 = .ok (.ldc2_w 556, 3) := by decide +kernel
theorem dX12_draws_12 : decode cX12_draws 12 = .ok (.ladd, 1) := by decide +kernel
theorem dX12_draws_13 : decode cX12_draws 13 = .ok (.ldc2_w 558, 3) := by decide +kernel
theorem dX12_draws_16 : decode cX12_draws 16 = .ok (.lrem, 1) := by decide +kernel
theorem dX12_draws_17 : decode cX12_draws 17 = .ok (.putfield 551, 3) := by decide +kernel
theorem dX12_draws_20 : decode cX12_draws 20 = .ok (.aload_n 0, 1) := by decide +kernel
theorem dX12_draws_21 : decode cX12_draws 21 = .ok (.getfield 551, 3) := by decide +kernel
theorem dX12_draws_24 : decode cX12_draws 24 = .ok (.ldc2_w 560, 3) := by decide +kernel
theorem dX12_draws_27 : decode cX12_draws 27 = .ok (.ldiv, 1) := by decide +kernel
theorem dX12_draws_28 : decode cX12_draws 28 = .ok (.ldc2_w 473, 3) := by decide +kernel
theorem dX12_draws_31 : decode cX12_draws 31 = .ok (.lrem, 1) := by decide +kernel
theorem dX12_draws_32 : decode cX12_draws 32 = .ok (.l2i, 1) := by decide +kernel
theorem dX12_draws_33 : decode cX12_draws 33 = .ok (.ireturn, 1) := by decide +kernel
theorem dX12_drawsLayer_0 : decode cX12_drawsLayer 0 = .ok (.aload_n 0, 1) := by decide +kernel
theorem dX12_drawsLayer_1 : decode cX12_drawsLayer 1 = .ok (.invokevirtual 562, 3) := by decide +kernel
theorem dX12_drawsLayer_4 : decode cX12_drawsLayer 4 = .ok (.aload_n 0, 1) := by decide +kernel
theorem dX12_drawsLayer_5 : decode cX12_drawsLayer 5 = .ok (.iload_n 1, 1) := by decide +kernel
theorem dX12_drawsLayer_6 : decode cX12_drawsLayer 6 = .ok (.invokevirtual 565, 3) := by decide +kernel
theorem dX12_drawsLayer_9 : decode cX12_drawsLayer 9 = .ok (.irem, 1) := by decide +kernel
theorem dX12_drawsLayer_10 : decode cX12_drawsLayer 10 = .ok (.istore_n 2, 1) := by decide +kernel
theorem dX12_drawsLayer_11 : decode cX12_drawsLayer 11 = .ok (.iconst (-1), 1) := by decide +kernel
theorem dX12_drawsLayer_12 : decode cX12_drawsLayer 12 = .ok (.istore_n 3, 1) := by decide +kernel
theorem dX12_drawsLayer_13 : decode cX12_drawsLayer 13 = .ok (.iconst 0, 1) := by decide +kernel
theorem dX12_drawsLayer_14 : decode cX12_drawsLayer 14 = .ok (.istore 4, 2) := by decide +kernel
theorem dX12_drawsLayer_16 : decode cX12_drawsLayer 16 = .ok (.iload 4, 2) := by decide +kernel
theorem dX12_drawsLayer_18 : decode cX12_drawsLayer 18 = .ok (.bipush 10, 2) := by decide +kernel
theorem dX12_drawsLayer_20 : decode cX12_drawsLayer 20 = .ok (.if_icmp .ge 37, 3) := by decide +kernel
theorem dX12_drawsLayer_23 : decode cX12_drawsLayer 23 = .ok (.aload_n 0, 1) := by decide +kernel
theorem dX12_drawsLayer_24 : decode cX12_drawsLayer 24 = .ok (.getfield 7, 3) := by decide +kernel
theorem dX12_drawsLayer_27 : decode cX12_drawsLayer 27 = .ok (.bipush 10, 2) := by decide +kernel
theorem dX12_drawsLayer_29 : decode cX12_drawsLayer 29 = .ok (.iload_n 1, 1) := by decide +kernel
theorem dX12_drawsLayer_30 : decode cX12_drawsLayer 30 = .ok (.imul, 1) := by decide +kernel
theorem dX12_drawsLayer_31 : decode cX12_drawsLayer 31 = .ok (.iload 4, 2) := by decide +kernel
theorem dX12_drawsLayer_33 : decode cX12_drawsLayer 33 = .ok (.iadd, 1) := by decide +kernel
theorem dX12_drawsLayer_34 : decode cX12_drawsLayer 34 = .ok (.iaload, 1) := by decide +kernel
theorem dX12_drawsLayer_35 : decode cX12_drawsLayer 35 = .ok (.ifCond .ge 6, 3) := by decide +kernel
theorem dX12_drawsLayer_38 : decode cX12_drawsLayer 38 = .ok (.goto 13, 3) := by decide +kernel
theorem dX12_drawsLayer_41 : decode cX12_drawsLayer 41 = .ok (.iload_n 2, 1) := by decide +kernel
theorem dX12_drawsLayer_42 : decode cX12_drawsLayer 42 = .ok (.ifCond .ne 6, 3) := by decide +kernel
theorem dX12_drawsLayer_45 : decode cX12_drawsLayer 45 = .ok (.iload 4, 2) := by decide +kernel
theorem dX12_drawsLayer_47 : decode cX12_drawsLayer 47 = .ok (.istore_n 3, 1) := by decide +kernel
theorem dX12_drawsLayer_48 : decode cX12_drawsLayer 48 = .ok (.iinc 2 (-1), 3) := by decide +kernel
theorem dX12_drawsLayer_51 : decode cX12_drawsLayer 51 = .ok (.iinc 4 1, 3) := by decide +kernel
theorem dX12_drawsLayer_54 : decode cX12_drawsLayer 54 = .ok (.goto (-38), 3) := by decide +kernel
theorem dX12_drawsLayer_57 : decode cX12_drawsLayer 57 = .ok (.iload_n 3, 1) := by decide +kernel
theorem dX12_drawsLayer_58 : decode cX12_drawsLayer 58 = .ok (.ireturn, 1) := by decide +kernel
theorem dX12_each_0 : decode cX12_each 0 = .ok (.aload_n 0, 1) := by decide +kernel
theorem dX12_each_1 : decode cX12_each 1 = .ok (.iconst 0, 1) := by decide +kernel
theorem dX12_each_2 : decode cX12_each 2 = .ok (.putfield 214, 3) := by decide +kernel
theorem dX12_each_5 : decode cX12_each 5 = .ok (.aload_n 0, 1) := by decide +kernel
theorem dX12_each_6 : decode cX12_each 6 = .ok (.iload_n 1, 1) := by decide +kernel
theorem dX12_each_7 : decode cX12_each 7 = .ok (.invokevirtual 249, 3) := by decide +kernel
theorem dX12_each_10 : decode cX12_each 10 = .ok (.ifCond .eq 11, 3) := by decide +kernel
theorem dX12_each_13 : decode cX12_each 13 = .ok (.aload_n 0, 1) := by decide +kernel
theorem dX12_each_14 : decode cX12_each 14 = .ok (.iload_n 1, 1) := by decide +kernel
theorem dX12_each_15 : decode cX12_each 15 = .ok (.invokevirtual 438, 3) := by decide +kernel
theorem dX12_each_18 : decode cX12_each 18 = .ok (.goto 4, 3) := by decide +kernel
theorem dX12_each_21 : decode cX12_each 21 = .ok (.iconst (-1), 1) := by decide +kernel
theorem dX12_each_22 : decode cX12_each 22 = .ok (.ireturn, 1) := by decide +kernel
theorem dX12_eachOf_0 : decode cX12_eachOf 0 = .ok (.aload_n 0, 1) := by decide +kernel
theorem dX12_eachOf_1 : decode cX12_eachOf 1 = .ok (.iload_n 1, 1) := by decide +kernel
theorem dX12_eachOf_2 : decode cX12_eachOf 2 = .ok (.invokevirtual 429, 3) := by decide +kernel
theorem dX12_eachOf_5 : decode cX12_eachOf 5 = .ok (.aload_n 0, 1) := by decide +kernel
theorem dX12_eachOf_6 : decode cX12_eachOf 6 = .ok (.invokevirtual 432, 3) := by decide +kernel
theorem dX12_eachOf_9 : decode cX12_eachOf 9 = .ok (.ireturn, 1) := by decide +kernel
theorem dX12_enough_0 : decode cX12_enough 0 = .ok (.aload_n 0, 1) := by decide +kernel
theorem dX12_enough_1 : decode cX12_enough 1 = .ok (.iconst 0, 1) := by decide +kernel
theorem dX12_enough_2 : decode cX12_enough 2 = .ok (.putfield 214, 3) := by decide +kernel
theorem dX12_enough_5 : decode cX12_enough 5 = .ok (.aload_n 0, 1) := by decide +kernel
theorem dX12_enough_6 : decode cX12_enough 6 = .ok (.getfield 55, 3) := by decide +kernel
theorem dX12_enough_9 : decode cX12_enough 9 = .ok (.bipush 20, 2) := by decide +kernel
theorem dX12_enough_11 : decode cX12_enough 11 = .ok (.baload, 1) := by decide +kernel
theorem dX12_enough_12 : decode cX12_enough 12 = .ok (.ifCond .ne 5, 3) := by decide +kernel
theorem dX12_enough_15 : decode cX12_enough 15 = .ok (.iconst (-1), 1) := by decide +kernel
theorem dX12_enough_16 : decode cX12_enough 16 = .ok (.ireturn, 1) := by decide +kernel
theorem dX12_enough_17 : decode cX12_enough 17 = .ok (.iconst 0, 1) := by decide +kernel
theorem dX12_enough_18 : decode cX12_enough 18 = .ok (.istore_n 1, 1) := by decide +kernel
theorem dX12_enough_19 : decode cX12_enough 19 = .ok (.iload_n 1, 1) := by decide +kernel
theorem dX12_enough_20 : decode cX12_enough 20 = .ok (.aload_n 0, 1) := by decide +kernel
theorem dX12_enough_21 : decode cX12_enough 21 = .ok (.getfield 235, 3) := by decide +kernel
theorem dX12_enough_24 : decode cX12_enough 24 = .ok (.if_icmp .ge 33, 3) := by decide +kernel
theorem dX12_enough_27 : decode cX12_enough 27 = .ok (.aload_n 0, 1) := by decide +kernel
theorem dX12_enough_28 : decode cX12_enough 28 = .ok (.getfield 122, 3) := by decide +kernel
theorem dX12_enough_31 : decode cX12_enough 31 = .ok (.iload_n 1, 1) := by decide +kernel
theorem dX12_enough_32 : decode cX12_enough 32 = .ok (.aload_n 0, 1) := by decide +kernel
theorem dX12_enough_33 : decode cX12_enough 33 = .ok (.iload_n 1, 1) := by decide +kernel
theorem dX12_enough_34 : decode cX12_enough 34 = .ok (.invokevirtual 438, 3) := by decide +kernel
theorem dX12_enough_37 : decode cX12_enough 37 = .ok (.iastore, 1) := by decide +kernel
theorem dX12_enough_38 : decode cX12_enough 38 = .ok (.aload_n 0, 1) := by decide +kernel
theorem dX12_enough_39 : decode cX12_enough 39 = .ok (.getfield 153, 3) := by decide +kernel
theorem dX12_enough_42 : decode cX12_enough 42 = .ok (.iload_n 1, 1) := by decide +kernel
theorem dX12_enough_43 : decode cX12_enough 43 = .ok (.aload_n 0, 1) := by decide +kernel
theorem dX12_enough_44 : decode cX12_enough 44 = .ok (.iload_n 1, 1) := by decide +kernel
theorem dX12_enough_45 : decode cX12_enough 45 = .ok (.bipush 14, 2) := by decide +kernel
theorem dX12_enough_47 : decode cX12_enough 47 = .ok (.invokevirtual 252, 3) := by decide +kernel
theorem dX12_enough_50 : decode cX12_enough 50 = .ok (.iastore, 1) := by decide +kernel
theorem dX12_enough_51 : decode cX12_enough 51 = .ok (.iinc 1 1, 3) := by decide +kernel
theorem dX12_enough_54 : decode cX12_enough 54 = .ok (.goto (-35), 3) := by decide +kernel
theorem dX12_enough_57 : decode cX12_enough 57 = .ok (.iconst 0, 1) := by decide +kernel
theorem dX12_enough_58 : decode cX12_enough 58 = .ok (.istore_n 1, 1) := by decide +kernel
theorem dX12_enough_59 : decode cX12_enough 59 = .ok (.iload_n 1, 1) := by decide +kernel
theorem dX12_enough_60 : decode cX12_enough 60 = .ok (.sipush 1000, 3) := by decide +kernel
theorem dX12_enough_63 : decode cX12_enough 63 = .ok (.if_icmp .ge 25, 3) := by decide +kernel
theorem dX12_enough_66 : decode cX12_enough 66 = .ok (.aload_n 0, 1) := by decide +kernel
theorem dX12_enough_67 : decode cX12_enough 67 = .ok (.iload_n 1, 1) := by decide +kernel
theorem dX12_enough_68 : decode cX12_enough 68 = .ok (.invokevirtual 548, 3) := by decide +kernel
theorem dX12_enough_71 : decode cX12_enough 71 = .ok (.aload_n 0, 1) := by decide +kernel
theorem dX12_enough_72 : decode cX12_enough 72 = .ok (.bipush 20, 2) := by decide +kernel
theorem dX12_enough_74 : decode cX12_enough 74 = .ok (.invokevirtual 435, 3) := by decide +kernel
theorem dX12_enough_77 : decode cX12_enough 77 = .ok (.ifCond .eq 5, 3) := by decide +kernel
theorem dX12_enough_80 : decode cX12_enough 80 = .ok (.iload_n 1, 1) := by decide +kernel
theorem dX12_enough_81 : decode cX12_enough 81 = .ok (.ireturn, 1) := by decide +kernel
theorem dX12_enough_82 : decode cX12_enough 82 = .ok (.iinc 1 1, 3) := by decide +kernel
theorem dX12_enough_85 : decode cX12_enough 85 = .ok (.goto (-26), 3) := by decide +kernel
theorem dX12_enough_88 : decode cX12_enough 88 = .ok (.iconst (-1), 1) := by decide +kernel
theorem dX12_enough_89 : decode cX12_enough 89 = .ok (.ireturn, 1) := by decide +kernel
theorem dX12_explains_0 : decode cX12_explains 0 = .ok (.iconst 0, 1) := by decide +kernel
theorem dX12_explains_1 : decode cX12_explains 1 = .ok (.istore_n 2, 1) := by decide +kernel
theorem dX12_explains_2 : decode cX12_explains 2 = .ok (.iload_n 2, 1) := by decide +kernel
theorem dX12_explains_3 : decode cX12_explains 3 = .ok (.aload_n 0, 1) := by decide +kernel
theorem dX12_explains_4 : decode cX12_explains 4 = .ok (.getfield 235, 3) := by decide +kernel
theorem dX12_explains_7 : decode cX12_explains 7 = .ok (.if_icmp .ge 73, 3) := by decide +kernel
theorem dX12_explains_10 : decode cX12_explains 10 = .ok (.aload_n 0, 1) := by decide +kernel
theorem dX12_explains_11 : decode cX12_explains 11 = .ok (.getfield 131, 3) := by decide +kernel
theorem dX12_explains_14 : decode cX12_explains 14 = .ok (.iload_n 2, 1) := by decide +kernel
theorem dX12_explains_15 : decode cX12_explains 15 = .ok (.baload, 1) := by decide +kernel
theorem dX12_explains_16 : decode cX12_explains 16 = .ok (.ifCond .eq 16, 3) := by decide +kernel
theorem dX12_explains_19 : decode cX12_explains 19 = .ok (.aload_n 0, 1) := by decide +kernel
theorem dX12_explains_20 : decode cX12_explains 20 = .ok (.getfield 128, 3) := by decide +kernel
theorem dX12_explains_23 : decode cX12_explains 23 = .ok (.iload_n 2, 1) := by decide +kernel
theorem dX12_explains_24 : decode cX12_explains 24 = .ok (.iaload, 1) := by decide +kernel
theorem dX12_explains_25 : decode cX12_explains 25 = .ok (.iload_n 1, 1) := by decide +kernel
theorem dX12_explains_26 : decode cX12_explains 26 = .ok (.iand, 1) := by decide +kernel
theorem dX12_explains_27 : decode cX12_explains 27 = .ok (.ifCond .ne 5, 3) := by decide +kernel
theorem dX12_explains_30 : decode cX12_explains 30 = .ok (.iconst 0, 1) := by decide +kernel
theorem dX12_explains_31 : decode cX12_explains 31 = .ok (.ireturn, 1) := by decide +kernel
theorem dX12_explains_32 : decode cX12_explains 32 = .ok (.iconst 0, 1) := by decide +kernel
theorem dX12_explains_33 : decode cX12_explains 33 = .ok (.istore_n 3, 1) := by decide +kernel
theorem dX12_explains_34 : decode cX12_explains 34 = .ok (.iload_n 3, 1) := by decide +kernel
theorem dX12_explains_35 : decode cX12_explains 35 = .ok (.iload_n 2, 1) := by decide +kernel
theorem dX12_explains_36 : decode cX12_explains 36 = .ok (.if_icmp .ge 38, 3) := by decide +kernel
theorem dX12_explains_39 : decode cX12_explains 39 = .ok (.aload_n 0, 1) := by decide +kernel
theorem dX12_explains_40 : decode cX12_explains 40 = .ok (.iload_n 2, 1) := by decide +kernel
theorem dX12_explains_41 : decode cX12_explains 41 = .ok (.iload_n 3, 1) := by decide +kernel
theorem dX12_explains_42 : decode cX12_explains 42 = .ok (.invokevirtual 245, 3) := by decide +kernel
theorem dX12_explains_45 : decode cX12_explains 45 = .ok (.ifCond .eq 23, 3) := by decide +kernel
theorem dX12_explains_48 : decode cX12_explains 48 = .ok (.aload_n 0, 1) := by decide +kernel
theorem dX12_explains_49 : decode cX12_explains 49 = .ok (.getfield 128, 3) := by decide +kernel
theorem dX12_explains_52 : decode cX12_explains 52 = .ok (.iload_n 2, 1) := by decide +kernel
theorem dX12_explains_53 : decode cX12_explains 53 = .ok (.iaload, 1) := by decide +kernel
theorem dX12_explains_54 : decode cX12_explains 54 = .ok (.aload_n 0, 1) := by decide +kernel
theorem dX12_explains_55 : decode cX12_explains 55 = .ok (.getfield 128, 3) := by decide +kernel
theorem dX12_explains_58 : decode cX12_explains 58 = .ok (.iload_n 3, 1) := by decide +kernel
theorem dX12_explains_59 : decode cX12_explains 59 = .ok (.iaload, 1) := by decide +kernel
theorem dX12_explains_60 : decode cX12_explains 60 = .ok (.ior, 1) := by decide +kernel
theorem dX12_explains_61 : decode cX12_explains 61 = .ok (.iload_n 1, 1) := by decide +kernel
theorem dX12_explains_62 : decode cX12_explains 62 = .ok (.iand, 1) := by decide +kernel
theorem dX12_explains_63 : decode cX12_explains 63 = .ok (.ifCond .ne 5, 3) := by decide +kernel
theorem dX12_explains_66 : decode cX12_explains 66 = .ok (.iconst 0, 1) := by decide +kernel
theorem dX12_explains_67 : decode cX12_explains 67 = .ok (.ireturn, 1) := by decide +kernel
theorem dX12_explains_68 : decode cX12_explains 68 = .ok (.iinc 3 1, 3) := by decide +kernel
theorem dX12_explains_71 : decode cX12_explains 71 = .ok (.goto (-37), 3) := by decide +kernel
theorem dX12_explains_74 : decode cX12_explains 74 = .ok (.iinc 2 1, 3) := by decide +kernel
theorem dX12_explains_77 : decode cX12_explains 77 = .ok (.goto (-75), 3) := by decide +kernel
theorem dX12_explains_80 : decode cX12_explains 80 = .ok (.iconst 1, 1) := by decide +kernel
theorem dX12_explains_81 : decode cX12_explains 81 = .ok (.ireturn, 1) := by decide +kernel
theorem dX12_fact_0 : decode cX12_fact 0 = .ok (.aload_n 0, 1) := by decide +kernel
theorem dX12_fact_1 : decode cX12_fact 1 = .ok (.aload_n 0, 1) := by decide +kernel
theorem dX12_fact_2 : decode cX12_fact 2 = .ok (.iload_n 1, 1) := by decide +kernel
theorem dX12_fact_3 : decode cX12_fact 3 = .ok (.invokevirtual 249, 3) := by decide +kernel
theorem dX12_fact_6 : decode cX12_fact 6 = .ok (.ifCond .eq 17, 3) := by decide +kernel
theorem dX12_fact_9 : decode cX12_fact 9 = .ok (.iload_n 2, 1) := by decide +kernel
theorem dX12_fact_10 : decode cX12_fact 10 = .ok (.iconst 0, 1) := by decide +kernel
theorem dX12_fact_11 : decode cX12_fact 11 = .ok (.bipush 19, 2) := by decide +kernel
theorem dX12_fact_13 : decode cX12_fact 13 = .ok (.invokestatic 221, 3) := by decide +kernel
theorem dX12_fact_16 : decode cX12_fact 16 = .ok (.ifCond .eq 7, 3) := by decide +kernel
theorem dX12_fact_19 : decode cX12_fact 19 = .ok (.iconst 0, 1) := by decide +kernel
theorem dX12_fact_20 : decode cX12_fact 20 = .ok (.goto 4, 3) := by decide +kernel
theorem dX12_fact_23 : decode cX12_fact 23 = .ok (.iconst 1, 1) := by decide +kernel
theorem dX12_fact_24 : decode cX12_fact 24 = .ok (.putfield 214, 3) := by decide +kernel
theorem dX12_fact_27 : decode cX12_fact 27 = .ok (.aload_n 0, 1) := by decide +kernel
theorem dX12_fact_28 : decode cX12_fact 28 = .ok (.getfield 214, 3) := by decide +kernel
theorem dX12_fact_31 : decode cX12_fact 31 = .ok (.iconst 1, 1) := by decide +kernel
theorem dX12_fact_32 : decode cX12_fact 32 = .ok (.if_icmp .ne 7, 3) := by decide +kernel
theorem dX12_fact_35 : decode cX12_fact 35 = .ok (.iconst 0, 1) := by decide +kernel
theorem dX12_fact_36 : decode cX12_fact 36 = .ok (.goto 9, 3) := by decide +kernel
theorem dX12_fact_39 : decode cX12_fact 39 = .ok (.aload_n 0, 1) := by decide +kernel
theorem dX12_fact_40 : decode cX12_fact 40 = .ok (.iload_n 1, 1) := by decide +kernel
theorem dX12_fact_41 : decode cX12_fact 41 = .ok (.iload_n 2, 1) := by decide +kernel
theorem dX12_fact_42 : decode cX12_fact 42 = .ok (.invokevirtual 252, 3) := by decide +kernel
theorem dX12_fact_45 : decode cX12_fact 45 = .ok (.ireturn, 1) := by decide +kernel
theorem dX12_fact0_0 : decode cX12_fact0 0 = .ok (.aload_n 0, 1) := by decide +kernel
theorem dX12_fact0_1 : decode cX12_fact0 1 = .ok (.getfield 277, 3) := by decide +kernel
theorem dX12_fact0_4 : decode cX12_fact0 4 = .ok (.iconst 1, 1) := by decide +kernel
theorem dX12_fact0_5 : decode cX12_fact0 5 = .ok (.if_icmp .eq 7, 3) := by decide +kernel
theorem dX12_fact0_8 : decode cX12_fact0 8 = .ok (.iconst 0, 1) := by decide +kernel
theorem dX12_fact0_9 : decode cX12_fact0 9 = .ok (.goto 21, 3) := by decide +kernel
theorem dX12_fact0_12 : decode cX12_fact0 12 = .ok (.aload_n 0, 1) := by decide +kernel
theorem dX12_fact0_13 : decode cX12_fact0 13 = .ok (.getfield 343, 3) := by decide +kernel
theorem dX12_fact0_16 : decode cX12_fact0 16 = .ok (.ifCond .eq 10, 3) := by decide +kernel
theorem dX12_fact0_19 : decode cX12_fact0 19 = .ok (.aload_n 0, 1) := by decide +kernel
theorem dX12_fact0_20 : decode cX12_fact0 20 = .ok (.invokevirtual 347, 3) := by decide +kernel
theorem dX12_fact0_23 : decode cX12_fact0 23 = .ok (.goto 7, 3) := by decide +kernel
theorem dX12_fact0_26 : decode cX12_fact0 26 = .ok (.aload_n 0, 1) := by decide +kernel
theorem dX12_fact0_27 : decode cX12_fact0 27 = .ok (.invokevirtual 351, 3) := by decide +kernel
theorem dX12_fact0_30 : decode cX12_fact0 30 = .ok (.ireturn, 1) := by decide +kernel
theorem dX12_factOf_0 : decode cX12_factOf 0 = .ok (.aload_n 0, 1) := by decide +kernel
theorem dX12_factOf_1 : decode cX12_factOf 1 = .ok (.aload_n 0, 1) := by decide +kernel
theorem dX12_factOf_2 : decode cX12_factOf 2 = .ok (.getfield 31, 3) := by decide +kernel
theorem dX12_factOf_5 : decode cX12_factOf 5 = .ok (.iload_n 1, 1) := by decide +kernel
theorem dX12_factOf_6 : decode cX12_factOf 6 = .ok (.iaload, 1) := by decide +kernel
theorem dX12_factOf_7 : decode cX12_factOf 7 = .ok (.aload_n 0, 1) := by decide +kernel
theorem dX12_factOf_8 : decode cX12_factOf 8 = .ok (.getfield 37, 3) := by decide +kernel
theorem dX12_factOf_11 : decode cX12_factOf 11 = .ok (.iload_n 1, 1) := by decide +kernel
theorem dX12_factOf_12 : decode cX12_factOf 12 = .ok (.iaload, 1) := by decide +kernel
theorem dX12_factOf_13 : decode cX12_factOf 13 = .ok (.aload_n 0, 1) := by decide +kernel
theorem dX12_factOf_14 : decode cX12_factOf 14 = .ok (.getfield 40, 3) := by decide +kernel
theorem dX12_factOf_17 : decode cX12_factOf 17 = .ok (.iload_n 1, 1) := by decide +kernel
theorem dX12_factOf_18 : decode cX12_factOf 18 = .ok (.iaload, 1) := by decide +kernel
theorem dX12_factOf_19 : decode cX12_factOf 19 = .ok (.invokevirtual 231, 3) := by decide +kernel
theorem dX12_factOf_22 : decode cX12_factOf 22 = .ok (.istore_n 3, 1) := by decide +kernel
theorem dX12_factOf_23 : decode cX12_factOf 23 = .ok (.iconst 1, 1) := by decide +kernel
theorem dX12_factOf_24 : decode cX12_factOf 24 = .ok (.aload_n 0, 1) := by decide +kernel
theorem dX12_factOf_25 : decode cX12_factOf 25 = .ok (.getfield 43, 3) := by decide +kernel
theorem dX12_factOf_28 : decode cX12_factOf 28 = .ok (.iload_n 1, 1) := by decide +kernel
theorem dX12_factOf_29 : decode cX12_factOf 29 = .ok (.iaload, 1) := by decide +kernel
theorem dX12_factOf_30 : decode cX12_factOf 30 = .ok (.ishl, 1) := by decide +kernel
theorem dX12_factOf_31 : decode cX12_factOf 31 = .ok (.istore 4, 2) := by decide +kernel
theorem dX12_factOf_33 : decode cX12_factOf 33 = .ok (.iconst 0, 1) := by decide +kernel
theorem dX12_factOf_34 : decode cX12_factOf 34 = .ok (.istore 5, 2) := by decide +kernel
theorem dX12_factOf_36 : decode cX12_factOf 36 = .ok (.iload_n 2, 1) := by decide +kernel
theorem dX12_factOf_37 : decode cX12_factOf 37 = .ok (.tableswitch 277 8 19 #[63, 69, 76, 83, 90, 140, 152, 208, 215, 256, 263, 270], 63) := by decide +kernel
theorem dX12_factOf_100 : decode cX12_factOf 100 = .ok (.aload_n 0, 1) := by decide +kernel
theorem dX12_factOf_101 : decode cX12_factOf 101 = .ok (.iload_n 1, 1) := by decide +kernel
theorem dX12_factOf_102 : decode cX12_factOf 102 = .ok (.invokevirtual 238, 3) := by decide +kernel
theorem dX12_factOf_105 : decode cX12_factOf 105 = .ok (.ireturn, 1) := by decide +kernel
theorem dX12_factOf_106 : decode cX12_factOf 106 = .ok (.aload_n 0, 1) := by decide +kernel
theorem dX12_factOf_107 : decode cX12_factOf 107 = .ok (.getfield 34, 3) := by decide +kernel
theorem dX12_factOf_110 : decode cX12_factOf 110 = .ok (.iload_n 1, 1) := by decide +kernel
theorem dX12_factOf_111 : decode cX12_factOf 111 = .ok (.iaload, 1) := by decide +kernel
theorem dX12_factOf_112 : decode cX12_factOf 112 = .ok (.ireturn, 1) := by decide +kernel
theorem dX12_factOf_113 : decode cX12_factOf 113 = .ok (.aload_n 0, 1) := by decide +kernel
theorem dX12_factOf_114 : decode cX12_factOf 114 = .ok (.getfield 40, 3) := by decide +kernel
theorem dX12_factOf_117 : decode cX12_factOf 117 = .ok (.iload_n 1, 1) := by decide +kernel
theorem dX12_factOf_118 : decode cX12_factOf 118 = .ok (.iaload, 1) := by decide +kernel
theorem dX12_factOf_119 : decode cX12_factOf 119 = .ok (.ireturn, 1) := by decide +kernel
theorem dX12_factOf_120 : decode cX12_factOf 120 = .ok (.aload_n 0, 1) := by decide +kernel
theorem dX12_factOf_121 : decode cX12_factOf 121 = .ok (.getfield 49, 3) := by decide +kernel
theorem dX12_factOf_124 : decode cX12_factOf 124 = .ok (.iload_n 1, 1) := by decide +kernel
theorem dX12_factOf_125 : decode cX12_factOf 125 = .ok (.iaload, 1) := by decide +kernel
theorem dX12_factOf_126 : decode cX12_factOf 126 = .ok (.ireturn, 1) := by decide +kernel
theorem dX12_factOf_127 : decode cX12_factOf 127 = .ok (.iconst 0, 1) := by decide +kernel
theorem dX12_factOf_128 : decode cX12_factOf 128 = .ok (.istore 6, 2) := by decide +kernel
theorem dX12_factOf_130 : decode cX12_factOf 130 = .ok (.iload 6, 2) := by decide +kernel
theorem dX12_factOf_132 : decode cX12_factOf 132 = .ok (.iload_n 1, 1) := by decide +kernel
theorem dX12_factOf_133 : decode cX12_factOf 133 = .ok (.if_icmp .ge 33, 3) := by decide +kernel
theorem dX12_factOf_136 : decode cX12_factOf 136 = .ok (.iload 5, 2) := by decide +kernel
theorem dX12_factOf_138 : decode cX12_factOf 138 = .ok (.aload_n 0, 1) := by decide +kernel
theorem dX12_factOf_139 : decode cX12_factOf 139 = .ok (.iload 6, 2) := by decide +kernel
theorem dX12_factOf_141 : decode cX12_factOf 141 = .ok (.invokevirtual 238, 3) := by decide +kernel
theorem dX12_factOf_144 : decode cX12_factOf 144 = .ok (.aload_n 0, 1) := by decide +kernel
theorem dX12_factOf_145 : decode cX12_factOf 145 = .ok (.iload_n 1, 1) := by decide +kernel
theorem dX12_factOf_146 : decode cX12_factOf 146 = .ok (.invokevirtual 238, 3) := by decide +kernel
theorem dX12_factOf_149 : decode cX12_factOf 149 = .ok (.if_icmp .lt 7, 3) := by decide +kernel
theorem dX12_factOf_152 : decode cX12_factOf 152 = .ok (.iconst 1, 1) := by decide +kernel
theorem dX12_factOf_153 : decode cX12_factOf 153 = .ok (.goto 4, 3) := by decide +kernel
theorem dX12_factOf_156 : decode cX12_factOf 156 = .ok (.iconst 0, 1) := by decide +kernel
theorem dX12_factOf_157 : decode cX12_factOf 157 = .ok (.iadd, 1) := by decide +kernel
theorem dX12_factOf_158 : decode cX12_factOf 158 = .ok (.istore 5, 2) := by decide +kernel
theorem dX12_factOf_160 : decode cX12_factOf 160 = .ok (.iinc 6 1, 3) := by decide +kernel
theorem dX12_factOf_163 : decode cX12_factOf 163 = .ok (.goto (-33), 3) := by decide +kernel
theorem dX12_factOf_166 : decode cX12_factOf 166 = .ok (.iload 5, 2) := by decide +kernel
theorem dX12_factOf_168 : decode cX12_factOf 168 = .ok (.ifCond .ne 7, 3) := by decide +kernel
theorem dX12_factOf_171 : decode cX12_factOf 171 = .ok (.iconst 1, 1) := by decide +kernel
theorem dX12_factOf_172 : decode cX12_factOf 172 = .ok (.goto 4, 3) := by decide +kernel
theorem dX12_factOf_175 : decode cX12_factOf 175 = .ok (.iconst 0, 1) := by decide +kernel
theorem dX12_factOf_176 : decode cX12_factOf 176 = .ok (.ireturn, 1) := by decide +kernel
theorem dX12_factOf_177 : decode cX12_factOf 177 = .ok (.iload_n 3, 1) := by decide +kernel
theorem dX12_factOf_178 : decode cX12_factOf 178 = .ok (.iload 4, 2) := by decide +kernel
theorem dX12_factOf_180 : decode cX12_factOf 180 = .ok (.if_icmp .ne 7, 3) := by decide +kernel
theorem dX12_factOf_183 : decode cX12_factOf 183 = .ok (.iconst 1, 1) := by decide +kernel
theorem dX12_factOf_184 : decode cX12_factOf 184 = .ok (.goto 4, 3) := by decide +kernel
theorem dX12_factOf_187 : decode cX12_factOf 187 = .ok (.iconst 0, 1) := by decide +kernel
theorem dX12_factOf_188 : decode cX12_factOf 188 = .ok (.ireturn, 1) := by decide +kernel
theorem dX12_factOf_189 : decode cX12_factOf 189 = .ok (.iconst 0, 1) := by decide +kernel
theorem dX12_factOf_190 : decode cX12_factOf 190 = .ok (.istore 6, 2) := by decide +kernel
theorem dX12_factOf_192 : decode cX12_factOf 192 = .ok (.iload 6, 2) := by decide +kernel
theorem dX12_factOf_194 : decode cX12_factOf 194 = .ok (.aload_n 0, 1) := by decide +kernel
theorem dX12_factOf_195 : decode cX12_factOf 195 = .ok (.getfield 40, 3) := by decide +kernel
theorem dX12_factOf_198 : decode cX12_factOf 198 = .ok (.iload_n 1, 1) := by decide +kernel
theorem dX12_factOf_199 : decode cX12_factOf 199 = .ok (.iaload, 1) := by decide +kernel
theorem dX12_factOf_200 : decode cX12_factOf 200 = .ok (.if_icmp .ge 42, 3) := by decide +kernel
theorem dX12_factOf_203 : decode cX12_factOf 203 = .ok (.iload 5, 2) := by decide +kernel
theorem dX12_factOf_205 : decode cX12_factOf 205 = .ok (.aload_n 0, 1) := by decide +kernel
theorem dX12_factOf_206 : decode cX12_factOf 206 = .ok (.aload_n 0, 1) := by decide +kernel
theorem dX12_factOf_207 : decode cX12_factOf 207 = .ok (.getfield 31, 3) := by decide +kernel
theorem dX12_factOf_210 : decode cX12_factOf 210 = .ok (.iload_n 1, 1) := by decide +kernel
theorem dX12_factOf_211 : decode cX12_factOf 211 = .ok (.iaload, 1) := by decide +kernel
theorem dX12_factOf_212 : decode cX12_factOf 212 = .ok (.aload_n 0, 1) := by decide +kernel
theorem dX12_factOf_213 : decode cX12_factOf 213 = .ok (.getfield 37, 3) := by decide +kernel
theorem dX12_factOf_216 : decode cX12_factOf 216 = .ok (.iload_n 1, 1) := by decide +kernel
theorem dX12_factOf_217 : decode cX12_factOf 217 = .ok (.iaload, 1) := by decide +kernel
theorem dX12_factOf_218 : decode cX12_factOf 218 = .ok (.iload 6, 2) := by decide +kernel
theorem dX12_factOf_220 : decode cX12_factOf 220 = .ok (.invokevirtual 231, 3) := by decide +kernel
theorem dX12_factOf_223 : decode cX12_factOf 223 = .ok (.iload 4, 2) := by decide +kernel
theorem dX12_factOf_225 : decode cX12_factOf 225 = .ok (.if_icmp .ne 7, 3) := by decide +kernel
theorem dX12_factOf_228 : decode cX12_factOf 228 = .ok (.iconst 1, 1) := by decide +kernel
theorem dX12_factOf_229 : decode cX12_factOf 229 = .ok (.goto 4, 3) := by decide +kernel
theorem dX12_factOf_232 : decode cX12_factOf 232 = .ok (.iconst 0, 1) := by decide +kernel
theorem dX12_factOf_233 : decode cX12_factOf 233 = .ok (.iadd, 1) := by decide +kernel
theorem dX12_factOf_234 : decode cX12_factOf 234 = .ok (.istore 5, 2) := by decide +kernel
theorem dX12_factOf_236 : decode cX12_factOf 236 = .ok (.iinc 6 1, 3) := by decide +kernel
theorem dX12_factOf_239 : decode cX12_factOf 239 = .ok (.goto (-47), 3) := by decide +kernel
theorem dX12_factOf_242 : decode cX12_factOf 242 = .ok (.iload 5, 2) := by decide +kernel
theorem dX12_factOf_244 : decode cX12_factOf 244 = .ok (.ireturn, 1) := by decide +kernel
theorem dX12_factOf_245 : decode cX12_factOf 245 = .ok (.iload_n 3, 1) := by decide +kernel
theorem dX12_factOf_246 : decode cX12_factOf 246 = .ok (.invokestatic 242, 3) := by decide +kernel
theorem dX12_factOf_249 : decode cX12_factOf 249 = .ok (.iconst 1, 1) := by decide +kernel
theorem dX12_factOf_250 : decode cX12_factOf 250 = .ok (.isub, 1) := by decide +kernel
theorem dX12_factOf_251 : decode cX12_factOf 251 = .ok (.ireturn, 1) := by decide +kernel
theorem dX12_factOf_252 : decode cX12_factOf 252 = .ok (.iconst 0, 1) := by decide +kernel
theorem dX12_factOf_253 : decode cX12_factOf 253 = .ok (.istore 6, 2) := by decide +kernel
theorem dX12_factOf_255 : decode cX12_factOf 255 = .ok (.iload 6, 2) := by decide +kernel
theorem dX12_factOf_257 : decode cX12_factOf 257 = .ok (.aload_n 0, 1) := by decide +kernel
theorem dX12_factOf_258 : decode cX12_factOf 258 = .ok (.getfield 235, 3) := by decide +kernel
theorem dX12_factOf_261 : decode cX12_factOf 261 = .ok (.if_icmp .ge 29, 3) := by decide +kernel
theorem dX12_factOf_264 : decode cX12_factOf 264 = .ok (.iload 5, 2) := by decide +kernel
theorem dX12_factOf_266 : decode cX12_factOf 266 = .ok (.aload_n 0, 1) := by decide +kernel
theorem dX12_factOf_267 : decode cX12_factOf 267 = .ok (.iload_n 1, 1) := by decide +kernel
theorem dX12_factOf_268 : decode cX12_factOf 268 = .ok (.iload 6, 2) := by decide +kernel
theorem dX12_factOf_270 : decode cX12_factOf 270 = .ok (.invokevirtual 245, 3) := by decide +kernel
theorem dX12_factOf_273 : decode cX12_factOf 273 = .ok (.ifCond .eq 7, 3) := by decide +kernel
theorem dX12_factOf_276 : decode cX12_factOf 276 = .ok (.iconst 1, 1) := by decide +kernel
theorem dX12_factOf_277 : decode cX12_factOf 277 = .ok (.goto 4, 3) := by decide +kernel
theorem dX12_factOf_280 : decode cX12_factOf 280 = .ok (.iconst 0, 1) := by decide +kernel
theorem dX12_factOf_281 : decode cX12_factOf 281 = .ok (.iadd, 1) := by decide +kernel
theorem dX12_factOf_282 : decode cX12_factOf 282 = .ok (.istore 5, 2) := by decide +kernel
theorem dX12_factOf_284 : decode cX12_factOf 284 = .ok (.iinc 6 1, 3) := by decide +kernel
theorem dX12_factOf_287 : decode cX12_factOf 287 = .ok (.goto (-32), 3) := by decide +kernel
theorem dX12_factOf_290 : decode cX12_factOf 290 = .ok (.iload 5, 2) := by decide +kernel
theorem dX12_factOf_292 : decode cX12_factOf 292 = .ok (.ireturn, 1) := by decide +kernel
theorem dX12_factOf_293 : decode cX12_factOf 293 = .ok (.aload_n 0, 1) := by decide +kernel
theorem dX12_factOf_294 : decode cX12_factOf 294 = .ok (.getfield 31, 3) := by decide +kernel
theorem dX12_factOf_297 : decode cX12_factOf 297 = .ok (.iload_n 1, 1) := by decide +kernel
theorem dX12_factOf_298 : decode cX12_factOf 298 = .ok (.iaload, 1) := by decide +kernel
theorem dX12_factOf_299 : decode cX12_factOf 299 = .ok (.ireturn, 1) := by decide +kernel
theorem dX12_factOf_300 : decode cX12_factOf 300 = .ok (.aload_n 0, 1) := by decide +kernel
theorem dX12_factOf_301 : decode cX12_factOf 301 = .ok (.getfield 37, 3) := by decide +kernel
theorem dX12_factOf_304 : decode cX12_factOf 304 = .ok (.iload_n 1, 1) := by decide +kernel
theorem dX12_factOf_305 : decode cX12_factOf 305 = .ok (.iaload, 1) := by decide +kernel
theorem dX12_factOf_306 : decode cX12_factOf 306 = .ok (.ireturn, 1) := by decide +kernel
theorem dX12_factOf_307 : decode cX12_factOf 307 = .ok (.aload_n 0, 1) := by decide +kernel
theorem dX12_factOf_308 : decode cX12_factOf 308 = .ok (.getfield 43, 3) := by decide +kernel
theorem dX12_factOf_311 : decode cX12_factOf 311 = .ok (.iload_n 1, 1) := by decide +kernel
theorem dX12_factOf_312 : decode cX12_factOf 312 = .ok (.iaload, 1) := by decide +kernel
theorem dX12_factOf_313 : decode cX12_factOf 313 = .ok (.ireturn, 1) := by decide +kernel
theorem dX12_factOf_314 : decode cX12_factOf 314 = .ok (.aload_n 0, 1) := by decide +kernel
theorem dX12_factOf_315 : decode cX12_factOf 315 = .ok (.getfield 46, 3) := by decide +kernel
theorem dX12_factOf_318 : decode cX12_factOf 318 = .ok (.iload_n 1, 1) := by decide +kernel
theorem dX12_factOf_319 : decode cX12_factOf 319 = .ok (.iaload, 1) := by decide +kernel
theorem dX12_factOf_320 : decode cX12_factOf 320 = .ok (.iload_n 2, 1) := by decide +kernel
theorem dX12_factOf_321 : decode cX12_factOf 321 = .ok (.ishr, 1) := by decide +kernel
theorem dX12_factOf_322 : decode cX12_factOf 322 = .ok (.iconst 1, 1) := by decide +kernel
theorem dX12_factOf_323 : decode cX12_factOf 323 = .ok (.iand, 1) := by decide +kernel
theorem dX12_factOf_324 : decode cX12_factOf 324 = .ok (.ireturn, 1) := by decide +kernel
theorem dX12_fails_0 : decode cX12_fails 0 = .ok (.aload_n 0, 1) := by decide +kernel
theorem dX12_fails_1 : decode cX12_fails 1 = .ok (.iload_n 1, 1) := by decide +kernel
theorem dX12_fails_2 : decode cX12_fails 2 = .ok (.bipush 16, 2) := by decide +kernel
theorem dX12_fails_4 : decode cX12_fails 4 = .ok (.aload_n 0, 1) := by decide +kernel
theorem dX12_fails_5 : decode cX12_fails 5 = .ok (.getfield 267, 3) := by decide +kernel
theorem dX12_fails_8 : decode cX12_fails 8 = .ok (.imul, 1) := by decide +kernel
theorem dX12_fails_9 : decode cX12_fails 9 = .ok (.iadd, 1) := by decide +kernel
theorem dX12_fails_10 : decode cX12_fails 10 = .ok (.putfield 287, 3) := by decide +kernel
theorem dX12_fails_13 : decode cX12_fails 13 = .ok (.iconst 0, 1) := by decide +kernel
theorem dX12_fails_14 : decode cX12_fails 14 = .ok (.ireturn, 1) := by decide +kernel
theorem dX12_falls_0 : decode cX12_falls 0 = .ok (.lconst 1, 1) := by decide +kernel
theorem dX12_falls_1 : decode cX12_falls 1 = .ok (.iload_n 3, 1) := by decide +kernel
theorem dX12_falls_2 : decode cX12_falls 2 = .ok (.lshl, 1) := by decide +kernel
theorem dX12_falls_3 : decode cX12_falls 3 = .ok (.lconst 1, 1) := by decide +kernel
theorem dX12_falls_4 : decode cX12_falls 4 = .ok (.iload 4, 2) := by decide +kernel
theorem dX12_falls_6 : decode cX12_falls 6 = .ok (.lshl, 1) := by decide +kernel
theorem dX12_falls_7 : decode cX12_falls 7 = .ok (.lor, 1) := by decide +kernel
theorem dX12_falls_8 : decode cX12_falls 8 = .ok (.lconst 1, 1) := by decide +kernel
theorem dX12_falls_9 : decode cX12_falls 9 = .ok (.iload 5, 2) := by decide +kernel
theorem dX12_falls_11 : decode cX12_falls 11 = .ok (.lshl, 1) := by decide +kernel
theorem dX12_falls_12 : decode cX12_falls 12 = .ok (.lor, 1) := by decide +kernel
theorem dX12_falls_13 : decode cX12_falls 13 = .ok (.lstore 6, 2) := by decide +kernel
theorem dX12_falls_15 : decode cX12_falls 15 = .ok (.aload_n 0, 1) := by decide +kernel
theorem dX12_falls_16 : decode cX12_falls 16 = .ok (.lload 6, 2) := by decide +kernel
theorem dX12_falls_18 : decode cX12_falls 18 = .ok (.invokevirtual 515, 3) := by decide +kernel
theorem dX12_falls_21 : decode cX12_falls 21 = .ok (.iload_n 1, 1) := by decide +kernel
theorem dX12_falls_22 : decode cX12_falls 22 = .ok (.ishr, 1) := by decide +kernel
theorem dX12_falls_23 : decode cX12_falls 23 = .ok (.iconst 1, 1) := by decide +kernel
theorem dX12_falls_24 : decode cX12_falls 24 = .ok (.iand, 1) := by decide +kernel
theorem dX12_falls_25 : decode cX12_falls 25 = .ok (.iconst 1, 1) := by decide +kernel
theorem dX12_falls_26 : decode cX12_falls 26 = .ok (.if_icmp .ne 5, 3) := by decide +kernel
theorem dX12_falls_29 : decode cX12_falls 29 = .ok (.iconst 0, 1) := by decide +kernel
theorem dX12_falls_30 : decode cX12_falls 30 = .ok (.ireturn, 1) := by decide +kernel
theorem dX12_falls_31 : decode cX12_falls 31 = .ok (.aload_n 0, 1) := by decide +kernel
theorem dX12_falls_32 : decode cX12_falls 32 = .ok (.iload_n 2, 1) := by decide +kernel
theorem dX12_falls_33 : decode cX12_falls 33 = .ok (.putfield 519, 3) := by decide +kernel
theorem dX12_falls_36 : decode cX12_falls 36 = .ok (.aload_n 0, 1) := by decide +kernel
theorem dX12_falls_37 : decode cX12_falls 37 = .ok (.getfield 144, 3) := by decide +kernel
theorem dX12_falls_40 : decode cX12_falls 40 = .ok (.iconst 0, 1) := by decide +kernel
theorem dX12_falls_41 : decode cX12_falls 41 = .ok (.iload_n 3, 1) := by decide +kernel
theorem dX12_falls_42 : decode cX12_falls 42 = .ok (.iastore, 1) := by decide +kernel
theorem dX12_falls_43 : decode cX12_falls 43 = .ok (.aload_n 0, 1) := by decide +kernel
theorem dX12_falls_44 : decode cX12_falls 44 = .ok (.getfield 144, 3) := by decide +kernel
theorem dX12_falls_47 : decode cX12_falls 47 = .ok (.iconst 1, 1) := by decide +kernel
theorem dX12_falls_48 : decode cX12_falls 48 = .ok (.iload 4, 2) := by decide +kernel
theorem dX12_falls_50 : decode cX12_falls 50 = .ok (.iastore, 1) := by decide +kernel
theorem dX12_falls_51 : decode cX12_falls 51 = .ok (.aload_n 0, 1) := by decide +kernel
theorem dX12_falls_52 : decode cX12_falls 52 = .ok (.getfield 144, 3) := by decide +kernel
theorem dX12_falls_55 : decode cX12_falls 55 = .ok (.iconst 2, 1) := by decide +kernel
theorem dX12_falls_56 : decode cX12_falls 56 = .ok (.iload 5, 2) := by decide +kernel
theorem dX12_falls_58 : decode cX12_falls 58 = .ok (.iastore, 1) := by decide +kernel
theorem dX12_falls_59 : decode cX12_falls 59 = .ok (.iconst 1, 1) := by decide +kernel
theorem dX12_falls_60 : decode cX12_falls 60 = .ok (.ireturn, 1) := by decide +kernel
theorem dX12_feed_0 : decode cX12_feed 0 = .ok (.aload_n 0, 1) := by decide +kernel
theorem dX12_feed_1 : decode cX12_feed 1 = .ok (.iconst 0, 1) := by decide +kernel
theorem dX12_feed_2 : decode cX12_feed 2 = .ok (.putfield 214, 3) := by decide +kernel
theorem dX12_feed_5 : decode cX12_feed 5 = .ok (.iconst 0, 1) := by decide +kernel
theorem dX12_feed_6 : decode cX12_feed 6 = .ok (.istore 7, 2) := by decide +kernel
theorem dX12_feed_8 : decode cX12_feed 8 = .ok (.iload 7, 2) := by decide +kernel
theorem dX12_feed_10 : decode cX12_feed 10 = .ok (.bipush 24, 2) := by decide +kernel
theorem dX12_feed_12 : decode cX12_feed 12 = .ok (.if_icmp .ge 108, 3) := by decide +kernel
theorem dX12_feed_15 : decode cX12_feed 15 = .ok (.iload 7, 2) := by decide +kernel
theorem dX12_feed_17 : decode cX12_feed 17 = .ok (.bipush 8, 2) := by decide +kernel
theorem dX12_feed_19 : decode cX12_feed 19 = .ok (.if_icmp .ge 7, 3) := by decide +kernel
theorem dX12_feed_22 : decode cX12_feed 22 = .ok (.lload_n 1, 1) := by decide +kernel
theorem dX12_feed_23 : decode cX12_feed 23 = .ok (.goto 16, 3) := by decide +kernel
theorem dX12_feed_26 : decode cX12_feed 26 = .ok (.iload 7, 2) := by decide +kernel
theorem dX12_feed_28 : decode cX12_feed 28 = .ok (.bipush 16, 2) := by decide +kernel
theorem dX12_feed_30 : decode cX12_feed 30 = .ok (.if_icmp .ge 7, 3) := by decide +kernel
theorem dX12_feed_33 : decode cX12_feed 33 = .ok (.lload_n 3, 1) := by decide +kernel
theorem dX12_feed_34 : decode cX12_feed 34 = .ok (.goto 5, 3) := by decide +kernel
theorem dX12_feed_37 : decode cX12_feed 37 = .ok (.lload 5, 2) := by decide +kernel
theorem dX12_feed_39 : decode cX12_feed 39 = .ok (.lstore 8, 2) := by decide +kernel
theorem dX12_feed_41 : decode cX12_feed 41 = .ok (.lload 8, 2) := by decide +kernel
theorem dX12_feed_43 : decode cX12_feed 43 = .ok (.bipush 56, 2) := by decide +kernel
theorem dX12_feed_45 : decode cX12_feed 45 = .ok (.bipush 8, 2) := by decide +kernel
theorem dX12_feed_47 : decode cX12_feed 47 = .ok (.iload 7, 2) := by decide +kernel
theorem dX12_feed_49 : decode cX12_feed 49 = .ok (.bipush 7, 2) := by decide +kernel
theorem dX12_feed_51 : decode cX12_feed 51 = .ok (.iand, 1) := by decide +kernel
theorem dX12_feed_52 : decode cX12_feed 52 = .ok (.imul, 1) := by decide +kernel
theorem dX12_feed_53 : decode cX12_feed 53 = .ok (.isub, 1) := by decide +kernel
theorem dX12_feed_54 : decode cX12_feed 54 = .ok (.lushr, 1) := by decide +kernel
theorem dX12_feed_55 : decode cX12_feed 55 = .ok (.ldc2_w 256, 3) := by decide +kernel
theorem dX12_feed_58 : decode cX12_feed 58 = .ok (.land, 1) := by decide +kernel
theorem dX12_feed_59 : decode cX12_feed 59 = .ok (.l2i, 1) := by decide +kernel
theorem dX12_feed_60 : decode cX12_feed 60 = .ok (.istore 10, 2) := by decide +kernel
theorem dX12_feed_62 : decode cX12_feed 62 = .ok (.aload_n 0, 1) := by decide +kernel
theorem dX12_feed_63 : decode cX12_feed 63 = .ok (.getfield 258, 3) := by decide +kernel
theorem dX12_feed_66 : decode cX12_feed 66 = .ok (.sipush 1000, 3) := by decide +kernel
theorem dX12_feed_69 : decode cX12_feed 69 = .ok (.if_icmp .ge 45, 3) := by decide +kernel
theorem dX12_feed_72 : decode cX12_feed 72 = .ok (.iload 10, 2) := by decide +kernel
theorem dX12_feed_74 : decode cX12_feed 74 = .ok (.bipush 10, 2) := by decide +kernel
theorem dX12_feed_76 : decode cX12_feed 76 = .ok (.if_icmp .eq 17, 3) := by decide +kernel
theorem dX12_feed_79 : decode cX12_feed 79 = .ok (.iload 10, 2) := by decide +kernel
theorem dX12_feed_81 : decode cX12_feed 81 = .ok (.bipush 32, 2) := by decide +kernel
theorem dX12_feed_83 : decode cX12_feed 83 = .ok (.if_icmp .lt 31, 3) := by decide +kernel
theorem dX12_feed_86 : decode cX12_feed 86 = .ok (.iload 10, 2) := by decide +kernel
theorem dX12_feed_88 : decode cX12_feed 88 = .ok (.bipush 126, 2) := by decide +kernel
theorem dX12_feed_90 : decode cX12_feed 90 = .ok (.if_icmp .gt 24, 3) := by decide +kernel
theorem dX12_feed_93 : decode cX12_feed 93 = .ok (.aload_n 0, 1) := by decide +kernel
theorem dX12_feed_94 : decode cX12_feed 94 = .ok (.getfield 52, 3) := by decide +kernel
theorem dX12_feed_97 : decode cX12_feed 97 = .ok (.aload_n 0, 1) := by decide +kernel
theorem dX12_feed_98 : decode cX12_feed 98 = .ok (.getfield 258, 3) := by decide +kernel
theorem dX12_feed_101 : decode cX12_feed 101 = .ok (.iload 10, 2) := by decide +kernel
theorem dX12_feed_103 : decode cX12_feed 103 = .ok (.iastore, 1) := by decide +kernel
theorem dX12_feed_104 : decode cX12_feed 104 = .ok (.aload_n 0, 1) := by decide +kernel
theorem dX12_feed_105 : decode cX12_feed 105 = .ok (.dup, 1) := by decide +kernel
theorem dX12_feed_106 : decode cX12_feed 106 = .ok (.getfield 258, 3) := by decide +kernel
theorem dX12_feed_109 : decode cX12_feed 109 = .ok (.iconst 1, 1) := by decide +kernel
theorem dX12_feed_110 : decode cX12_feed 110 = .ok (.iadd, 1) := by decide +kernel
theorem dX12_feed_111 : decode cX12_feed 111 = .ok (.putfield 258, 3) := by decide +kernel
theorem dX12_feed_114 : decode cX12_feed 114 = .ok (.iinc 7 1, 3) := by decide +kernel
theorem dX12_feed_117 : decode cX12_feed 117 = .ok (.goto (-109), 3) := by decide +kernel
theorem dX12_feed_120 : decode cX12_feed 120 = .ok (.aload_n 0, 1) := by decide +kernel
theorem dX12_feed_121 : decode cX12_feed 121 = .ok (.getfield 258, 3) := by decide +kernel
theorem dX12_feed_124 : decode cX12_feed 124 = .ok (.ireturn, 1) := by decide +kernel
theorem dX12_find_0 : decode cX12_find 0 = .ok (.aload_n 0, 1) := by decide +kernel
theorem dX12_find_1 : decode cX12_find 1 = .ok (.iconst 0, 1) := by decide +kernel
theorem dX12_find_2 : decode cX12_find 2 = .ok (.putfield 214, 3) := by decide +kernel
theorem dX12_find_5 : decode cX12_find 5 = .ok (.iload_n 1, 1) := by decide +kernel
theorem dX12_find_6 : decode cX12_find 6 = .ok (.invokestatic 217, 3) := by decide +kernel
theorem dX12_find_9 : decode cX12_find 9 = .ok (.ifCond .eq 89, 3) := by decide +kernel
theorem dX12_find_12 : decode cX12_find 12 = .ok (.iload_n 2, 1) := by decide +kernel
theorem dX12_find_13 : decode cX12_find 13 = .ok (.iconst 0, 1) := by decide +kernel
theorem dX12_find_14 : decode cX12_find 14 = .ok (.bipush 9, 2) := by decide +kernel
theorem dX12_find_16 : decode cX12_find 16 = .ok (.invokestatic 221, 3) := by decide +kernel
theorem dX12_find_19 : decode cX12_find 19 = .ok (.ifCond .eq 79, 3) := by decide +kernel
theorem dX12_find_22 : decode cX12_find 22 = .ok (.aload_n 0, 1) := by decide +kernel
theorem dX12_find_23 : decode cX12_find 23 = .ok (.getfield 7, 3) := by decide +kernel
theorem dX12_find_26 : decode cX12_find 26 = .ok (.bipush 10, 2) := by decide +kernel
theorem dX12_find_28 : decode cX12_find 28 = .ok (.iload_n 1, 1) := by decide +kernel
theorem dX12_find_29 : decode cX12_find 29 = .ok (.imul, 1) := by decide +kernel
theorem dX12_find_30 : decode cX12_find 30 = .ok (.iload_n 2, 1) := by decide +kernel
theorem dX12_find_31 : decode cX12_find 31 = .ok (.iadd, 1) := by decide +kernel
theorem dX12_find_32 : decode cX12_find 32 = .ok (.iaload, 1) := by decide +kernel
theorem dX12_find_33 : decode cX12_find 33 = .ok (.ifCond .lt 65, 3) := by decide +kernel
theorem dX12_find_36 : decode cX12_find 36 = .ok (.iload_n 3, 1) := by decide +kernel
theorem dX12_find_37 : decode cX12_find 37 = .ok (.iconst 0, 1) := by decide +kernel
theorem dX12_find_38 : decode cX12_find 38 = .ok (.sipush 999, 3) := by decide +kernel
theorem dX12_find_41 : decode cX12_find 41 = .ok (.invokestatic 221, 3) := by decide +kernel
theorem dX12_find_44 : decode cX12_find 44 = .ok (.ifCond .eq 54, 3) := by decide +kernel
theorem dX12_find_47 : decode cX12_find 47 = .ok (.iload 4, 2) := by decide +kernel
theorem dX12_find_49 : decode cX12_find 49 = .ok (.iconst 0, 1) := by decide +kernel
theorem dX12_find_50 : decode cX12_find 50 = .ok (.bipush 23, 2) := by decide +kernel
theorem dX12_find_52 : decode cX12_find 52 = .ok (.invokestatic 221, 3) := by decide +kernel
theorem dX12_find_55 : decode cX12_find 55 = .ok (.ifCond .eq 43, 3) := by decide +kernel
theorem dX12_find_58 : decode cX12_find 58 = .ok (.iload 5, 2) := by decide +kernel
theorem dX12_find_60 : decode cX12_find 60 = .ok (.invokestatic 225, 3) := by decide +kernel
theorem dX12_find_63 : decode cX12_find 63 = .ok (.ifCond .eq 35, 3) := by decide +kernel
theorem dX12_find_66 : decode cX12_find 66 = .ok (.iload 6, 2) := by decide +kernel
theorem dX12_find_68 : decode cX12_find 68 = .ok (.iconst 0, 1) := by decide +kernel
theorem dX12_find_69 : decode cX12_find 69 = .ok (.sipush 255, 3) := by decide +kernel
theorem dX12_find_72 : decode cX12_find 72 = .ok (.invokestatic 221, 3) := by decide +kernel
theorem dX12_find_75 : decode cX12_find 75 = .ok (.ifCond .eq 23, 3) := by decide +kernel
theorem dX12_find_78 : decode cX12_find 78 = .ok (.iload 7, 2) := by decide +kernel
theorem dX12_find_80 : decode cX12_find 80 = .ok (.iconst 0, 1) := by decide +kernel
theorem dX12_find_81 : decode cX12_find 81 = .ok (.bipush 99, 2) := by decide +kernel
theorem dX12_find_83 : decode cX12_find 83 = .ok (.invokestatic 221, 3) := by decide +kernel
theorem dX12_find_86 : decode cX12_find 86 = .ok (.ifCond .eq 12, 3) := by decide +kernel
theorem dX12_find_89 : decode cX12_find 89 = .ok (.aload_n 0, 1) := by decide +kernel
theorem dX12_find_90 : decode cX12_find 90 = .ok (.getfield 235, 3) := by decide +kernel
theorem dX12_find_93 : decode cX12_find 93 = .ok (.bipush 40, 2) := by decide +kernel
theorem dX12_find_95 : decode cX12_find 95 = .ok (.if_icmp .ne 5, 3) := by decide +kernel
theorem dX12_find_98 : decode cX12_find 98 = .ok (.iconst (-1), 1) := by decide +kernel
theorem dX12_find_99 : decode cX12_find 99 = .ok (.ireturn, 1) := by decide +kernel
theorem dX12_find_100 : decode cX12_find 100 = .ok (.aload_n 0, 1) := by decide +kernel
theorem dX12_find_101 : decode cX12_find 101 = .ok (.getfield 235, 3) := by decide +kernel
theorem dX12_find_104 : decode cX12_find 104 = .ok (.ifCond .le 18, 3) := by decide +kernel
theorem dX12_find_107 : decode cX12_find 107 = .ok (.iload_n 3, 1) := by decide +kernel
theorem dX12_find_108 : decode cX12_find 108 = .ok (.aload_n 0, 1) := by decide +kernel
theorem dX12_find_109 : decode cX12_find 109 = .ok (.getfield 37, 3) := by decide +kernel
theorem dX12_find_112 : decode cX12_find 112 = .ok (.aload_n 0, 1) := by decide +kernel
theorem dX12_find_113 : decode cX12_find 113 = .ok (.getfield 235, 3) := by decide +kernel
theorem dX12_find_116 : decode cX12_find 116 = .ok (.iconst 1, 1) := by decide +kernel
theorem dX12_find_117 : decode cX12_find 117 = .ok (.isub, 1) := by decide +kernel
theorem dX12_find_118 : decode cX12_find 118 = .ok (.iaload, 1) := by decide +kernel
theorem dX12_find_119 : decode cX12_find 119 = .ok (.if_icmp .lt 19, 3) := by decide +kernel
theorem dX12_find_122 : decode cX12_find 122 = .ok (.aload_n 0, 1) := by decide +kernel
theorem dX12_find_123 : decode cX12_find 123 = .ok (.iload_n 1, 1) := by decide +kernel
theorem dX12_find_124 : decode cX12_find 124 = .ok (.iload_n 3, 1) := by decide +kernel
theorem dX12_find_125 : decode cX12_find 125 = .ok (.iload 4, 2) := by decide +kernel
theorem dX12_find_127 : decode cX12_find 127 = .ok (.invokevirtual 231, 3) := by decide +kernel
theorem dX12_find_130 : decode cX12_find 130 = .ok (.iload 5, 2) := by decide +kernel
theorem dX12_find_132 : decode cX12_find 132 = .ok (.ishr, 1) := by decide +kernel
theorem dX12_find_133 : decode cX12_find 133 = .ok (.iconst 1, 1) := by decide +kernel
theorem dX12_find_134 : decode cX12_find 134 = .ok (.iand, 1) := by decide +kernel
theorem dX12_find_135 : decode cX12_find 135 = .ok (.ifCond .ne 5, 3) := by decide +kernel
theorem dX12_find_138 : decode cX12_find 138 = .ok (.iconst (-1), 1) := by decide +kernel
theorem dX12_find_139 : decode cX12_find 139 = .ok (.ireturn, 1) := by decide +kernel
theorem dX12_find_140 : decode cX12_find 140 = .ok (.aload_n 0, 1) := by decide +kernel
theorem dX12_find_141 : decode cX12_find 141 = .ok (.getfield 31, 3) := by decide +kernel
theorem dX12_find_144 : decode cX12_find 144 = .ok (.aload_n 0, 1) := by decide +kernel
theorem dX12_find_145 : decode cX12_find 145 = .ok (.getfield 235, 3) := by decide +kernel
theorem dX12_find_148 : decode cX12_find 148 = .ok (.iload_n 1, 1) := by decide +kernel
theorem dX12_find_149 : decode cX12_find 149 = .ok (.iastore, 1) := by decide +kernel
theorem dX12_find_150 : decode cX12_find 150 = .ok (.aload_n 0, 1) := by decide +kernel
theorem dX12_find_151 : decode cX12_find 151 = .ok (.getfield 34, 3) := by decide +kernel
theorem dX12_find_154 : decode cX12_find 154 = .ok (.aload_n 0, 1) := by decide +kernel
theorem dX12_find_155 : decode cX12_find 155 = .ok (.getfield 235, 3) := by decide +kernel
theorem dX12_find_158 : decode cX12_find 158 = .ok (.iload_n 2, 1) := by decide +kernel
theorem dX12_find_159 : decode cX12_find 159 = .ok (.iastore, 1) := by decide +kernel
theorem dX12_find_160 : decode cX12_find 160 = .ok (.aload_n 0, 1) := by decide +kernel
theorem dX12_find_161 : decode cX12_find 161 = .ok (.getfield 37, 3) := by decide +kernel
theorem dX12_find_164 : decode cX12_find 164 = .ok (.aload_n 0, 1) := by decide +kernel
theorem dX12_find_165 : decode cX12_find 165 = .ok (.getfield 235, 3) := by decide +kernel
theorem dX12_find_168 : decode cX12_find 168 = .ok (.iload_n 3, 1) := by decide +kernel
theorem dX12_find_169 : decode cX12_find 169 = .ok (.iastore, 1) := by decide +kernel
theorem dX12_find_170 : decode cX12_find 170 = .ok (.aload_n 0, 1) := by decide +kernel
theorem dX12_find_171 : decode cX12_find 171 = .ok (.getfield 40, 3) := by decide +kernel
theorem dX12_find_174 : decode cX12_find 174 = .ok (.aload_n 0, 1) := by decide +kernel
theorem dX12_find_175 : decode cX12_find 175 = .ok (.getfield 235, 3) := by decide +kernel
theorem dX12_find_178 : decode cX12_find 178 = .ok (.iload 4, 2) := by decide +kernel
theorem dX12_find_180 : decode cX12_find 180 = .ok (.iastore, 1) := by decide +kernel
theorem dX12_find_181 : decode cX12_find 181 = .ok (.aload_n 0, 1) := by decide +kernel
theorem dX12_find_182 : decode cX12_find 182 = .ok (.getfield 43, 3) := by decide +kernel
theorem dX12_find_185 : decode cX12_find 185 = .ok (.aload_n 0, 1) := by decide +kernel
theorem dX12_find_186 : decode cX12_find 186 = .ok (.getfield 235, 3) := by decide +kernel
theorem dX12_find_189 : decode cX12_find 189 = .ok (.iload 5, 2) := by decide +kernel
theorem dX12_find_191 : decode cX12_find 191 = .ok (.iastore, 1) := by decide +kernel
theorem dX12_find_192 : decode cX12_find 192 = .ok (.aload_n 0, 1) := by decide +kernel
theorem dX12_find_193 : decode cX12_find 193 = .ok (.getfield 46, 3) := by decide +kernel
theorem dX12_find_196 : decode cX12_find 196 = .ok (.aload_n 0, 1) := by decide +kernel
theorem dX12_find_197 : decode cX12_find 197 = .ok (.getfield 235, 3) := by decide +kernel
theorem dX12_find_200 : decode cX12_find 200 = .ok (.iload 6, 2) := by decide +kernel
theorem dX12_find_202 : decode cX12_find 202 = .ok (.iastore, 1) := by decide +kernel
theorem dX12_find_203 : decode cX12_find 203 = .ok (.aload_n 0, 1) := by decide +kernel
theorem dX12_find_204 : decode cX12_find 204 = .ok (.getfield 49, 3) := by decide +kernel
theorem dX12_find_207 : decode cX12_find 207 = .ok (.aload_n 0, 1) := by decide +kernel
theorem dX12_find_208 : decode cX12_find 208 = .ok (.getfield 235, 3) := by decide +kernel
theorem dX12_find_211 : decode cX12_find 211 = .ok (.iload 7, 2) := by decide +kernel
theorem dX12_find_213 : decode cX12_find 213 = .ok (.iastore, 1) := by decide +kernel
theorem dX12_find_214 : decode cX12_find 214 = .ok (.aload_n 0, 1) := by decide +kernel
theorem dX12_find_215 : decode cX12_find 215 = .ok (.dup, 1) := by decide +kernel
theorem dX12_find_216 : decode cX12_find 216 = .ok (.getfield 235, 3) := by decide +kernel
theorem dX12_find_219 : decode cX12_find 219 = .ok (.iconst 1, 1) := by decide +kernel
theorem dX12_find_220 : decode cX12_find 220 = .ok (.iadd, 1) := by decide +kernel
theorem dX12_find_221 : decode cX12_find 221 = .ok (.putfield 235, 3) := by decide +kernel
theorem dX12_find_224 : decode cX12_find 224 = .ok (.aload_n 0, 1) := by decide +kernel
theorem dX12_find_225 : decode cX12_find 225 = .ok (.getfield 235, 3) := by decide +kernel
theorem dX12_find_228 : decode cX12_find 228 = .ok (.iconst 1, 1) := by decide +kernel
theorem dX12_find_229 : decode cX12_find 229 = .ok (.isub, 1) := by decide +kernel
theorem dX12_find_230 : decode cX12_find 230 = .ok (.ireturn, 1) := by decide +kernel
theorem dX12_findFact_0 : decode cX12_findFact 0 = .ok (.aload_n 0, 1) := by decide +kernel
theorem dX12_findFact_1 : decode cX12_findFact 1 = .ok (.getfield 270, 3) := by decide +kernel
theorem dX12_findFact_4 : decode cX12_findFact 4 = .ok (.ldc2_w 309, 3) := by decide +kernel
theorem dX12_findFact_7 : decode cX12_findFact 7 = .ok (.lcmp, 1) := by decide +kernel
theorem dX12_findFact_8 : decode cX12_findFact 8 = .ok (.ifCond .ne 5, 3) := by decide +kernel
theorem dX12_findFact_11 : decode cX12_findFact 11 = .ok (.iconst 1, 1) := by decide +kernel
theorem dX12_findFact_12 : decode cX12_findFact 12 = .ok (.ireturn, 1) := by decide +kernel
theorem dX12_findFact_13 : decode cX12_findFact 13 = .ok (.aload_n 0, 1) := by decide +kernel
theorem dX12_findFact_14 : decode cX12_findFact 14 = .ok (.getfield 270, 3) := by decide +kernel
theorem dX12_findFact_17 : decode cX12_findFact 17 = .ok (.ldc2_w 311, 3) := by decide +kernel
theorem dX12_findFact_20 : decode cX12_findFact 20 = .ok (.lcmp, 1) := by decide +kernel
theorem dX12_findFact_21 : decode cX12_findFact 21 = .ok (.ifCond .ne 5, 3) := by decide +kernel
theorem dX12_findFact_24 : decode cX12_findFact 24 = .ok (.iconst 2, 1) := by decide +kernel
theorem dX12_findFact_25 : decode cX12_findFact 25 = .ok (.ireturn, 1) := by decide +kernel
theorem dX12_findFact_26 : decode cX12_findFact 26 = .ok (.aload_n 0, 1) := by decide +kernel
theorem dX12_findFact_27 : decode cX12_findFact 27 = .ok (.getfield 270, 3) := by decide +kernel
theorem dX12_findFact_30 : decode cX12_findFact 30 = .ok (.ldc2_w 313, 3) := by decide +kernel
theorem dX12_findFact_33 : decode cX12_findFact 33 = .ok (.lcmp, 1) := by decide +kernel
theorem dX12_findFact_34 : decode cX12_findFact 34 = .ok (.ifCond .ne 5, 3) := by decide +kernel
theorem dX12_findFact_37 : decode cX12_findFact 37 = .ok (.iconst 3, 1) := by decide +kernel
theorem dX12_findFact_38 : decode cX12_findFact 38 = .ok (.ireturn, 1) := by decide +kernel
theorem dX12_findFact_39 : decode cX12_findFact 39 = .ok (.aload_n 0, 1) := by decide +kernel
theorem dX12_findFact_40 : decode cX12_findFact 40 = .ok (.getfield 270, 3) := by decide +kernel
theorem dX12_findFact_43 : decode cX12_findFact 43 = .ok (.ldc2_w 315, 3) := by decide +kernel
theorem dX12_findFact_46 : decode cX12_findFact 46 = .ok (.lcmp, 1) := by decide +kernel
theorem dX12_findFact_47 : decode cX12_findFact 47 = .ok (.ifCond .ne 5, 3) := by decide +kernel
theorem dX12_findFact_50 : decode cX12_findFact 50 = .ok (.iconst 4, 1) := by decide +kernel
theorem dX12_findFact_51 : decode cX12_findFact 51 = .ok (.ireturn, 1) := by decide +kernel
theorem dX12_findFact_52 : decode cX12_findFact 52 = .ok (.aload_n 0, 1) := by decide +kernel
theorem dX12_findFact_53 : decode cX12_findFact 53 = .ok (.getfield 270, 3) := by decide +kernel
theorem dX12_findFact_56 : decode cX12_findFact 56 = .ok (.ldc2_w 317, 3) := by decide +kernel
theorem dX12_findFact_59 : decode cX12_findFact 59 = .ok (.lcmp, 1) := by decide +kernel
theorem dX12_findFact_60 : decode cX12_findFact 60 = .ok (.ifCond .ne 5, 3) := by decide +kernel
theorem dX12_findFact_63 : decode cX12_findFact 63 = .ok (.iconst 5, 1) := by decide +kernel
theorem dX12_findFact_64 : decode cX12_findFact 64 = .ok (.ireturn, 1) := by decide +kernel
theorem dX12_findFact_65 : decode cX12_findFact 65 = .ok (.aload_n 0, 1) := by decide +kernel
theorem dX12_findFact_66 : decode cX12_findFact 66 = .ok (.getfield 270, 3) := by decide +kernel
theorem dX12_findFact_69 : decode cX12_findFact 69 = .ok (.ldc2_w 319, 3) := by decide +kernel
theorem dX12_findFact_72 : decode cX12_findFact 72 = .ok (.lcmp, 1) := by decide +kernel
theorem dX12_findFact_73 : decode cX12_findFact 73 = .ok (.ifCond .ne 6, 3) := by decide +kernel
theorem dX12_findFact_76 : decode cX12_findFact 76 = .ok (.bipush 6, 2) := by decide +kernel
theorem dX12_findFact_78 : decode cX12_findFact 78 = .ok (.ireturn, 1) := by decide +kernel
theorem dX12_findFact_79 : decode cX12_findFact 79 = .ok (.aload_n 0, 1) := by decide +kernel
theorem dX12_findFact_80 : decode cX12_findFact 80 = .ok (.getfield 270, 3) := by decide +kernel
theorem dX12_findFact_83 : decode cX12_findFact 83 = .ok (.ldc2_w 321, 3) := by decide +kernel
theorem dX12_findFact_86 : decode cX12_findFact 86 = .ok (.lcmp, 1) := by decide +kernel
theorem dX12_findFact_87 : decode cX12_findFact 87 = .ok (.ifCond .ne 6, 3) := by decide +kernel
theorem dX12_findFact_90 : decode cX12_findFact 90 = .ok (.bipush 7, 2) := by decide +kernel
theorem dX12_findFact_92 : decode cX12_findFact 92 = .ok (.ireturn, 1) := by decide +kernel
theorem dX12_findFact_93 : decode cX12_findFact 93 = .ok (.aload_n 0, 1) := by decide +kernel
theorem dX12_findFact_94 : decode cX12_findFact 94 = .ok (.getfield 270, 3) := by decide +kernel
theorem dX12_findFact_97 : decode cX12_findFact 97 = .ok (.ldc2_w 323, 3) := by decide +kernel
theorem dX12_findFact_100 : decode cX12_findFact 100 = .ok (.lcmp, 1) := by decide +kernel
theorem dX12_findFact_101 : decode cX12_findFact 101 = .ok (.ifCond .ne 6, 3) := by decide +kernel
theorem dX12_findFact_104 : decode cX12_findFact 104 = .ok (.bipush 8, 2) := by decide +kernel
theorem dX12_findFact_106 : decode cX12_findFact 106 = .ok (.ireturn, 1) := by decide +kernel
theorem dX12_findFact_107 : decode cX12_findFact 107 = .ok (.aload_n 0, 1) := by decide +kernel
theorem dX12_findFact_108 : decode cX12_findFact 108 = .ok (.getfield 270, 3) := by decide +kernel
theorem dX12_findFact_111 : decode cX12_findFact 111 = .ok (.ldc2_w 325, 3) := by decide +kernel
theorem dX12_findFact_114 : decode cX12_findFact 114 = .ok (.lcmp, 1) := by decide +kernel
theorem dX12_findFact_115 : decode cX12_findFact 115 = .ok (.ifCond .ne 6, 3) := by decide +kernel
theorem dX12_findFact_118 : decode cX12_findFact 118 = .ok (.bipush 9, 2) := by decide +kernel
theorem dX12_findFact_120 : decode cX12_findFact 120 = .ok (.ireturn, 1) := by decide +kernel
theorem dX12_findFact_121 : decode cX12_findFact 121 = .ok (.aload_n 0, 1) := by decide +kernel
theorem dX12_findFact_122 : decode cX12_findFact 122 = .ok (.getfield 270, 3) := by decide +kernel
theorem dX12_findFact_125 : decode cX12_findFact 125 = .ok (.ldc2_w 327, 3) := by decide +kernel
theorem dX12_findFact_128 : decode cX12_findFact 128 = .ok (.lcmp, 1) := by decide +kernel
theorem dX12_findFact_129 : decode cX12_findFact 129 = .ok (.ifCond .ne 6, 3) := by decide +kernel
theorem dX12_findFact_132 : decode cX12_findFact 132 = .ok (.bipush 10, 2) := by decide +kernel
theorem dX12_findFact_134 : decode cX12_findFact 134 = .ok (.ireturn, 1) := by decide +kernel
theorem dX12_findFact_135 : decode cX12_findFact 135 = .ok (.aload_n 0, 1) := by decide +kernel
theorem dX12_findFact_136 : decode cX12_findFact 136 = .ok (.getfield 270, 3) := by decide +kernel
theorem dX12_findFact_139 : decode cX12_findFact 139 = .ok (.ldc2_w 329, 3) := by decide +kernel
theorem dX12_findFact_142 : decode cX12_findFact 142 = .ok (.lcmp, 1) := by decide +kernel
theorem dX12_findFact_143 : decode cX12_findFact 143 = .ok (.ifCond .ne 6, 3) := by decide +kernel
theorem dX12_findFact_146 : decode cX12_findFact 146 = .ok (.bipush 11, 2) := by decide +kernel
theorem dX12_findFact_148 : decode cX12_findFact 148 = .ok (.ireturn, 1) := by decide +kernel
theorem dX12_findFact_149 : decode cX12_findFact 149 = .ok (.aload_n 0, 1) := by decide +kernel
theorem dX12_findFact_150 : decode cX12_findFact 150 = .ok (.getfield 270, 3) := by decide +kernel
theorem dX12_findFact_153 : decode cX12_findFact 153 = .ok (.ldc2_w 331, 3) := by decide +kernel
theorem dX12_findFact_156 : decode cX12_findFact 156 = .ok (.lcmp, 1) := by decide +kernel
theorem dX12_findFact_157 : decode cX12_findFact 157 = .ok (.ifCond .ne 6, 3) := by decide +kernel
theorem dX12_findFact_160 : decode cX12_findFact 160 = .ok (.bipush 12, 2) := by decide +kernel
theorem dX12_findFact_162 : decode cX12_findFact 162 = .ok (.ireturn, 1) := by decide +kernel
theorem dX12_findFact_163 : decode cX12_findFact 163 = .ok (.aload_n 0, 1) := by decide +kernel
theorem dX12_findFact_164 : decode cX12_findFact 164 = .ok (.getfield 270, 3) := by decide +kernel
theorem dX12_findFact_167 : decode cX12_findFact 167 = .ok (.ldc2_w 333, 3) := by decide +kernel
theorem dX12_findFact_170 : decode cX12_findFact 170 = .ok (.lcmp, 1) := by decide +kernel
theorem dX12_findFact_171 : decode cX12_findFact 171 = .ok (.ifCond .ne 6, 3) := by decide +kernel
theorem dX12_findFact_174 : decode cX12_findFact 174 = .ok (.bipush 13, 2) := by decide +kernel
theorem dX12_findFact_176 : decode cX12_findFact 176 = .ok (.ireturn, 1) := by decide +kernel
theorem dX12_findFact_177 : decode cX12_findFact 177 = .ok (.aload_n 0, 1) := by decide +kernel
theorem dX12_findFact_178 : decode cX12_findFact 178 = .ok (.getfield 270, 3) := by decide +kernel
theorem dX12_findFact_181 : decode cX12_findFact 181 = .ok (.ldc2_w 335, 3) := by decide +kernel
theorem dX12_findFact_184 : decode cX12_findFact 184 = .ok (.lcmp, 1) := by decide +kernel
theorem dX12_findFact_185 : decode cX12_findFact 185 = .ok (.ifCond .ne 6, 3) := by decide +kernel
theorem dX12_findFact_188 : decode cX12_findFact 188 = .ok (.bipush 14, 2) := by decide +kernel
theorem dX12_findFact_190 : decode cX12_findFact 190 = .ok (.ireturn, 1) := by decide +kernel
theorem dX12_findFact_191 : decode cX12_findFact 191 = .ok (.aload_n 0, 1) := by decide +kernel
theorem dX12_findFact_192 : decode cX12_findFact 192 = .ok (.getfield 270, 3) := by decide +kernel
theorem dX12_findFact_195 : decode cX12_findFact 195 = .ok (.ldc2_w 337, 3) := by decide +kernel
theorem dX12_findFact_198 : decode cX12_findFact 198 = .ok (.lcmp, 1) := by decide +kernel
theorem dX12_findFact_199 : decode cX12_findFact 199 = .ok (.ifCond .ne 6, 3) := by decide +kernel
theorem dX12_findFact_202 : decode cX12_findFact 202 = .ok (.bipush 15, 2) := by decide +kernel
theorem dX12_findFact_204 : decode cX12_findFact 204 = .ok (.ireturn, 1) := by decide +kernel
theorem dX12_findFact_205 : decode cX12_findFact 205 = .ok (.aload_n 0, 1) := by decide +kernel
theorem dX12_findFact_206 : decode cX12_findFact 206 = .ok (.getfield 270, 3) := by decide +kernel
theorem dX12_findFact_209 : decode cX12_findFact 209 = .ok (.ldc2_w 339, 3) := by decide +kernel
theorem dX12_findFact_212 : decode cX12_findFact 212 = .ok (.lcmp, 1) := by decide +kernel
theorem dX12_findFact_213 : decode cX12_findFact 213 = .ok (.ifCond .ne 6, 3) := by decide +kernel
theorem dX12_findFact_216 : decode cX12_findFact 216 = .ok (.bipush 16, 2) := by decide +kernel
theorem dX12_findFact_218 : decode cX12_findFact 218 = .ok (.ireturn, 1) := by decide +kernel
theorem dX12_findFact_219 : decode cX12_findFact 219 = .ok (.aload_n 0, 1) := by decide +kernel
theorem dX12_findFact_220 : decode cX12_findFact 220 = .ok (.getfield 270, 3) := by decide +kernel
theorem dX12_findFact_223 : decode cX12_findFact 223 = .ok (.ldc2_w 341, 3) := by decide +kernel
theorem dX12_findFact_226 : decode cX12_findFact 226 = .ok (.lcmp, 1) := by decide +kernel
theorem dX12_findFact_227 : decode cX12_findFact 227 = .ok (.ifCond .ne 6, 3) := by decide +kernel
theorem dX12_findFact_230 : decode cX12_findFact 230 = .ok (.bipush 17, 2) := by decide +kernel
theorem dX12_findFact_232 : decode cX12_findFact 232 = .ok (.ireturn, 1) := by decide +kernel
theorem dX12_findFact_233 : decode cX12_findFact 233 = .ok (.iconst 0, 1) := by decide +kernel
theorem dX12_findFact_234 : decode cX12_findFact 234 = .ok (.ireturn, 1) := by decide +kernel
theorem dX12_findsBy_0 : decode cX12_findsBy 0 = .ok (.lconst 0, 1) := by decide +kernel
theorem dX12_findsBy_1 : decode cX12_findsBy 1 = .ok (.lstore_n 2, 1) := by decide +kernel
theorem dX12_findsBy_2 : decode cX12_findsBy 2 = .ok (.iconst 0, 1) := by decide +kernel
theorem dX12_findsBy_3 : decode cX12_findsBy 3 = .ok (.istore 4, 2) := by decide +kernel
theorem dX12_findsBy_5 : decode cX12_findsBy 5 = .ok (.iload 4, 2) := by decide +kernel
theorem dX12_findsBy_7 : decode cX12_findsBy 7 = .ok (.aload_n 0, 1) := by decide +kernel
theorem dX12_findsBy_8 : decode cX12_findsBy 8 = .ok (.getfield 235, 3) := by decide +kernel
theorem dX12_findsBy_11 : decode cX12_findsBy 11 = .ok (.if_icmp .ge 27, 3) := by decide +kernel
theorem dX12_findsBy_14 : decode cX12_findsBy 14 = .ok (.aload_n 0, 1) := by decide +kernel
theorem dX12_findsBy_15 : decode cX12_findsBy 15 = .ok (.getfield 43, 3) := by decide +kernel
theorem dX12_findsBy_18 : decode cX12_findsBy 18 = .ok (.iload 4, 2) := by decide +kernel
theorem dX12_findsBy_20 : decode cX12_findsBy 20 = .ok (.iaload, 1) := by decide +kernel
theorem dX12_findsBy_21 : decode cX12_findsBy 21 = .ok (.iload_n 1, 1) := by decide +kernel
theorem dX12_findsBy_22 : decode cX12_findsBy 22 = .ok (.if_icmp .ne 10, 3) := by decide +kernel
theorem dX12_findsBy_25 : decode cX12_findsBy 25 = .ok (.lload_n 2, 1) := by decide +kernel
theorem dX12_findsBy_26 : decode cX12_findsBy 26 = .ok (.lconst 1, 1) := by decide +kernel
theorem dX12_findsBy_27 : decode cX12_findsBy 27 = .ok (.iload 4, 2) := by decide +kernel
theorem dX12_findsBy_29 : decode cX12_findsBy 29 = .ok (.lshl, 1) := by decide +kernel
theorem dX12_findsBy_30 : decode cX12_findsBy 30 = .ok (.lor, 1) := by decide +kernel
theorem dX12_findsBy_31 : decode cX12_findsBy 31 = .ok (.lstore_n 2, 1) := by decide +kernel
theorem dX12_findsBy_32 : decode cX12_findsBy 32 = .ok (.iinc 4 1, 3) := by decide +kernel
theorem dX12_findsBy_35 : decode cX12_findsBy 35 = .ok (.goto (-30), 3) := by decide +kernel
theorem dX12_findsBy_38 : decode cX12_findsBy 38 = .ok (.lload_n 2, 1) := by decide +kernel
theorem dX12_findsBy_39 : decode cX12_findsBy 39 = .ok (.lreturn, 1) := by decide +kernel
theorem dX12_found_0 : decode cX12_found 0 = .ok (.aload_n 0, 1) := by decide +kernel
theorem dX12_found_1 : decode cX12_found 1 = .ok (.iconst 0, 1) := by decide +kernel
theorem dX12_found_2 : decode cX12_found 2 = .ok (.putfield 214, 3) := by decide +kernel
theorem dX12_found_5 : decode cX12_found 5 = .ok (.iload_n 1, 1) := by decide +kernel
theorem dX12_found_6 : decode cX12_found 6 = .ok (.iconst 0, 1) := by decide +kernel
theorem dX12_found_7 : decode cX12_found 7 = .ok (.sipush 9999, 3) := by decide +kernel
theorem dX12_found_10 : decode cX12_found 10 = .ok (.invokestatic 221, 3) := by decide +kernel
theorem dX12_found_13 : decode cX12_found 13 = .ok (.ifCond .eq 16, 3) := by decide +kernel
theorem dX12_found_16 : decode cX12_found 16 = .ok (.iload_n 2, 1) := by decide +kernel
theorem dX12_found_17 : decode cX12_found 17 = .ok (.ifCond .lt 12, 3) := by decide +kernel
theorem dX12_found_20 : decode cX12_found 20 = .ok (.iload_n 3, 1) := by decide +kernel
theorem dX12_found_21 : decode cX12_found 21 = .ok (.iconst 0, 1) := by decide +kernel
theorem dX12_found_22 : decode cX12_found 22 = .ok (.iconst 5, 1) := by decide +kernel
theorem dX12_found_23 : decode cX12_found 23 = .ok (.invokestatic 221, 3) := by decide +kernel
theorem dX12_found_26 : decode cX12_found 26 = .ok (.ifCond .ne 5, 3) := by decide +kernel
theorem dX12_found_29 : decode cX12_found 29 = .ok (.iconst (-1), 1) := by decide +kernel
theorem dX12_found_30 : decode cX12_found 30 = .ok (.ireturn, 1) := by decide +kernel
theorem dX12_found_31 : decode cX12_found 31 = .ok (.aload_n 0, 1) := by decide +kernel
theorem dX12_found_32 : decode cX12_found 32 = .ok (.iload_n 1, 1) := by decide +kernel
theorem dX12_found_33 : decode cX12_found 33 = .ok (.invokevirtual 584, 3) := by decide +kernel
theorem dX12_found_36 : decode cX12_found 36 = .ok (.iload_n 2, 1) := by decide +kernel
theorem dX12_found_37 : decode cX12_found 37 = .ok (.aload_n 0, 1) := by decide +kernel
theorem dX12_found_38 : decode cX12_found 38 = .ok (.getfield 568, 3) := by decide +kernel
theorem dX12_found_41 : decode cX12_found 41 = .ok (.if_icmp .lt 5, 3) := by decide +kernel
theorem dX12_found_44 : decode cX12_found 44 = .ok (.iconst (-1), 1) := by decide +kernel
theorem dX12_found_45 : decode cX12_found 45 = .ok (.ireturn, 1) := by decide +kernel
theorem dX12_found_46 : decode cX12_found 46 = .ok (.iload_n 3, 1) := by decide +kernel
theorem dX12_found_47 : decode cX12_found 47 = .ok (.ifCond .ne 18, 3) := by decide +kernel
theorem dX12_found_50 : decode cX12_found 50 = .ok (.aload_n 0, 1) := by decide +kernel
theorem dX12_found_51 : decode cX12_found 51 = .ok (.getfield 177, 3) := by decide +kernel
theorem dX12_found_54 : decode cX12_found 54 = .ok (.iload_n 2, 1) := by decide +kernel
theorem dX12_found_55 : decode cX12_found 55 = .ok (.baload, 1) := by decide +kernel
theorem dX12_found_56 : decode cX12_found 56 = .ok (.ifCond .eq 7, 3) := by decide +kernel
theorem dX12_found_59 : decode cX12_found 59 = .ok (.iconst 1, 1) := by decide +kernel
theorem dX12_found_60 : decode cX12_found 60 = .ok (.goto 4, 3) := by decide +kernel
theorem dX12_found_63 : decode cX12_found 63 = .ok (.iconst 0, 1) := by decide +kernel
theorem dX12_found_64 : decode cX12_found 64 = .ok (.ireturn, 1) := by decide +kernel
theorem dX12_found_65 : decode cX12_found 65 = .ok (.iload_n 3, 1) := by decide +kernel
theorem dX12_found_66 : decode cX12_found 66 = .ok (.iconst 1, 1) := by decide +kernel
theorem dX12_found_67 : decode cX12_found 67 = .ok (.if_icmp .ne 12, 3) := by decide +kernel
theorem dX12_found_70 : decode cX12_found 70 = .ok (.aload_n 0, 1) := by decide +kernel
theorem dX12_found_71 : decode cX12_found 71 = .ok (.getfield 180, 3) := by decide +kernel
theorem dX12_found_74 : decode cX12_found 74 = .ok (.iload_n 2, 1) := by decide +kernel
theorem dX12_found_75 : decode cX12_found 75 = .ok (.iaload, 1) := by decide +kernel
theorem dX12_found_76 : decode cX12_found 76 = .ok (.goto 51, 3) := by decide +kernel
theorem dX12_found_79 : decode cX12_found 79 = .ok (.iload_n 3, 1) := by decide +kernel
theorem dX12_found_80 : decode cX12_found 80 = .ok (.iconst 2, 1) := by decide +kernel
theorem dX12_found_81 : decode cX12_found 81 = .ok (.if_icmp .ne 12, 3) := by decide +kernel
theorem dX12_found_84 : decode cX12_found 84 = .ok (.aload_n 0, 1) := by decide +kernel
theorem dX12_found_85 : decode cX12_found 85 = .ok (.getfield 183, 3) := by decide +kernel
theorem dX12_found_88 : decode cX12_found 88 = .ok (.iload_n 2, 1) := by decide +kernel
theorem dX12_found_89 : decode cX12_found 89 = .ok (.iaload, 1) := by decide +kernel
theorem dX12_found_90 : decode cX12_found 90 = .ok (.goto 37, 3) := by decide +kernel
theorem dX12_found_93 : decode cX12_found 93 = .ok (.iload_n 3, 1) := by decide +kernel
theorem dX12_found_94 : decode cX12_found 94 = .ok (.iconst 3, 1) := by decide +kernel
theorem dX12_found_95 : decode cX12_found 95 = .ok (.if_icmp .ne 12, 3) := by decide +kernel
theorem dX12_found_98 : decode cX12_found 98 = .ok (.aload_n 0, 1) := by decide +kernel
theorem dX12_found_99 : decode cX12_found 99 = .ok (.getfield 186, 3) := by decide +kernel
theorem dX12_found_102 : decode cX12_found 102 = .ok (.iload_n 2, 1) := by decide +kernel
theorem dX12_found_103 : decode cX12_found 103 = .ok (.iaload, 1) := by decide +kernel
theorem dX12_found_104 : decode cX12_found 104 = .ok (.goto 23, 3) := by decide +kernel
theorem dX12_found_107 : decode cX12_found 107 = .ok (.iload_n 3, 1) := by decide +kernel
theorem dX12_found_108 : decode cX12_found 108 = .ok (.iconst 4, 1) := by decide +kernel
theorem dX12_found_109 : decode cX12_found 109 = .ok (.if_icmp .ne 12, 3) := by decide +kernel
theorem dX12_found_112 : decode cX12_found 112 = .ok (.aload_n 0, 1) := by decide +kernel
theorem dX12_found_113 : decode cX12_found 113 = .ok (.getfield 189, 3) := by decide +kernel
theorem dX12_found_116 : decode cX12_found 116 = .ok (.iload_n 2, 1) := by decide +kernel
theorem dX12_found_117 : decode cX12_found 117 = .ok (.iaload, 1) := by decide +kernel
theorem dX12_found_118 : decode cX12_found 118 = .ok (.goto 9, 3) := by decide +kernel
theorem dX12_found_121 : decode cX12_found 121 = .ok (.aload_n 0, 1) := by decide +kernel
theorem dX12_found_122 : decode cX12_found 122 = .ok (.getfield 195, 3) := by decide +kernel
theorem dX12_found_125 : decode cX12_found 125 = .ok (.iload_n 2, 1) := by decide +kernel
theorem dX12_found_126 : decode cX12_found 126 = .ok (.iaload, 1) := by decide +kernel
theorem dX12_found_127 : decode cX12_found 127 = .ok (.ireturn, 1) := by decide +kernel
theorem dX12_goodOf_0 : decode cX12_goodOf 0 = .ok (.aload_n 0, 1) := by decide +kernel
theorem dX12_goodOf_1 : decode cX12_goodOf 1 = .ok (.iconst 0, 1) := by decide +kernel
theorem dX12_goodOf_2 : decode cX12_goodOf 2 = .ok (.putfield 533, 3) := by decide +kernel
theorem dX12_goodOf_5 : decode cX12_goodOf 5 = .ok (.lconst 0, 1) := by decide +kernel
theorem dX12_goodOf_6 : decode cX12_goodOf 6 = .ok (.lstore_n 3, 1) := by decide +kernel
theorem dX12_goodOf_7 : decode cX12_goodOf 7 = .ok (.iconst 0, 1) := by decide +kernel
theorem dX12_goodOf_8 : decode cX12_goodOf 8 = .ok (.istore 5, 2) := by decide +kernel
theorem dX12_goodOf_10 : decode cX12_goodOf 10 = .ok (.iload 5, 2) := by decide +kernel
theorem dX12_goodOf_12 : decode cX12_goodOf 12 = .ok (.aload_n 0, 1) := by decide +kernel
theorem dX12_goodOf_13 : decode cX12_goodOf 13 = .ok (.getfield 235, 3) := by decide +kernel
theorem dX12_goodOf_16 : decode cX12_goodOf 16 = .ok (.if_icmp .ge 87, 3) := by decide +kernel
theorem dX12_goodOf_19 : decode cX12_goodOf 19 = .ok (.aload_n 0, 1) := by decide +kernel
theorem dX12_goodOf_20 : decode cX12_goodOf 20 = .ok (.getfield 502, 3) := by decide +kernel
theorem dX12_goodOf_23 : decode cX12_goodOf 23 = .ok (.iload 5, 2) := by decide +kernel
theorem dX12_goodOf_25 : decode cX12_goodOf 25 = .ok (.lshr, 1) := by decide +kernel
theorem dX12_goodOf_26 : decode cX12_goodOf 26 = .ok (.lconst 1, 1) := by decide +kernel
theorem dX12_goodOf_27 : decode cX12_goodOf 27 = .ok (.land, 1) := by decide +kernel
theorem dX12_goodOf_28 : decode cX12_goodOf 28 = .ok (.lconst 0, 1) := by decide +kernel
theorem dX12_goodOf_29 : decode cX12_goodOf 29 = .ok (.lcmp, 1) := by decide +kernel
theorem dX12_goodOf_30 : decode cX12_goodOf 30 = .ok (.ifCond .eq 67, 3) := by decide +kernel
theorem dX12_goodOf_33 : decode cX12_goodOf 33 = .ok (.aload_n 0, 1) := by decide +kernel
theorem dX12_goodOf_34 : decode cX12_goodOf 34 = .ok (.getfield 31, 3) := by decide +kernel
theorem dX12_goodOf_37 : decode cX12_goodOf 37 = .ok (.iload 5, 2) := by decide +kernel
theorem dX12_goodOf_39 : decode cX12_goodOf 39 = .ok (.iaload, 1) := by decide +kernel
theorem dX12_goodOf_40 : decode cX12_goodOf 40 = .ok (.iload_n 1, 1) := by decide +kernel
theorem dX12_goodOf_41 : decode cX12_goodOf 41 = .ok (.if_icmp .eq 17, 3) := by decide +kernel
theorem dX12_goodOf_44 : decode cX12_goodOf 44 = .ok (.aload_n 0, 1) := by decide +kernel
theorem dX12_goodOf_45 : decode cX12_goodOf 45 = .ok (.getfield 31, 3) := by decide +kernel
theorem dX12_goodOf_48 : decode cX12_goodOf 48 = .ok (.iload 5, 2) := by decide +kernel
theorem dX12_goodOf_50 : decode cX12_goodOf 50 = .ok (.iaload, 1) := by decide +kernel
theorem dX12_goodOf_51 : decode cX12_goodOf 51 = .ok (.iload_n 2, 1) := by decide +kernel
theorem dX12_goodOf_52 : decode cX12_goodOf 52 = .ok (.if_icmp .eq 6, 3) := by decide +kernel
theorem dX12_goodOf_55 : decode cX12_goodOf 55 = .ok (.goto 42, 3) := by decide +kernel
theorem dX12_goodOf_58 : decode cX12_goodOf 58 = .ok (.aload_n 0, 1) := by decide +kernel
theorem dX12_goodOf_59 : decode cX12_goodOf 59 = .ok (.getfield 533, 3) := by decide +kernel
theorem dX12_goodOf_62 : decode cX12_goodOf 62 = .ok (.bipush 10, 2) := by decide +kernel
theorem dX12_goodOf_64 : decode cX12_goodOf 64 = .ok (.if_icmp .ne 5, 3) := by decide +kernel
theorem dX12_goodOf_67 : decode cX12_goodOf 67 = .ok (.iconst (-1), 1) := by decide +kernel
theorem dX12_goodOf_68 : decode cX12_goodOf 68 = .ok (.ireturn, 1) := by decide +kernel
theorem dX12_goodOf_69 : decode cX12_goodOf 69 = .ok (.aload_n 0, 1) := by decide +kernel
theorem dX12_goodOf_70 : decode cX12_goodOf 70 = .ok (.getfield 147, 3) := by decide +kernel
theorem dX12_goodOf_73 : decode cX12_goodOf 73 = .ok (.aload_n 0, 1) := by decide +kernel
theorem dX12_goodOf_74 : decode cX12_goodOf 74 = .ok (.getfield 533, 3) := by decide +kernel
theorem dX12_goodOf_77 : decode cX12_goodOf 77 = .ok (.iload 5, 2) := by decide +kernel
theorem dX12_goodOf_79 : decode cX12_goodOf 79 = .ok (.iastore, 1) := by decide +kernel
theorem dX12_goodOf_80 : decode cX12_goodOf 80 = .ok (.aload_n 0, 1) := by decide +kernel
theorem dX12_goodOf_81 : decode cX12_goodOf 81 = .ok (.dup, 1) := by decide +kernel
theorem dX12_goodOf_82 : decode cX12_goodOf 82 = .ok (.getfield 533, 3) := by decide +kernel
theorem dX12_goodOf_85 : decode cX12_goodOf 85 = .ok (.iconst 1, 1) := by decide +kernel
theorem dX12_goodOf_86 : decode cX12_goodOf 86 = .ok (.iadd, 1) := by decide +kernel
theorem dX12_goodOf_87 : decode cX12_goodOf 87 = .ok (.putfield 533, 3) := by decide +kernel
theorem dX12_goodOf_90 : decode cX12_goodOf 90 = .ok (.lload_n 3, 1) := by decide +kernel
theorem dX12_goodOf_91 : decode cX12_goodOf 91 = .ok (.lconst 1, 1) := by decide +kernel
theorem dX12_goodOf_92 : decode cX12_goodOf 92 = .ok (.iload 5, 2) := by decide +kernel
theorem dX12_goodOf_94 : decode cX12_goodOf 94 = .ok (.lshl, 1) := by decide +kernel
theorem dX12_goodOf_95 : decode cX12_goodOf 95 = .ok (.lor, 1) := by decide +kernel
theorem dX12_goodOf_96 : decode cX12_goodOf 96 = .ok (.lstore_n 3, 1) := by decide +kernel
theorem dX12_goodOf_97 : decode cX12_goodOf 97 = .ok (.iinc 5 1, 3) := by decide +kernel
theorem dX12_goodOf_100 : decode cX12_goodOf 100 = .ok (.goto (-90), 3) := by decide +kernel
theorem dX12_goodOf_103 : decode cX12_goodOf 103 = .ok (.sipush 4095, 3) := by decide +kernel
theorem dX12_goodOf_106 : decode cX12_goodOf 106 = .ok (.istore 5, 2) := by decide +kernel
theorem dX12_goodOf_108 : decode cX12_goodOf 108 = .ok (.iconst 0, 1) := by decide +kernel
theorem dX12_goodOf_109 : decode cX12_goodOf 109 = .ok (.istore 6, 2) := by decide +kernel
theorem dX12_goodOf_111 : decode cX12_goodOf 111 = .ok (.iload 6, 2) := by decide +kernel
theorem dX12_goodOf_113 : decode cX12_goodOf 113 = .ok (.iconst 1, 1) := by decide +kernel
theorem dX12_goodOf_114 : decode cX12_goodOf 114 = .ok (.aload_n 0, 1) := by decide +kernel
theorem dX12_goodOf_115 : decode cX12_goodOf 115 = .ok (.getfield 533, 3) := by decide +kernel
theorem dX12_goodOf_118 : decode cX12_goodOf 118 = .ok (.ishl, 1) := by decide +kernel
theorem dX12_goodOf_119 : decode cX12_goodOf 119 = .ok (.if_icmp .ge 76, 3) := by decide +kernel
theorem dX12_goodOf_122 : decode cX12_goodOf 122 = .ok (.lconst 0, 1) := by decide +kernel
theorem dX12_goodOf_123 : decode cX12_goodOf 123 = .ok (.lstore 7, 2) := by decide +kernel
theorem dX12_goodOf_125 : decode cX12_goodOf 125 = .ok (.iconst 0, 1) := by decide +kernel
theorem dX12_goodOf_126 : decode cX12_goodOf 126 = .ok (.istore 9, 2) := by decide +kernel
theorem dX12_goodOf_128 : decode cX12_goodOf 128 = .ok (.iload 9, 2) := by decide +kernel
theorem dX12_goodOf_130 : decode cX12_goodOf 130 = .ok (.aload_n 0, 1) := by decide +kernel
theorem dX12_goodOf_131 : decode cX12_goodOf 131 = .ok (.getfield 533, 3) := by decide +kernel
theorem dX12_goodOf_134 : decode cX12_goodOf 134 = .ok (.if_icmp .ge 34, 3) := by decide +kernel
theorem dX12_goodOf_137 : decode cX12_goodOf 137 = .ok (.iload 6, 2) := by decide +kernel
theorem dX12_goodOf_139 : decode cX12_goodOf 139 = .ok (.iload 9, 2) := by decide +kernel
theorem dX12_goodOf_141 : decode cX12_goodOf 141 = .ok (.ishr, 1) := by decide +kernel
theorem dX12_goodOf_142 : decode cX12_goodOf 142 = .ok (.iconst 1, 1) := by decide +kernel
theorem dX12_goodOf_143 : decode cX12_goodOf 143 = .ok (.iand, 1) := by decide +kernel
theorem dX12_goodOf_144 : decode cX12_goodOf 144 = .ok (.iconst 1, 1) := by decide +kernel
theorem dX12_goodOf_145 : decode cX12_goodOf 145 = .ok (.if_icmp .ne 17, 3) := by decide +kernel
theorem dX12_goodOf_148 : decode cX12_goodOf 148 = .ok (.lload 7, 2) := by decide +kernel
theorem dX12_goodOf_150 : decode cX12_goodOf 150 = .ok (.lconst 1, 1) := by decide +kernel
theorem dX12_goodOf_151 : decode cX12_goodOf 151 = .ok (.aload_n 0, 1) := by decide +kernel
theorem dX12_goodOf_152 : decode cX12_goodOf 152 = .ok (.getfield 147, 3) := by decide +kernel
theorem dX12_goodOf_155 : decode cX12_goodOf 155 = .ok (.iload 9, 2) := by decide +kernel
theorem dX12_goodOf_157 : decode cX12_goodOf 157 = .ok (.iaload, 1) := by decide +kernel
theorem dX12_goodOf_158 : decode cX12_goodOf 158 = .ok (.lshl, 1) := by decide +kernel
theorem dX12_goodOf_159 : decode cX12_goodOf 159 = .ok (.lor, 1) := by decide +kernel
theorem dX12_goodOf_160 : decode cX12_goodOf 160 = .ok (.lstore 7, 2) := by decide +kernel
theorem dX12_goodOf_162 : decode cX12_goodOf 162 = .ok (.iinc 9 1, 3) := by decide +kernel
theorem dX12_goodOf_165 : decode cX12_goodOf 165 = .ok (.goto (-37), 3) := by decide +kernel
theorem dX12_goodOf_168 : decode cX12_goodOf 168 = .ok (.iload 5, 2) := by decide +kernel
theorem dX12_goodOf_170 : decode cX12_goodOf 170 = .ok (.aload_n 0, 1) := by decide +kernel
theorem dX12_goodOf_171 : decode cX12_goodOf 171 = .ok (.aload_n 0, 1) := by decide +kernel
theorem dX12_goodOf_172 : decode cX12_goodOf 172 = .ok (.getfield 502, 3) := by decide +kernel
theorem dX12_goodOf_175 : decode cX12_goodOf 175 = .ok (.lload_n 3, 1) := by decide +kernel
theorem dX12_goodOf_176 : decode cX12_goodOf 176 = .ok (.ldc2_w 460, 3) := by decide +kernel
theorem dX12_goodOf_179 : decode cX12_goodOf 179 = .ok (.lxor, 1) := by decide +kernel
theorem dX12_goodOf_180 : decode cX12_goodOf 180 = .ok (.land, 1) := by decide +kernel
theorem dX12_goodOf_181 : decode cX12_goodOf 181 = .ok (.lload 7, 2) := by decide +kernel
theorem dX12_goodOf_183 : decode cX12_goodOf 183 = .ok (.invokevirtual 529, 3) := by decide +kernel
theorem dX12_goodOf_186 : decode cX12_goodOf 186 = .ok (.iand, 1) := by decide +kernel
theorem dX12_goodOf_187 : decode cX12_goodOf 187 = .ok (.istore 5, 2) := by decide +kernel
theorem dX12_goodOf_189 : decode cX12_goodOf 189 = .ok (.iinc 6 1, 3) := by decide +kernel
theorem dX12_goodOf_192 : decode cX12_goodOf 192 = .ok (.goto (-81), 3) := by decide +kernel
theorem dX12_goodOf_195 : decode cX12_goodOf 195 = .ok (.iload 5, 2) := by decide +kernel
theorem dX12_goodOf_197 : decode cX12_goodOf 197 = .ok (.invokestatic 242, 3) := by decide +kernel
theorem dX12_goodOf_200 : decode cX12_goodOf 200 = .ok (.ireturn, 1) := by decide +kernel
theorem dX12_ground_0 : decode cX12_ground 0 = .ok (.aload_n 0, 1) := by decide +kernel
theorem dX12_ground_1 : decode cX12_ground 1 = .ok (.iconst 0, 1) := by decide +kernel
theorem dX12_ground_2 : decode cX12_ground 2 = .ok (.putfield 214, 3) := by decide +kernel
theorem dX12_ground_5 : decode cX12_ground 5 = .ok (.iload_n 1, 1) := by decide +kernel
theorem dX12_ground_6 : decode cX12_ground 6 = .ok (.iconst 0, 1) := by decide +kernel
theorem dX12_ground_7 : decode cX12_ground 7 = .ok (.bipush 11, 2) := by decide +kernel
theorem dX12_ground_9 : decode cX12_ground 9 = .ok (.invokestatic 221, 3) := by decide +kernel
theorem dX12_ground_12 : decode cX12_ground 12 = .ok (.ifCond .eq 43, 3) := by decide +kernel
theorem dX12_ground_15 : decode cX12_ground 15 = .ok (.lload_n 2, 1) := by decide +kernel
theorem dX12_ground_16 : decode cX12_ground 16 = .ok (.lconst 0, 1) := by decide +kernel
theorem dX12_ground_17 : decode cX12_ground 17 = .ok (.lcmp, 1) := by decide +kernel
theorem dX12_ground_18 : decode cX12_ground 18 = .ok (.ifCond .lt 37, 3) := by decide +kernel
theorem dX12_ground_21 : decode cX12_ground 21 = .ok (.lload_n 2, 1) := by decide +kernel
theorem dX12_ground_22 : decode cX12_ground 22 = .ok (.lconst 1, 1) := by decide +kernel
theorem dX12_ground_23 : decode cX12_ground 23 = .ok (.aload_n 0, 1) := by decide +kernel
theorem dX12_ground_24 : decode cX12_ground 24 = .ok (.getfield 235, 3) := by decide +kernel
theorem dX12_ground_27 : decode cX12_ground 27 = .ok (.lshl, 1) := by decide +kernel
theorem dX12_ground_28 : decode cX12_ground 28 = .ok (.lcmp, 1) := by decide +kernel
theorem dX12_ground_29 : decode cX12_ground 29 = .ok (.ifCond .ge 26, 3) := by decide +kernel
theorem dX12_ground_32 : decode cX12_ground 32 = .ok (.iload 4, 2) := by decide +kernel
theorem dX12_ground_34 : decode cX12_ground 34 = .ok (.iconst 0, 1) := by decide +kernel
theorem dX12_ground_35 : decode cX12_ground 35 = .ok (.sipush 4095, 3) := by decide +kernel
theorem dX12_ground_38 : decode cX12_ground 38 = .ok (.invokestatic 221, 3) := by decide +kernel
theorem dX12_ground_41 : decode cX12_ground 41 = .ok (.ifCond .eq 14, 3) := by decide +kernel
theorem dX12_ground_44 : decode cX12_ground 44 = .ok (.lload_n 2, 1) := by decide +kernel
theorem dX12_ground_45 : decode cX12_ground 45 = .ok (.lconst 0, 1) := by decide +kernel
theorem dX12_ground_46 : decode cX12_ground 46 = .ok (.lcmp, 1) := by decide +kernel
theorem dX12_ground_47 : decode cX12_ground 47 = .ok (.ifCond .ne 10, 3) := by decide +kernel
theorem dX12_ground_50 : decode cX12_ground 50 = .ok (.iload 4, 2) := by decide +kernel
theorem dX12_ground_52 : decode cX12_ground 52 = .ok (.ifCond .ne 5, 3) := by decide +kernel
theorem dX12_ground_55 : decode cX12_ground 55 = .ok (.iconst 0, 1) := by decide +kernel
theorem dX12_ground_56 : decode cX12_ground 56 = .ok (.ireturn, 1) := by decide +kernel
theorem dX12_ground_57 : decode cX12_ground 57 = .ok (.iconst 0, 1) := by decide +kernel
theorem dX12_ground_58 : decode cX12_ground 58 = .ok (.istore 5, 2) := by decide +kernel
theorem dX12_ground_60 : decode cX12_ground 60 = .ok (.iconst 0, 1) := by decide +kernel
theorem dX12_ground_61 : decode cX12_ground 61 = .ok (.istore 6, 2) := by decide +kernel
theorem dX12_ground_63 : decode cX12_ground 63 = .ok (.iload 6, 2) := by decide +kernel
theorem dX12_ground_65 : decode cX12_ground 65 = .ok (.aload_n 0, 1) := by decide +kernel
theorem dX12_ground_66 : decode cX12_ground 66 = .ok (.getfield 508, 3) := by decide +kernel
theorem dX12_ground_69 : decode cX12_ground 69 = .ok (.if_icmp .ge 30, 3) := by decide +kernel
theorem dX12_ground_72 : decode cX12_ground 72 = .ok (.iload 5, 2) := by decide +kernel
theorem dX12_ground_74 : decode cX12_ground 74 = .ok (.aload_n 0, 1) := by decide +kernel
theorem dX12_ground_75 : decode cX12_ground 75 = .ok (.getfield 134, 3) := by decide +kernel
theorem dX12_ground_78 : decode cX12_ground 78 = .ok (.iload 6, 2) := by decide +kernel
theorem dX12_ground_80 : decode cX12_ground 80 = .ok (.iaload, 1) := by decide +kernel
theorem dX12_ground_81 : decode cX12_ground 81 = .ok (.iload_n 1, 1) := by decide +kernel
theorem dX12_ground_82 : decode cX12_ground 82 = .ok (.if_icmp .ne 7, 3) := by decide +kernel
theorem dX12_ground_85 : decode cX12_ground 85 = .ok (.iconst 1, 1) := by decide +kernel
theorem dX12_ground_86 : decode cX12_ground 86 = .ok (.goto 4, 3) := by decide +kernel
theorem dX12_ground_89 : decode cX12_ground 89 = .ok (.iconst 0, 1) := by decide +kernel
theorem dX12_ground_90 : decode cX12_ground 90 = .ok (.iadd, 1) := by decide +kernel
theorem dX12_ground_91 : decode cX12_ground 91 = .ok (.istore 5, 2) := by decide +kernel
theorem dX12_ground_93 : decode cX12_ground 93 = .ok (.iinc 6 1, 3) := by decide +kernel
theorem dX12_ground_96 : decode cX12_ground 96 = .ok (.goto (-33), 3) := by decide +kernel
theorem dX12_ground_99 : decode cX12_ground 99 = .ok (.iload 5, 2) := by decide +kernel
theorem dX12_ground_101 : decode cX12_ground 101 = .ok (.iconst 3, 1) := by decide +kernel
theorem dX12_ground_102 : decode cX12_ground 102 = .ok (.if_icmp .ne 5, 3) := by decide +kernel
theorem dX12_ground_105 : decode cX12_ground 105 = .ok (.iconst 0, 1) := by decide +kernel
theorem dX12_ground_106 : decode cX12_ground 106 = .ok (.ireturn, 1) := by decide +kernel
theorem dX12_ground_107 : decode cX12_ground 107 = .ok (.aload_n 0, 1) := by decide +kernel
theorem dX12_ground_108 : decode cX12_ground 108 = .ok (.getfield 134, 3) := by decide +kernel
theorem dX12_ground_111 : decode cX12_ground 111 = .ok (.aload_n 0, 1) := by decide +kernel
theorem dX12_ground_112 : decode cX12_ground 112 = .ok (.getfield 508, 3) := by decide +kernel
theorem dX12_ground_115 : decode cX12_ground 115 = .ok (.iload_n 1, 1) := by decide +kernel
theorem dX12_ground_116 : decode cX12_ground 116 = .ok (.iastore, 1) := by decide +kernel
theorem dX12_ground_117 : decode cX12_ground 117 = .ok (.aload_n 0, 1) := by decide +kernel
theorem dX12_ground_118 : decode cX12_ground 118 = .ok (.getfield 137, 3) := by decide +kernel
theorem dX12_ground_121 : decode cX12_ground 121 = .ok (.aload_n 0, 1) := by decide +kernel
theorem dX12_ground_122 : decode cX12_ground 122 = .ok (.getfield 508, 3) := by decide +kernel
theorem dX12_ground_125 : decode cX12_ground 125 = .ok (.lload_n 2, 1) := by decide +kernel
theorem dX12_ground_126 : decode cX12_ground 126 = .ok (.lastore, 1) := by decide +kernel
theorem dX12_ground_127 : decode cX12_ground 127 = .ok (.aload_n 0, 1) := by decide +kernel
theorem dX12_ground_128 : decode cX12_ground 128 = .ok (.getfield 141, 3) := by decide +kernel
theorem dX12_ground_131 : decode cX12_ground 131 = .ok (.aload_n 0, 1) := by decide +kernel
theorem dX12_ground_132 : decode cX12_ground 132 = .ok (.getfield 508, 3) := by decide +kernel
theorem dX12_ground_135 : decode cX12_ground 135 = .ok (.iload 4, 2) := by decide +kernel
theorem dX12_ground_137 : decode cX12_ground 137 = .ok (.iastore, 1) := by decide +kernel
theorem dX12_ground_138 : decode cX12_ground 138 = .ok (.aload_n 0, 1) := by decide +kernel
theorem dX12_ground_139 : decode cX12_ground 139 = .ok (.dup, 1) := by decide +kernel
theorem dX12_ground_140 : decode cX12_ground 140 = .ok (.getfield 508, 3) := by decide +kernel
theorem dX12_ground_143 : decode cX12_ground 143 = .ok (.iconst 1, 1) := by decide +kernel
theorem dX12_ground_144 : decode cX12_ground 144 = .ok (.iadd, 1) := by decide +kernel
theorem dX12_ground_145 : decode cX12_ground 145 = .ok (.putfield 508, 3) := by decide +kernel
theorem dX12_ground_148 : decode cX12_ground 148 = .ok (.iconst 1, 1) := by decide +kernel
theorem dX12_ground_149 : decode cX12_ground 149 = .ok (.ireturn, 1) := by decide +kernel
theorem dX12_here_0 : decode cX12_here 0 = .ok (.aload_n 0, 1) := by decide +kernel
theorem dX12_here_1 : decode cX12_here 1 = .ok (.iconst 0, 1) := by decide +kernel
theorem dX12_here_2 : decode cX12_here 2 = .ok (.putfield 214, 3) := by decide +kernel
theorem dX12_here_5 : decode cX12_here 5 = .ok (.iload_n 1, 1) := by decide +kernel
theorem dX12_here_6 : decode cX12_here 6 = .ok (.invokestatic 225, 3) := by decide +kernel
theorem dX12_here_9 : decode cX12_here 9 = .ok (.ifCond .eq 49, 3) := by decide +kernel
theorem dX12_here_12 : decode cX12_here 12 = .ok (.iload_n 2, 1) := by decide +kernel
theorem dX12_here_13 : decode cX12_here 13 = .ok (.invokestatic 217, 3) := by decide +kernel
theorem dX12_here_16 : decode cX12_here 16 = .ok (.ifCond .eq 42, 3) := by decide +kernel
theorem dX12_here_19 : decode cX12_here 19 = .ok (.iload_n 3, 1) := by decide +kernel
theorem dX12_here_20 : decode cX12_here 20 = .ok (.iconst 0, 1) := by decide +kernel
theorem dX12_here_21 : decode cX12_here 21 = .ok (.sipush 999, 3) := by decide +kernel
theorem dX12_here_24 : decode cX12_here 24 = .ok (.invokestatic 221, 3) := by decide +kernel
theorem dX12_here_27 : decode cX12_here 27 = .ok (.ifCond .eq 31, 3) := by decide +kernel
theorem dX12_here_30 : decode cX12_here 30 = .ok (.iload 4, 2) := by decide +kernel
theorem dX12_here_32 : decode cX12_here 32 = .ok (.ifCond .lt 26, 3) := by decide +kernel
theorem dX12_here_35 : decode cX12_here 35 = .ok (.iload 4, 2) := by decide +kernel
theorem dX12_here_37 : decode cX12_here 37 = .ok (.iload 5, 2) := by decide +kernel
theorem dX12_here_39 : decode cX12_here 39 = .ok (.if_icmp .gt 19, 3) := by decide +kernel
theorem dX12_here_42 : decode cX12_here 42 = .ok (.iload 5, 2) := by decide +kernel
theorem dX12_here_44 : decode cX12_here 44 = .ok (.bipush 23, 2) := by decide +kernel
theorem dX12_here_46 : decode cX12_here 46 = .ok (.if_icmp .gt 12, 3) := by decide +kernel
theorem dX12_here_49 : decode cX12_here 49 = .ok (.aload_n 0, 1) := by decide +kernel
theorem dX12_here_50 : decode cX12_here 50 = .ok (.getfield 228, 3) := by decide +kernel
theorem dX12_here_53 : decode cX12_here 53 = .ok (.bipush 80, 2) := by decide +kernel
theorem dX12_here_55 : decode cX12_here 55 = .ok (.if_icmp .ne 5, 3) := by decide +kernel
theorem dX12_here_58 : decode cX12_here 58 = .ok (.iconst 0, 1) := by decide +kernel
theorem dX12_here_59 : decode cX12_here 59 = .ok (.ireturn, 1) := by decide +kernel
theorem dX12_here_60 : decode cX12_here 60 = .ok (.iconst 0, 1) := by decide +kernel
theorem dX12_here_61 : decode cX12_here 61 = .ok (.istore 6, 2) := by decide +kernel
theorem dX12_here_63 : decode cX12_here 63 = .ok (.iload 6, 2) := by decide +kernel
theorem dX12_here_65 : decode cX12_here 65 = .ok (.aload_n 0, 1) := by decide +kernel
theorem dX12_here_66 : decode cX12_here 66 = .ok (.getfield 228, 3) := by decide +kernel
theorem dX12_here_69 : decode cX12_here 69 = .ok (.if_icmp .ge 68, 3) := by decide +kernel
theorem dX12_here_72 : decode cX12_here 72 = .ok (.aload_n 0, 1) := by decide +kernel
theorem dX12_here_73 : decode cX12_here 73 = .ok (.getfield 16, 3) := by decide +kernel
theorem dX12_here_76 : decode cX12_here 76 = .ok (.iload 6, 2) := by decide +kernel
theorem dX12_here_78 : decode cX12_here 78 = .ok (.iaload, 1) := by decide +kernel
theorem dX12_here_79 : decode cX12_here 79 = .ok (.iload_n 1, 1) := by decide +kernel
theorem dX12_here_80 : decode cX12_here 80 = .ok (.if_icmp .ne 51, 3) := by decide +kernel
theorem dX12_here_83 : decode cX12_here 83 = .ok (.aload_n 0, 1) := by decide +kernel
theorem dX12_here_84 : decode cX12_here 84 = .ok (.getfield 22, 3) := by decide +kernel
theorem dX12_here_87 : decode cX12_here 87 = .ok (.iload 6, 2) := by decide +kernel
theorem dX12_here_89 : decode cX12_here 89 = .ok (.iaload, 1) := by decide +kernel
theorem dX12_here_90 : decode cX12_here 90 = .ok (.iload_n 3, 1) := by decide +kernel
theorem dX12_here_91 : decode cX12_here 91 = .ok (.if_icmp .ne 40, 3) := by decide +kernel
theorem dX12_here_94 : decode cX12_here 94 = .ok (.aload_n 0, 1) := by decide +kernel
theorem dX12_here_95 : decode cX12_here 95 = .ok (.getfield 19, 3) := by decide +kernel
theorem dX12_here_98 : decode cX12_here 98 = .ok (.iload 6, 2) := by decide +kernel
theorem dX12_here_100 : decode cX12_here 100 = .ok (.iaload, 1) := by decide +kernel
theorem dX12_here_101 : decode cX12_here 101 = .ok (.iload_n 2, 1) := by decide +kernel
theorem dX12_here_102 : decode cX12_here 102 = .ok (.if_icmp .eq 29, 3) := by decide +kernel
theorem dX12_here_105 : decode cX12_here 105 = .ok (.aload_n 0, 1) := by decide +kernel
theorem dX12_here_106 : decode cX12_here 106 = .ok (.getfield 25, 3) := by decide +kernel
theorem dX12_here_109 : decode cX12_here 109 = .ok (.iload 6, 2) := by decide +kernel
theorem dX12_here_111 : decode cX12_here 111 = .ok (.iaload, 1) := by decide +kernel
theorem dX12_here_112 : decode cX12_here 112 = .ok (.iload 5, 2) := by decide +kernel
theorem dX12_here_114 : decode cX12_here 114 = .ok (.if_icmp .gt 17, 3) := by decide +kernel
theorem dX12_here_117 : decode cX12_here 117 = .ok (.aload_n 0, 1) := by decide +kernel
theorem dX12_here_118 : decode cX12_here 118 = .ok (.getfield 28, 3) := by decide +kernel
theorem dX12_here_121 : decode cX12_here 121 = .ok (.iload 6, 2) := by decide +kernel
theorem dX12_here_123 : decode cX12_here 123 = .ok (.iaload, 1) := by decide +kernel
theorem dX12_here_124 : decode cX12_here 124 = .ok (.iload 4, 2) := by decide +kernel
theorem dX12_here_126 : decode cX12_here 126 = .ok (.if_icmp .lt 5, 3) := by decide +kernel
theorem dX12_here_129 : decode cX12_here 129 = .ok (.iconst 0, 1) := by decide +kernel
theorem dX12_here_130 : decode cX12_here 130 = .ok (.ireturn, 1) := by decide +kernel
theorem dX12_here_131 : decode cX12_here 131 = .ok (.iinc 6 1, 3) := by decide +kernel
theorem dX12_here_134 : decode cX12_here 134 = .ok (.goto (-71), 3) := by decide +kernel
theorem dX12_here_137 : decode cX12_here 137 = .ok (.aload_n 0, 1) := by decide +kernel
theorem dX12_here_138 : decode cX12_here 138 = .ok (.getfield 16, 3) := by decide +kernel
theorem dX12_here_141 : decode cX12_here 141 = .ok (.aload_n 0, 1) := by decide +kernel
theorem dX12_here_142 : decode cX12_here 142 = .ok (.getfield 228, 3) := by decide +kernel
theorem dX12_here_145 : decode cX12_here 145 = .ok (.iload_n 1, 1) := by decide +kernel
theorem dX12_here_146 : decode cX12_here 146 = .ok (.iastore, 1) := by decide +kernel
theorem dX12_here_147 : decode cX12_here 147 = .ok (.aload_n 0, 1) := by decide +kernel
theorem dX12_here_148 : decode cX12_here 148 = .ok (.getfield 19, 3) := by decide +kernel
theorem dX12_here_151 : decode cX12_here 151 = .ok (.aload_n 0, 1) := by decide +kernel
theorem dX12_here_152 : decode cX12_here 152 = .ok (.getfield 228, 3) := by decide +kernel
theorem dX12_here_155 : decode cX12_here 155 = .ok (.iload_n 2, 1) := by decide +kernel
theorem dX12_here_156 : decode cX12_here 156 = .ok (.iastore, 1) := by decide +kernel
theorem dX12_here_157 : decode cX12_here 157 = .ok (.aload_n 0, 1) := by decide +kernel
theorem dX12_here_158 : decode cX12_here 158 = .ok (.getfield 22, 3) := by decide +kernel
theorem dX12_here_161 : decode cX12_here 161 = .ok (.aload_n 0, 1) := by decide +kernel
theorem dX12_here_162 : decode cX12_here 162 = .ok (.getfield 228, 3) := by decide +kernel
theorem dX12_here_165 : decode cX12_here 165 = .ok (.iload_n 3, 1) := by decide +kernel
theorem dX12_here_166 : decode cX12_here 166 = .ok (.iastore, 1) := by decide +kernel
theorem dX12_here_167 : decode cX12_here 167 = .ok (.aload_n 0, 1) := by decide +kernel
theorem dX12_here_168 : decode cX12_here 168 = .ok (.getfield 25, 3) := by decide +kernel
theorem dX12_here_171 : decode cX12_here 171 = .ok (.aload_n 0, 1) := by decide +kernel
theorem dX12_here_172 : decode cX12_here 172 = .ok (.getfield 228, 3) := by decide +kernel
theorem dX12_here_175 : decode cX12_here 175 = .ok (.iload 4, 2) := by decide +kernel
theorem dX12_here_177 : decode cX12_here 177 = .ok (.iastore, 1) := by decide +kernel
theorem dX12_here_178 : decode cX12_here 178 = .ok (.aload_n 0, 1) := by decide +kernel
theorem dX12_here_179 : decode cX12_here 179 = .ok (.getfield 28, 3) := by decide +kernel
theorem dX12_here_182 : decode cX12_here 182 = .ok (.aload_n 0, 1) := by decide +kernel
theorem dX12_here_183 : decode cX12_here 183 = .ok (.getfield 228, 3) := by decide +kernel
theorem dX12_here_186 : decode cX12_here 186 = .ok (.iload 5, 2) := by decide +kernel
theorem dX12_here_188 : decode cX12_here 188 = .ok (.iastore, 1) := by decide +kernel
theorem dX12_here_189 : decode cX12_here 189 = .ok (.aload_n 0, 1) := by decide +kernel
theorem dX12_here_190 : decode cX12_here 190 = .ok (.dup, 1) := by decide +kernel
theorem dX12_here_191 : decode cX12_here 191 = .ok (.getfield 228, 3) := by decide +kernel
theorem dX12_here_194 : decode cX12_here 194 = .ok (.iconst 1, 1) := by decide +kernel
theorem dX12_here_195 : decode cX12_here 195 = .ok (.iadd, 1) := by decide +kernel
theorem dX12_here_196 : decode cX12_here 196 = .ok (.putfield 228, 3) := by decide +kernel
theorem dX12_here_199 : decode cX12_here 199 = .ok (.iconst 1, 1) := by decide +kernel
theorem dX12_here_200 : decode cX12_here 200 = .ok (.ireturn, 1) := by decide +kernel
theorem dX12_isFind_0 : decode cX12_isFind 0 = .ok (.iload_n 1, 1) := by decide +kernel
theorem dX12_isFind_1 : decode cX12_isFind 1 = .ok (.ifCond .lt 15, 3) := by decide +kernel
theorem dX12_isFind_4 : decode cX12_isFind 4 = .ok (.iload_n 1, 1) := by decide +kernel
theorem dX12_isFind_5 : decode cX12_isFind 5 = .ok (.aload_n 0, 1) := by decide +kernel
theorem dX12_isFind_6 : decode cX12_isFind 6 = .ok (.getfield 235, 3) := by decide +kernel
theorem dX12_isFind_9 : decode cX12_isFind 9 = .ok (.if_icmp .ge 7, 3) := by decide +kernel
theorem dX12_isFind_12 : decode cX12_isFind 12 = .ok (.iconst 1, 1) := by decide +kernel
theorem dX12_isFind_13 : decode cX12_isFind 13 = .ok (.goto 4, 3) := by decide +kernel
theorem dX12_isFind_16 : decode cX12_isFind 16 = .ok (.iconst 0, 1) := by decide +kernel
theorem dX12_isFind_17 : decode cX12_isFind 17 = .ok (.ireturn, 1) := by decide +kernel
theorem dX12_isHand_0 : decode cX12_isHand 0 = .ok (.iload_n 0, 1) := by decide +kernel
theorem dX12_isHand_1 : decode cX12_isHand 1 = .ok (.ifCond .lt 13, 3) := by decide +kernel
theorem dX12_isHand_4 : decode cX12_isHand 4 = .ok (.iload_n 0, 1) := by decide +kernel
theorem dX12_isHand_5 : decode cX12_isHand 5 = .ok (.bipush 10, 2) := by decide +kernel
theorem dX12_isHand_7 : decode cX12_isHand 7 = .ok (.if_icmp .ge 7, 3) := by decide +kernel
theorem dX12_isHand_10 : decode cX12_isHand 10 = .ok (.iconst 1, 1) := by decide +kernel
theorem dX12_isHand_11 : decode cX12_isHand 11 = .ok (.goto 4, 3) := by decide +kernel
theorem dX12_isHand_14 : decode cX12_isHand 14 = .ok (.iconst 0, 1) := by decide +kernel
theorem dX12_isHand_15 : decode cX12_isHand 15 = .ok (.ireturn, 1) := by decide +kernel
theorem dX12_isSign_0 : decode cX12_isSign 0 = .ok (.aload_n 0, 1) := by decide +kernel
theorem dX12_isSign_1 : decode cX12_isSign 1 = .ok (.getfield 277, 3) := by decide +kernel
theorem dX12_isSign_4 : decode cX12_isSign 4 = .ok (.iconst 3, 1) := by decide +kernel
theorem dX12_isSign_5 : decode cX12_isSign 5 = .ok (.if_icmp .ne 20, 3) := by decide +kernel
theorem dX12_isSign_8 : decode cX12_isSign 8 = .ok (.aload_n 0, 1) := by decide +kernel
theorem dX12_isSign_9 : decode cX12_isSign 9 = .ok (.getfield 52, 3) := by decide +kernel
theorem dX12_isSign_12 : decode cX12_isSign 12 = .ok (.aload_n 0, 1) := by decide +kernel
theorem dX12_isSign_13 : decode cX12_isSign 13 = .ok (.getfield 267, 3) := by decide +kernel
theorem dX12_isSign_16 : decode cX12_isSign 16 = .ok (.iaload, 1) := by decide +kernel
theorem dX12_isSign_17 : decode cX12_isSign 17 = .ok (.iload_n 1, 1) := by decide +kernel
theorem dX12_isSign_18 : decode cX12_isSign 18 = .ok (.if_icmp .ne 7, 3) := by decide +kernel
theorem dX12_isSign_21 : decode cX12_isSign 21 = .ok (.iconst 1, 1) := by decide +kernel
theorem dX12_isSign_22 : decode cX12_isSign 22 = .ok (.goto 4, 3) := by decide +kernel
theorem dX12_isSign_25 : decode cX12_isSign 25 = .ok (.iconst 0, 1) := by decide +kernel
theorem dX12_isSign_26 : decode cX12_isSign 26 = .ok (.ireturn, 1) := by decide +kernel
theorem dX12_isSite_0 : decode cX12_isSite 0 = .ok (.iload_n 0, 1) := by decide +kernel
theorem dX12_isSite_1 : decode cX12_isSite 1 = .ok (.ifCond .lt 13, 3) := by decide +kernel
theorem dX12_isSite_4 : decode cX12_isSite 4 = .ok (.iload_n 0, 1) := by decide +kernel
theorem dX12_isSite_5 : decode cX12_isSite 5 = .ok (.bipush 8, 2) := by decide +kernel
theorem dX12_isSite_7 : decode cX12_isSite 7 = .ok (.if_icmp .ge 7, 3) := by decide +kernel
theorem dX12_isSite_10 : decode cX12_isSite 10 = .ok (.iconst 1, 1) := by decide +kernel
theorem dX12_isSite_11 : decode cX12_isSite 11 = .ok (.goto 4, 3) := by decide +kernel
theorem dX12_isSite_14 : decode cX12_isSite 14 = .ok (.iconst 0, 1) := by decide +kernel
theorem dX12_isSite_15 : decode cX12_isSite 15 = .ok (.ireturn, 1) := by decide +kernel
theorem dX12_isStopped_0 : decode cX12_isStopped 0 = .ok (.aload_n 0, 1) := by decide +kernel
theorem dX12_isStopped_1 : decode cX12_isStopped 1 = .ok (.iload_n 2, 1) := by decide +kernel
theorem dX12_isStopped_2 : decode cX12_isStopped 2 = .ok (.invokevirtual 429, 3) := by decide +kernel
theorem dX12_isStopped_5 : decode cX12_isStopped 5 = .ok (.aload_n 0, 1) := by decide +kernel
theorem dX12_isStopped_6 : decode cX12_isStopped 6 = .ok (.bipush 12, 2) := by decide +kernel
theorem dX12_isStopped_8 : decode cX12_isStopped 8 = .ok (.iload_n 1, 1) := by decide +kernel
theorem dX12_isStopped_9 : decode cX12_isStopped 9 = .ok (.iadd, 1) := by decide +kernel
theorem dX12_isStopped_10 : decode cX12_isStopped 10 = .ok (.invokevirtual 435, 3) := by decide +kernel
theorem dX12_isStopped_13 : decode cX12_isStopped 13 = .ok (.ifCond .eq 7, 3) := by decide +kernel
theorem dX12_isStopped_16 : decode cX12_isStopped 16 = .ok (.iconst 1, 1) := by decide +kernel
theorem dX12_isStopped_17 : decode cX12_isStopped 17 = .ok (.goto 4, 3) := by decide +kernel
theorem dX12_isStopped_20 : decode cX12_isStopped 20 = .ok (.iconst 0, 1) := by decide +kernel
theorem dX12_isStopped_21 : decode cX12_isStopped 21 = .ok (.ireturn, 1) := by decide +kernel
theorem dX12_isTwin_0 : decode cX12_isTwin 0 = .ok (.iload_n 1, 1) := by decide +kernel
theorem dX12_isTwin_1 : decode cX12_isTwin 1 = .ok (.iload_n 2, 1) := by decide +kernel
theorem dX12_isTwin_2 : decode cX12_isTwin 2 = .ok (.if_icmp .eq 50, 3) := by decide +kernel
theorem dX12_isTwin_5 : decode cX12_isTwin 5 = .ok (.aload_n 0, 1) := by decide +kernel
theorem dX12_isTwin_6 : decode cX12_isTwin 6 = .ok (.getfield 49, 3) := by decide +kernel
theorem dX12_isTwin_9 : decode cX12_isTwin 9 = .ok (.iload_n 1, 1) := by decide +kernel
theorem dX12_isTwin_10 : decode cX12_isTwin 10 = .ok (.iaload, 1) := by decide +kernel
theorem dX12_isTwin_11 : decode cX12_isTwin 11 = .ok (.aload_n 0, 1) := by decide +kernel
theorem dX12_isTwin_12 : decode cX12_isTwin 12 = .ok (.getfield 49, 3) := by decide +kernel
theorem dX12_isTwin_15 : decode cX12_isTwin 15 = .ok (.iload_n 2, 1) := by decide +kernel
theorem dX12_isTwin_16 : decode cX12_isTwin 16 = .ok (.iaload, 1) := by decide +kernel
theorem dX12_isTwin_17 : decode cX12_isTwin 17 = .ok (.if_icmp .ne 35, 3) := by decide +kernel
theorem dX12_isTwin_20 : decode cX12_isTwin 20 = .ok (.aload_n 0, 1) := by decide +kernel
theorem dX12_isTwin_21 : decode cX12_isTwin 21 = .ok (.getfield 13, 3) := by decide +kernel
theorem dX12_isTwin_24 : decode cX12_isTwin 24 = .ok (.bipush 8, 2) := by decide +kernel
theorem dX12_isTwin_26 : decode cX12_isTwin 26 = .ok (.aload_n 0, 1) := by decide +kernel
theorem dX12_isTwin_27 : decode cX12_isTwin 27 = .ok (.getfield 31, 3) := by decide +kernel
theorem dX12_isTwin_30 : decode cX12_isTwin 30 = .ok (.iload_n 1, 1) := by decide +kernel
theorem dX12_isTwin_31 : decode cX12_isTwin 31 = .ok (.iaload, 1) := by decide +kernel
theorem dX12_isTwin_32 : decode cX12_isTwin 32 = .ok (.imul, 1) := by decide +kernel
theorem dX12_isTwin_33 : decode cX12_isTwin 33 = .ok (.aload_n 0, 1) := by decide +kernel
theorem dX12_isTwin_34 : decode cX12_isTwin 34 = .ok (.getfield 31, 3) := by decide +kernel
theorem dX12_isTwin_37 : decode cX12_isTwin 37 = .ok (.iload_n 2, 1) := by decide +kernel
theorem dX12_isTwin_38 : decode cX12_isTwin 38 = .ok (.iaload, 1) := by decide +kernel
theorem dX12_isTwin_39 : decode cX12_isTwin 39 = .ok (.iadd, 1) := by decide +kernel
theorem dX12_isTwin_40 : decode cX12_isTwin 40 = .ok (.iaload, 1) := by decide +kernel
theorem dX12_isTwin_41 : decode cX12_isTwin 41 = .ok (.aload_n 0, 1) := by decide +kernel
theorem dX12_isTwin_42 : decode cX12_isTwin 42 = .ok (.getfield 211, 3) := by decide +kernel
theorem dX12_isTwin_45 : decode cX12_isTwin 45 = .ok (.if_icmp .le 7, 3) := by decide +kernel
theorem dX12_isTwin_48 : decode cX12_isTwin 48 = .ok (.iconst 1, 1) := by decide +kernel
theorem dX12_isTwin_49 : decode cX12_isTwin 49 = .ok (.goto 4, 3) := by decide +kernel
theorem dX12_isTwin_52 : decode cX12_isTwin 52 = .ok (.iconst 0, 1) := by decide +kernel
theorem dX12_isTwin_53 : decode cX12_isTwin 53 = .ok (.ireturn, 1) := by decide +kernel
theorem dX12_isWord_0 : decode cX12_isWord 0 = .ok (.aload_n 0, 1) := by decide +kernel
theorem dX12_isWord_1 : decode cX12_isWord 1 = .ok (.getfield 277, 3) := by decide +kernel
theorem dX12_isWord_4 : decode cX12_isWord 4 = .ok (.iconst 1, 1) := by decide +kernel
theorem dX12_isWord_5 : decode cX12_isWord 5 = .ok (.if_icmp .ne 16, 3) := by decide +kernel
theorem dX12_isWord_8 : decode cX12_isWord 8 = .ok (.aload_n 0, 1) := by decide +kernel
theorem dX12_isWord_9 : decode cX12_isWord 9 = .ok (.getfield 270, 3) := by decide +kernel
theorem dX12_isWord_12 : decode cX12_isWord 12 = .ok (.lload_n 1, 1) := by decide +kernel
theorem dX12_isWord_13 : decode cX12_isWord 13 = .ok (.lcmp, 1) := by decide +kernel
theorem dX12_isWord_14 : decode cX12_isWord 14 = .ok (.ifCond .ne 7, 3) := by decide +kernel
theorem dX12_isWord_17 : decode cX12_isWord 17 = .ok (.iconst 1, 1) := by decide +kernel
theorem dX12_isWord_18 : decode cX12_isWord 18 = .ok (.goto 4, 3) := by decide +kernel
theorem dX12_isWord_21 : decode cX12_isWord 21 = .ok (.iconst 0, 1) := by decide +kernel
theorem dX12_isWord_22 : decode cX12_isWord 22 = .ok (.ireturn, 1) := by decide +kernel
theorem dX12_judged_0 : decode cX12_judged 0 = .ok (.iconst 0, 1) := by decide +kernel
theorem dX12_judged_1 : decode cX12_judged 1 = .ok (.istore_n 1, 1) := by decide +kernel
theorem dX12_judged_2 : decode cX12_judged 2 = .ok (.iload_n 1, 1) := by decide +kernel
theorem dX12_judged_3 : decode cX12_judged 3 = .ok (.bipush 6, 2) := by decide +kernel
theorem dX12_judged_5 : decode cX12_judged 5 = .ok (.if_icmp .ge 28, 3) := by decide +kernel
theorem dX12_judged_8 : decode cX12_judged 8 = .ok (.aload_n 0, 1) := by decide +kernel
theorem dX12_judged_9 : decode cX12_judged 9 = .ok (.getfield 55, 3) := by decide +kernel
theorem dX12_judged_12 : decode cX12_judged 12 = .ok (.iload_n 1, 1) := by decide +kernel
theorem dX12_judged_13 : decode cX12_judged 13 = .ok (.baload, 1) := by decide +kernel
theorem dX12_judged_14 : decode cX12_judged 14 = .ok (.ifCond .eq 13, 3) := by decide +kernel
theorem dX12_judged_17 : decode cX12_judged 17 = .ok (.aload_n 0, 1) := by decide +kernel
theorem dX12_judged_18 : decode cX12_judged 18 = .ok (.iload_n 1, 1) := by decide +kernel
theorem dX12_judged_19 : decode cX12_judged 19 = .ok (.invokevirtual 435, 3) := by decide +kernel
theorem dX12_judged_22 : decode cX12_judged 22 = .ok (.ifCond .eq 5, 3) := by decide +kernel
theorem dX12_judged_25 : decode cX12_judged 25 = .ok (.iconst 2, 1) := by decide +kernel
theorem dX12_judged_26 : decode cX12_judged 26 = .ok (.ireturn, 1) := by decide +kernel
theorem dX12_judged_27 : decode cX12_judged 27 = .ok (.iinc 1 1, 3) := by decide +kernel
theorem dX12_judged_30 : decode cX12_judged 30 = .ok (.goto (-28), 3) := by decide +kernel
theorem dX12_judged_33 : decode cX12_judged 33 = .ok (.bipush 6, 2) := by decide +kernel
theorem dX12_judged_35 : decode cX12_judged 35 = .ok (.istore_n 1, 1) := by decide +kernel
theorem dX12_judged_36 : decode cX12_judged 36 = .ok (.iload_n 1, 1) := by decide +kernel
theorem dX12_judged_37 : decode cX12_judged 37 = .ok (.bipush 12, 2) := by decide +kernel
theorem dX12_judged_39 : decode cX12_judged 39 = .ok (.if_icmp .ge 28, 3) := by decide +kernel
theorem dX12_judged_42 : decode cX12_judged 42 = .ok (.aload_n 0, 1) := by decide +kernel
theorem dX12_judged_43 : decode cX12_judged 43 = .ok (.getfield 55, 3) := by decide +kernel
theorem dX12_judged_46 : decode cX12_judged 46 = .ok (.iload_n 1, 1) := by decide +kernel
theorem dX12_judged_47 : decode cX12_judged 47 = .ok (.baload, 1) := by decide +kernel
theorem dX12_judged_48 : decode cX12_judged 48 = .ok (.ifCond .eq 13, 3) := by decide +kernel
theorem dX12_judged_51 : decode cX12_judged 51 = .ok (.aload_n 0, 1) := by decide +kernel
theorem dX12_judged_52 : decode cX12_judged 52 = .ok (.iload_n 1, 1) := by decide +kernel
theorem dX12_judged_53 : decode cX12_judged 53 = .ok (.invokevirtual 435, 3) := by decide +kernel
theorem dX12_judged_56 : decode cX12_judged 56 = .ok (.ifCond .eq 5, 3) := by decide +kernel
theorem dX12_judged_59 : decode cX12_judged 59 = .ok (.iconst 1, 1) := by decide +kernel
theorem dX12_judged_60 : decode cX12_judged 60 = .ok (.ireturn, 1) := by decide +kernel
theorem dX12_judged_61 : decode cX12_judged 61 = .ok (.iinc 1 1, 3) := by decide +kernel
theorem dX12_judged_64 : decode cX12_judged 64 = .ok (.goto (-28), 3) := by decide +kernel
theorem dX12_judged_67 : decode cX12_judged 67 = .ok (.iconst 0, 1) := by decide +kernel
theorem dX12_judged_68 : decode cX12_judged 68 = .ok (.ireturn, 1) := by decide +kernel
theorem dX12_knows_0 : decode cX12_knows 0 = .ok (.iconst 0, 1) := by decide +kernel
theorem dX12_knows_1 : decode cX12_knows 1 = .ok (.istore_n 1, 1) := by decide +kernel
theorem dX12_knows_2 : decode cX12_knows 2 = .ok (.iload_n 1, 1) := by decide +kernel
theorem dX12_knows_3 : decode cX12_knows 3 = .ok (.aload_n 0, 1) := by decide +kernel
theorem dX12_knows_4 : decode cX12_knows 4 = .ok (.getfield 235, 3) := by decide +kernel
theorem dX12_knows_7 : decode cX12_knows 7 = .ok (.if_icmp .ge 88, 3) := by decide +kernel
theorem dX12_knows_10 : decode cX12_knows 10 = .ok (.aload_n 0, 1) := by decide +kernel
theorem dX12_knows_11 : decode cX12_knows 11 = .ok (.getfield 122, 3) := by decide +kernel
theorem dX12_knows_14 : decode cX12_knows 14 = .ok (.iload_n 1, 1) := by decide +kernel
theorem dX12_knows_15 : decode cX12_knows 15 = .ok (.aload_n 0, 1) := by decide +kernel
theorem dX12_knows_16 : decode cX12_knows 16 = .ok (.iload_n 1, 1) := by decide +kernel
theorem dX12_knows_17 : decode cX12_knows 17 = .ok (.invokevirtual 438, 3) := by decide +kernel
theorem dX12_knows_20 : decode cX12_knows 20 = .ok (.iastore, 1) := by decide +kernel
theorem dX12_knows_21 : decode cX12_knows 21 = .ok (.aload_n 0, 1) := by decide +kernel
theorem dX12_knows_22 : decode cX12_knows 22 = .ok (.getfield 125, 3) := by decide +kernel
theorem dX12_knows_25 : decode cX12_knows 25 = .ok (.iload_n 1, 1) := by decide +kernel
theorem dX12_knows_26 : decode cX12_knows 26 = .ok (.aload_n 0, 1) := by decide +kernel
theorem dX12_knows_27 : decode cX12_knows 27 = .ok (.iload_n 1, 1) := by decide +kernel
theorem dX12_knows_28 : decode cX12_knows 28 = .ok (.invokevirtual 478, 3) := by decide +kernel
theorem dX12_knows_31 : decode cX12_knows 31 = .ok (.iastore, 1) := by decide +kernel
theorem dX12_knows_32 : decode cX12_knows 32 = .ok (.aload_n 0, 1) := by decide +kernel
theorem dX12_knows_33 : decode cX12_knows 33 = .ok (.iload_n 1, 1) := by decide +kernel
theorem dX12_knows_34 : decode cX12_knows 34 = .ok (.aload_n 0, 1) := by decide +kernel
theorem dX12_knows_35 : decode cX12_knows 35 = .ok (.getfield 125, 3) := by decide +kernel
theorem dX12_knows_38 : decode cX12_knows 38 = .ok (.iload_n 1, 1) := by decide +kernel
theorem dX12_knows_39 : decode cX12_knows 39 = .ok (.iaload, 1) := by decide +kernel
theorem dX12_knows_40 : decode cX12_knows 40 = .ok (.invokevirtual 481, 3) := by decide +kernel
theorem dX12_knows_43 : decode cX12_knows 43 = .ok (.istore_n 2, 1) := by decide +kernel
theorem dX12_knows_44 : decode cX12_knows 44 = .ok (.aload_n 0, 1) := by decide +kernel
theorem dX12_knows_45 : decode cX12_knows 45 = .ok (.getfield 128, 3) := by decide +kernel
theorem dX12_knows_48 : decode cX12_knows 48 = .ok (.iload_n 1, 1) := by decide +kernel
theorem dX12_knows_49 : decode cX12_knows 49 = .ok (.iload_n 2, 1) := by decide +kernel
theorem dX12_knows_50 : decode cX12_knows 50 = .ok (.ifCond .eq 7, 3) := by decide +kernel
theorem dX12_knows_53 : decode cX12_knows 53 = .ok (.iload_n 2, 1) := by decide +kernel
theorem dX12_knows_54 : decode cX12_knows 54 = .ok (.goto 9, 3) := by decide +kernel
theorem dX12_knows_57 : decode cX12_knows 57 = .ok (.aload_n 0, 1) := by decide +kernel
theorem dX12_knows_58 : decode cX12_knows 58 = .ok (.getfield 125, 3) := by decide +kernel
theorem dX12_knows_61 : decode cX12_knows 61 = .ok (.iload_n 1, 1) := by decide +kernel
theorem dX12_knows_62 : decode cX12_knows 62 = .ok (.iaload, 1) := by decide +kernel
theorem dX12_knows_63 : decode cX12_knows 63 = .ok (.iastore, 1) := by decide +kernel
theorem dX12_knows_64 : decode cX12_knows 64 = .ok (.aload_n 0, 1) := by decide +kernel
theorem dX12_knows_65 : decode cX12_knows 65 = .ok (.getfield 131, 3) := by decide +kernel
theorem dX12_knows_68 : decode cX12_knows 68 = .ok (.iload_n 1, 1) := by decide +kernel
theorem dX12_knows_69 : decode cX12_knows 69 = .ok (.iload_n 2, 1) := by decide +kernel
theorem dX12_knows_70 : decode cX12_knows 70 = .ok (.ifCond .ne 13, 3) := by decide +kernel
theorem dX12_knows_73 : decode cX12_knows 73 = .ok (.aload_n 0, 1) := by decide +kernel
theorem dX12_knows_74 : decode cX12_knows 74 = .ok (.getfield 122, 3) := by decide +kernel
theorem dX12_knows_77 : decode cX12_knows 77 = .ok (.iload_n 1, 1) := by decide +kernel
theorem dX12_knows_78 : decode cX12_knows 78 = .ok (.iaload, 1) := by decide +kernel
theorem dX12_knows_79 : decode cX12_knows 79 = .ok (.iconst 2, 1) := by decide +kernel
theorem dX12_knows_80 : decode cX12_knows 80 = .ok (.if_icmp .ne 7, 3) := by decide +kernel
theorem dX12_knows_83 : decode cX12_knows 83 = .ok (.iconst 1, 1) := by decide +kernel
theorem dX12_knows_84 : decode cX12_knows 84 = .ok (.goto 4, 3) := by decide +kernel
theorem dX12_knows_87 : decode cX12_knows 87 = .ok (.iconst 0, 1) := by decide +kernel
theorem dX12_knows_88 : decode cX12_knows 88 = .ok (.bastore, 1) := by decide +kernel
theorem dX12_knows_89 : decode cX12_knows 89 = .ok (.iinc 1 1, 3) := by decide +kernel
theorem dX12_knows_92 : decode cX12_knows 92 = .ok (.goto (-90), 3) := by decide +kernel
theorem dX12_knows_95 : decode cX12_knows 95 = .ok (.aload_n 0, 1) := by decide +kernel
theorem dX12_knows_96 : decode cX12_knows 96 = .ok (.iconst 0, 1) := by decide +kernel
theorem dX12_knows_97 : decode cX12_knows 97 = .ok (.putfield 484, 3) := by decide +kernel
theorem dX12_knows_100 : decode cX12_knows 100 = .ok (.aload_n 0, 1) := by decide +kernel
theorem dX12_knows_101 : decode cX12_knows 101 = .ok (.bipush 99, 2) := by decide +kernel
theorem dX12_knows_103 : decode cX12_knows 103 = .ok (.putfield 487, 3) := by decide +kernel
theorem dX12_knows_106 : decode cX12_knows 106 = .ok (.aload_n 0, 1) := by decide +kernel
theorem dX12_knows_107 : decode cX12_knows 107 = .ok (.iconst (-1), 1) := by decide +kernel
theorem dX12_knows_108 : decode cX12_knows 108 = .ok (.putfield 490, 3) := by decide +kernel
theorem dX12_knows_111 : decode cX12_knows 111 = .ok (.aload_n 0, 1) := by decide +kernel
theorem dX12_knows_112 : decode cX12_knows 112 = .ok (.iconst 0, 1) := by decide +kernel
theorem dX12_knows_113 : decode cX12_knows 113 = .ok (.putfield 493, 3) := by decide +kernel
theorem dX12_knows_116 : decode cX12_knows 116 = .ok (.aload_n 0, 1) := by decide +kernel
theorem dX12_knows_117 : decode cX12_knows 117 = .ok (.iconst 0, 1) := by decide +kernel
theorem dX12_knows_118 : decode cX12_knows 118 = .ok (.putfield 496, 3) := by decide +kernel
theorem dX12_knows_121 : decode cX12_knows 121 = .ok (.iconst 0, 1) := by decide +kernel
theorem dX12_knows_122 : decode cX12_knows 122 = .ok (.istore_n 1, 1) := by decide +kernel
theorem dX12_knows_123 : decode cX12_knows 123 = .ok (.iload_n 1, 1) := by decide +kernel
theorem dX12_knows_124 : decode cX12_knows 124 = .ok (.sipush 1024, 3) := by decide +kernel
theorem dX12_knows_127 : decode cX12_knows 127 = .ok (.if_icmp .ge 94, 3) := by decide +kernel
theorem dX12_knows_130 : decode cX12_knows 130 = .ok (.aload_n 0, 1) := by decide +kernel
theorem dX12_knows_131 : decode cX12_knows 131 = .ok (.iload_n 1, 1) := by decide +kernel
theorem dX12_knows_132 : decode cX12_knows 132 = .ok (.invokevirtual 499, 3) := by decide +kernel
theorem dX12_knows_135 : decode cX12_knows 135 = .ok (.ifCond .ne 6, 3) := by decide +kernel
theorem dX12_knows_138 : decode cX12_knows 138 = .ok (.goto 77, 3) := by decide +kernel
theorem dX12_knows_141 : decode cX12_knows 141 = .ok (.aload_n 0, 1) := by decide +kernel
theorem dX12_knows_142 : decode cX12_knows 142 = .ok (.dup, 1) := by decide +kernel
theorem dX12_knows_143 : decode cX12_knows 143 = .ok (.getfield 484, 3) := by decide +kernel
theorem dX12_knows_146 : decode cX12_knows 146 = .ok (.iconst 1, 1) := by decide +kernel
theorem dX12_knows_147 : decode cX12_knows 147 = .ok (.iadd, 1) := by decide +kernel
theorem dX12_knows_148 : decode cX12_knows 148 = .ok (.putfield 484, 3) := by decide +kernel
theorem dX12_knows_151 : decode cX12_knows 151 = .ok (.iload_n 1, 1) := by decide +kernel
theorem dX12_knows_152 : decode cX12_knows 152 = .ok (.invokestatic 242, 3) := by decide +kernel
theorem dX12_knows_155 : decode cX12_knows 155 = .ok (.istore_n 2, 1) := by decide +kernel
theorem dX12_knows_156 : decode cX12_knows 156 = .ok (.iload_n 2, 1) := by decide +kernel
theorem dX12_knows_157 : decode cX12_knows 157 = .ok (.aload_n 0, 1) := by decide +kernel
theorem dX12_knows_158 : decode cX12_knows 158 = .ok (.getfield 487, 3) := by decide +kernel
theorem dX12_knows_161 : decode cX12_knows 161 = .ok (.if_icmp .le 6, 3) := by decide +kernel
theorem dX12_knows_164 : decode cX12_knows 164 = .ok (.goto 51, 3) := by decide +kernel
theorem dX12_knows_167 : decode cX12_knows 167 = .ok (.iload_n 2, 1) := by decide +kernel
theorem dX12_knows_168 : decode cX12_knows 168 = .ok (.aload_n 0, 1) := by decide +kernel
theorem dX12_knows_169 : decode cX12_knows 169 = .ok (.getfield 487, 3) := by decide +kernel
theorem dX12_knows_172 : decode cX12_knows 172 = .ok (.if_icmp .ge 23, 3) := by decide +kernel
theorem dX12_knows_175 : decode cX12_knows 175 = .ok (.aload_n 0, 1) := by decide +kernel
theorem dX12_knows_176 : decode cX12_knows 176 = .ok (.iload_n 2, 1) := by decide +kernel
theorem dX12_knows_177 : decode cX12_knows 177 = .ok (.putfield 487, 3) := by decide +kernel
theorem dX12_knows_180 : decode cX12_knows 180 = .ok (.aload_n 0, 1) := by decide +kernel
theorem dX12_knows_181 : decode cX12_knows 181 = .ok (.iload_n 1, 1) := by decide +kernel
theorem dX12_knows_182 : decode cX12_knows 182 = .ok (.putfield 490, 3) := by decide +kernel
theorem dX12_knows_185 : decode cX12_knows 185 = .ok (.aload_n 0, 1) := by decide +kernel
theorem dX12_knows_186 : decode cX12_knows 186 = .ok (.iload_n 1, 1) := by decide +kernel
theorem dX12_knows_187 : decode cX12_knows 187 = .ok (.putfield 493, 3) := by decide +kernel
theorem dX12_knows_190 : decode cX12_knows 190 = .ok (.aload_n 0, 1) := by decide +kernel
theorem dX12_knows_191 : decode cX12_knows 191 = .ok (.iload_n 1, 1) := by decide +kernel
theorem dX12_knows_192 : decode cX12_knows 192 = .ok (.putfield 496, 3) := by decide +kernel
theorem dX12_knows_195 : decode cX12_knows 195 = .ok (.aload_n 0, 1) := by decide +kernel
theorem dX12_knows_196 : decode cX12_knows 196 = .ok (.dup, 1) := by decide +kernel
theorem dX12_knows_197 : decode cX12_knows 197 = .ok (.getfield 493, 3) := by decide +kernel
theorem dX12_knows_200 : decode cX12_knows 200 = .ok (.iload_n 1, 1) := by decide +kernel
theorem dX12_knows_201 : decode cX12_knows 201 = .ok (.iand, 1) := by decide +kernel
theorem dX12_knows_202 : decode cX12_knows 202 = .ok (.putfield 493, 3) := by decide +kernel
theorem dX12_knows_205 : decode cX12_knows 205 = .ok (.aload_n 0, 1) := by decide +kernel
theorem dX12_knows_206 : decode cX12_knows 206 = .ok (.dup, 1) := by decide +kernel
theorem dX12_knows_207 : decode cX12_knows 207 = .ok (.getfield 496, 3) := by decide +kernel
theorem dX12_knows_210 : decode cX12_knows 210 = .ok (.iload_n 1, 1) := by decide +kernel
theorem dX12_knows_211 : decode cX12_knows 211 = .ok (.ior, 1) := by decide +kernel
theorem dX12_knows_212 : decode cX12_knows 212 = .ok (.putfield 496, 3) := by decide +kernel
theorem dX12_knows_215 : decode cX12_knows 215 = .ok (.iinc 1 1, 3) := by decide +kernel
theorem dX12_knows_218 : decode cX12_knows 218 = .ok (.goto (-95), 3) := by decide +kernel
theorem dX12_knows_221 : decode cX12_knows 221 = .ok (.aload_n 0, 1) := by decide +kernel
theorem dX12_knows_222 : decode cX12_knows 222 = .ok (.lconst 0, 1) := by decide +kernel
theorem dX12_knows_223 : decode cX12_knows 223 = .ok (.putfield 502, 3) := by decide +kernel
theorem dX12_knows_226 : decode cX12_knows 226 = .ok (.iconst 0, 1) := by decide +kernel
theorem dX12_knows_227 : decode cX12_knows 227 = .ok (.istore_n 1, 1) := by decide +kernel
theorem dX12_knows_228 : decode cX12_knows 228 = .ok (.iload_n 1, 1) := by decide +kernel
theorem dX12_knows_229 : decode cX12_knows 229 = .ok (.aload_n 0, 1) := by decide +kernel
theorem dX12_knows_230 : decode cX12_knows 230 = .ok (.getfield 235, 3) := by decide +kernel
theorem dX12_knows_233 : decode cX12_knows 233 = .ok (.if_icmp .ge 47, 3) := by decide +kernel
theorem dX12_knows_236 : decode cX12_knows 236 = .ok (.aload_n 0, 1) := by decide +kernel
theorem dX12_knows_237 : decode cX12_knows 237 = .ok (.getfield 122, 3) := by decide +kernel
theorem dX12_knows_240 : decode cX12_knows 240 = .ok (.iload_n 1, 1) := by decide +kernel
theorem dX12_knows_241 : decode cX12_knows 241 = .ok (.iaload, 1) := by decide +kernel
theorem dX12_knows_242 : decode cX12_knows 242 = .ok (.ifCond .gt 20, 3) := by decide +kernel
theorem dX12_knows_245 : decode cX12_knows 245 = .ok (.aload_n 0, 1) := by decide +kernel
theorem dX12_knows_246 : decode cX12_knows 246 = .ok (.getfield 496, 3) := by decide +kernel
theorem dX12_knows_249 : decode cX12_knows 249 = .ok (.aload_n 0, 1) := by decide +kernel
theorem dX12_knows_250 : decode cX12_knows 250 = .ok (.getfield 43, 3) := by decide +kernel
theorem dX12_knows_253 : decode cX12_knows 253 = .ok (.iload_n 1, 1) := by decide +kernel
theorem dX12_knows_254 : decode cX12_knows 254 = .ok (.iaload, 1) := by decide +kernel
theorem dX12_knows_255 : decode cX12_knows 255 = .ok (.ishr, 1) := by decide +kernel
theorem dX12_knows_256 : decode cX12_knows 256 = .ok (.iconst 1, 1) := by decide +kernel
theorem dX12_knows_257 : decode cX12_knows 257 = .ok (.iand, 1) := by decide +kernel
theorem dX12_knows_258 : decode cX12_knows 258 = .ok (.iconst 1, 1) := by decide +kernel
theorem dX12_knows_259 : decode cX12_knows 259 = .ok (.if_icmp .ne 15, 3) := by decide +kernel
theorem dX12_knows_262 : decode cX12_knows 262 = .ok (.aload_n 0, 1) := by decide +kernel
theorem dX12_knows_263 : decode cX12_knows 263 = .ok (.dup, 1) := by decide +kernel
theorem dX12_knows_264 : decode cX12_knows 264 = .ok (.getfield 502, 3) := by decide +kernel
theorem dX12_knows_267 : decode cX12_knows 267 = .ok (.lconst 1, 1) := by decide +kernel
theorem dX12_knows_268 : decode cX12_knows 268 = .ok (.iload_n 1, 1) := by decide +kernel
theorem dX12_knows_269 : decode cX12_knows 269 = .ok (.lshl, 1) := by decide +kernel
theorem dX12_knows_270 : decode cX12_knows 270 = .ok (.lor, 1) := by decide +kernel
theorem dX12_knows_271 : decode cX12_knows 271 = .ok (.putfield 502, 3) := by decide +kernel
theorem dX12_knows_274 : decode cX12_knows 274 = .ok (.iinc 1 1, 3) := by decide +kernel
theorem dX12_knows_277 : decode cX12_knows 277 = .ok (.goto (-49), 3) := by decide +kernel
theorem dX12_knows_280 : decode cX12_knows 280 = .ok (.return_, 1) := by decide +kernel
theorem dX12_law_0 : decode cX12_law 0 = .ok (.aload_n 0, 1) := by decide +kernel
theorem dX12_law_1 : decode cX12_law 1 = .ok (.iconst 0, 1) := by decide +kernel
theorem dX12_law_2 : decode cX12_law 2 = .ok (.putfield 214, 3) := by decide +kernel
theorem dX12_law_5 : decode cX12_law 5 = .ok (.aload_n 0, 1) := by decide +kernel
theorem dX12_law_6 : decode cX12_law 6 = .ok (.invokevirtual 417, 3) := by decide +kernel
theorem dX12_law_9 : decode cX12_law 9 = .ok (.ifCond .ne 8, 3) := by decide +kernel
theorem dX12_law_12 : decode cX12_law 12 = .ok (.aload_n 0, 1) := by decide +kernel
theorem dX12_law_13 : decode cX12_law 13 = .ok (.getfield 287, 3) := by decide +kernel
theorem dX12_law_16 : decode cX12_law 16 = .ok (.ireturn, 1) := by decide +kernel
theorem dX12_law_17 : decode cX12_law 17 = .ok (.iconst 0, 1) := by decide +kernel
theorem dX12_law_18 : decode cX12_law 18 = .ok (.istore_n 1, 1) := by decide +kernel
theorem dX12_law_19 : decode cX12_law 19 = .ok (.iload_n 1, 1) := by decide +kernel
theorem dX12_law_20 : decode cX12_law 20 = .ok (.bipush 21, 2) := by decide +kernel
theorem dX12_law_22 : decode cX12_law 22 = .ok (.if_icmp .ge 53, 3) := by decide +kernel
theorem dX12_law_25 : decode cX12_law 25 = .ok (.aload_n 0, 1) := by decide +kernel
theorem dX12_law_26 : decode cX12_law 26 = .ok (.getfield 55, 3) := by decide +kernel
theorem dX12_law_29 : decode cX12_law 29 = .ok (.iload_n 1, 1) := by decide +kernel
theorem dX12_law_30 : decode cX12_law 30 = .ok (.aload_n 0, 1) := by decide +kernel
theorem dX12_law_31 : decode cX12_law 31 = .ok (.getfield 65, 3) := by decide +kernel
theorem dX12_law_34 : decode cX12_law 34 = .ok (.iload_n 1, 1) := by decide +kernel
theorem dX12_law_35 : decode cX12_law 35 = .ok (.baload, 1) := by decide +kernel
theorem dX12_law_36 : decode cX12_law 36 = .ok (.bastore, 1) := by decide +kernel
theorem dX12_law_37 : decode cX12_law 37 = .ok (.aload_n 0, 1) := by decide +kernel
theorem dX12_law_38 : decode cX12_law 38 = .ok (.getfield 59, 3) := by decide +kernel
theorem dX12_law_41 : decode cX12_law 41 = .ok (.iload_n 1, 1) := by decide +kernel
theorem dX12_law_42 : decode cX12_law 42 = .ok (.aload_n 0, 1) := by decide +kernel
theorem dX12_law_43 : decode cX12_law 43 = .ok (.getfield 68, 3) := by decide +kernel
theorem dX12_law_46 : decode cX12_law 46 = .ok (.iload_n 1, 1) := by decide +kernel
theorem dX12_law_47 : decode cX12_law 47 = .ok (.iaload, 1) := by decide +kernel
theorem dX12_law_48 : decode cX12_law 48 = .ok (.sipush 1000, 3) := by decide +kernel
theorem dX12_law_51 : decode cX12_law 51 = .ok (.isub, 1) := by decide +kernel
theorem dX12_law_52 : decode cX12_law 52 = .ok (.iastore, 1) := by decide +kernel
theorem dX12_law_53 : decode cX12_law 53 = .ok (.aload_n 0, 1) := by decide +kernel
theorem dX12_law_54 : decode cX12_law 54 = .ok (.getfield 62, 3) := by decide +kernel
theorem dX12_law_57 : decode cX12_law 57 = .ok (.iload_n 1, 1) := by decide +kernel
theorem dX12_law_58 : decode cX12_law 58 = .ok (.aload_n 0, 1) := by decide +kernel
theorem dX12_law_59 : decode cX12_law 59 = .ok (.getfield 71, 3) := by decide +kernel
theorem dX12_law_62 : decode cX12_law 62 = .ok (.iload_n 1, 1) := by decide +kernel
theorem dX12_law_63 : decode cX12_law 63 = .ok (.iaload, 1) := by decide +kernel
theorem dX12_law_64 : decode cX12_law 64 = .ok (.sipush 1000, 3) := by decide +kernel
theorem dX12_law_67 : decode cX12_law 67 = .ok (.isub, 1) := by decide +kernel
theorem dX12_law_68 : decode cX12_law 68 = .ok (.iastore, 1) := by decide +kernel
theorem dX12_law_69 : decode cX12_law 69 = .ok (.iinc 1 1, 3) := by decide +kernel
theorem dX12_law_72 : decode cX12_law 72 = .ok (.goto (-53), 3) := by decide +kernel
theorem dX12_law_75 : decode cX12_law 75 = .ok (.iconst 0, 1) := by decide +kernel
theorem dX12_law_76 : decode cX12_law 76 = .ok (.istore_n 1, 1) := by decide +kernel
theorem dX12_law_77 : decode cX12_law 77 = .ok (.iload_n 1, 1) := by decide +kernel
theorem dX12_law_78 : decode cX12_law 78 = .ok (.sipush 1000, 3) := by decide +kernel
theorem dX12_law_81 : decode cX12_law 81 = .ok (.if_icmp .ge 25, 3) := by decide +kernel
theorem dX12_law_84 : decode cX12_law 84 = .ok (.aload_n 0, 1) := by decide +kernel
theorem dX12_law_85 : decode cX12_law 85 = .ok (.getfield 74, 3) := by decide +kernel
theorem dX12_law_88 : decode cX12_law 88 = .ok (.iload_n 1, 1) := by decide +kernel
theorem dX12_law_89 : decode cX12_law 89 = .ok (.aload_n 0, 1) := by decide +kernel
theorem dX12_law_90 : decode cX12_law 90 = .ok (.getfield 74, 3) := by decide +kernel
theorem dX12_law_93 : decode cX12_law 93 = .ok (.sipush 1000, 3) := by decide +kernel
theorem dX12_law_96 : decode cX12_law 96 = .ok (.iload_n 1, 1) := by decide +kernel
theorem dX12_law_97 : decode cX12_law 97 = .ok (.iadd, 1) := by decide +kernel
theorem dX12_law_98 : decode cX12_law 98 = .ok (.iaload, 1) := by decide +kernel
theorem dX12_law_99 : decode cX12_law 99 = .ok (.iastore, 1) := by decide +kernel
theorem dX12_law_100 : decode cX12_law 100 = .ok (.iinc 1 1, 3) := by decide +kernel
theorem dX12_law_103 : decode cX12_law 103 = .ok (.goto (-26), 3) := by decide +kernel
theorem dX12_law_106 : decode cX12_law 106 = .ok (.aload_n 0, 1) := by decide +kernel
theorem dX12_law_107 : decode cX12_law 107 = .ok (.aload_n 0, 1) := by decide +kernel
theorem dX12_law_108 : decode cX12_law 108 = .ok (.getfield 391, 3) := by decide +kernel
theorem dX12_law_111 : decode cX12_law 111 = .ok (.putfield 207, 3) := by decide +kernel
theorem dX12_law_114 : decode cX12_law 114 = .ok (.aload_n 0, 1) := by decide +kernel
theorem dX12_law_115 : decode cX12_law 115 = .ok (.aload_n 0, 1) := by decide +kernel
theorem dX12_law_116 : decode cX12_law 116 = .ok (.getfield 394, 3) := by decide +kernel
theorem dX12_law_119 : decode cX12_law 119 = .ok (.putfield 211, 3) := by decide +kernel
theorem dX12_law_122 : decode cX12_law 122 = .ok (.iconst 0, 1) := by decide +kernel
theorem dX12_law_123 : decode cX12_law 123 = .ok (.ireturn, 1) := by decide +kernel
theorem dX12_layer_0 : decode cX12_layer 0 = .ok (.aload_n 0, 1) := by decide +kernel
theorem dX12_layer_1 : decode cX12_layer 1 = .ok (.iconst 0, 1) := by decide +kernel
theorem dX12_layer_2 : decode cX12_layer 2 = .ok (.putfield 214, 3) := by decide +kernel
theorem dX12_layer_5 : decode cX12_layer 5 = .ok (.iload_n 1, 1) := by decide +kernel
theorem dX12_layer_6 : decode cX12_layer 6 = .ok (.invokestatic 217, 3) := by decide +kernel
theorem dX12_layer_9 : decode cX12_layer 9 = .ok (.ifCond .eq 24, 3) := by decide +kernel
theorem dX12_layer_12 : decode cX12_layer 12 = .ok (.iload_n 2, 1) := by decide +kernel
theorem dX12_layer_13 : decode cX12_layer 13 = .ok (.iconst 0, 1) := by decide +kernel
theorem dX12_layer_14 : decode cX12_layer 14 = .ok (.bipush 9, 2) := by decide +kernel
theorem dX12_layer_16 : decode cX12_layer 16 = .ok (.invokestatic 221, 3) := by decide +kernel
theorem dX12_layer_19 : decode cX12_layer 19 = .ok (.ifCond .eq 14, 3) := by decide +kernel
theorem dX12_layer_22 : decode cX12_layer 22 = .ok (.iload_n 3, 1) := by decide +kernel
theorem dX12_layer_23 : decode cX12_layer 23 = .ok (.iconst 0, 1) := by decide +kernel
theorem dX12_layer_24 : decode cX12_layer 24 = .ok (.sipush 9999, 3) := by decide +kernel
theorem dX12_layer_27 : decode cX12_layer 27 = .ok (.invokestatic 221, 3) := by decide +kernel
theorem dX12_layer_30 : decode cX12_layer 30 = .ok (.ifCond .ne 5, 3) := by decide +kernel
theorem dX12_layer_33 : decode cX12_layer 33 = .ok (.iconst 0, 1) := by decide +kernel
theorem dX12_layer_34 : decode cX12_layer 34 = .ok (.ireturn, 1) := by decide +kernel
theorem dX12_layer_35 : decode cX12_layer 35 = .ok (.aload_n 0, 1) := by decide +kernel
theorem dX12_layer_36 : decode cX12_layer 36 = .ok (.getfield 7, 3) := by decide +kernel
theorem dX12_layer_39 : decode cX12_layer 39 = .ok (.bipush 10, 2) := by decide +kernel
theorem dX12_layer_41 : decode cX12_layer 41 = .ok (.iload_n 1, 1) := by decide +kernel
theorem dX12_layer_42 : decode cX12_layer 42 = .ok (.imul, 1) := by decide +kernel
theorem dX12_layer_43 : decode cX12_layer 43 = .ok (.iload_n 2, 1) := by decide +kernel
theorem dX12_layer_44 : decode cX12_layer 44 = .ok (.iadd, 1) := by decide +kernel
theorem dX12_layer_45 : decode cX12_layer 45 = .ok (.iload_n 3, 1) := by decide +kernel
theorem dX12_layer_46 : decode cX12_layer 46 = .ok (.iastore, 1) := by decide +kernel
theorem dX12_layer_47 : decode cX12_layer 47 = .ok (.iconst 1, 1) := by decide +kernel
theorem dX12_layer_48 : decode cX12_layer 48 = .ok (.ireturn, 1) := by decide +kernel
theorem dX12_layersOf_0 : decode cX12_layersOf 0 = .ok (.iconst 0, 1) := by decide +kernel
theorem dX12_layersOf_1 : decode cX12_layersOf 1 = .ok (.istore_n 2, 1) := by decide +kernel
theorem dX12_layersOf_2 : decode cX12_layersOf 2 = .ok (.iconst 0, 1) := by decide +kernel
theorem dX12_layersOf_3 : decode cX12_layersOf 3 = .ok (.istore_n 3, 1) := by decide +kernel
theorem dX12_layersOf_4 : decode cX12_layersOf 4 = .ok (.iload_n 3, 1) := by decide +kernel
theorem dX12_layersOf_5 : decode cX12_layersOf 5 = .ok (.bipush 10, 2) := by decide +kernel
theorem dX12_layersOf_7 : decode cX12_layersOf 7 = .ok (.if_icmp .ge 31, 3) := by decide +kernel
theorem dX12_layersOf_10 : decode cX12_layersOf 10 = .ok (.iload_n 2, 1) := by decide +kernel
theorem dX12_layersOf_11 : decode cX12_layersOf 11 = .ok (.aload_n 0, 1) := by decide +kernel
theorem dX12_layersOf_12 : decode cX12_layersOf 12 = .ok (.getfield 7, 3) := by decide +kernel
theorem dX12_layersOf_15 : decode cX12_layersOf 15 = .ok (.bipush 10, 2) := by decide +kernel
theorem dX12_layersOf_17 : decode cX12_layersOf 17 = .ok (.iload_n 1, 1) := by decide +kernel
theorem dX12_layersOf_18 : decode cX12_layersOf 18 = .ok (.imul, 1) := by decide +kernel
theorem dX12_layersOf_19 : decode cX12_layersOf 19 = .ok (.iload_n 3, 1) := by decide +kernel
theorem dX12_layersOf_20 : decode cX12_layersOf 20 = .ok (.iadd, 1) := by decide +kernel
theorem dX12_layersOf_21 : decode cX12_layersOf 21 = .ok (.iaload, 1) := by decide +kernel
theorem dX12_layersOf_22 : decode cX12_layersOf 22 = .ok (.ifCond .lt 7, 3) := by decide +kernel
theorem dX12_layersOf_25 : decode cX12_layersOf 25 = .ok (.iconst 1, 1) := by decide +kernel
theorem dX12_layersOf_26 : decode cX12_layersOf 26 = .ok (.goto 4, 3) := by decide +kernel
theorem dX12_layersOf_29 : decode cX12_layersOf 29 = .ok (.iconst 0, 1) := by decide +kernel
theorem dX12_layersOf_30 : decode cX12_layersOf 30 = .ok (.iadd, 1) := by decide +kernel
theorem dX12_layersOf_31 : decode cX12_layersOf 31 = .ok (.istore_n 2, 1) := by decide +kernel
theorem dX12_layersOf_32 : decode cX12_layersOf 32 = .ok (.iinc 3 1, 3) := by decide +kernel
theorem dX12_layersOf_35 : decode cX12_layersOf 35 = .ok (.goto (-31), 3) := by decide +kernel
theorem dX12_layersOf_38 : decode cX12_layersOf 38 = .ok (.iload_n 2, 1) := by decide +kernel
theorem dX12_layersOf_39 : decode cX12_layersOf 39 = .ok (.ireturn, 1) := by decide +kernel
theorem dX12_lays_0 : decode cX12_lays 0 = .ok (.iconst 0, 1) := by decide +kernel
theorem dX12_lays_1 : decode cX12_lays 1 = .ok (.istore_n 2, 1) := by decide +kernel
theorem dX12_lays_2 : decode cX12_lays 2 = .ok (.iload_n 2, 1) := by decide +kernel
theorem dX12_lays_3 : decode cX12_lays 3 = .ok (.bipush 17, 2) := by decide +kernel
theorem dX12_lays_5 : decode cX12_lays 5 = .ok (.if_icmp .ge 23, 3) := by decide +kernel
theorem dX12_lays_8 : decode cX12_lays 8 = .ok (.aload_n 0, 1) := by decide +kernel
theorem dX12_lays_9 : decode cX12_lays 9 = .ok (.getfield 110, 3) := by decide +kernel
theorem dX12_lays_12 : decode cX12_lays 12 = .ok (.iconst 1, 1) := by decide +kernel
theorem dX12_lays_13 : decode cX12_lays 13 = .ok (.iload_n 2, 1) := by decide +kernel
theorem dX12_lays_14 : decode cX12_lays 14 = .ok (.iadd, 1) := by decide +kernel
theorem dX12_lays_15 : decode cX12_lays 15 = .ok (.aload_n 0, 1) := by decide +kernel
theorem dX12_lays_16 : decode cX12_lays 16 = .ok (.iload_n 1, 1) := by decide +kernel
theorem dX12_lays_17 : decode cX12_lays 17 = .ok (.iload_n 2, 1) := by decide +kernel
theorem dX12_lays_18 : decode cX12_lays 18 = .ok (.invokevirtual 252, 3) := by decide +kernel
theorem dX12_lays_21 : decode cX12_lays 21 = .ok (.iastore, 1) := by decide +kernel
theorem dX12_lays_22 : decode cX12_lays 22 = .ok (.iinc 2 1, 3) := by decide +kernel
theorem dX12_lays_25 : decode cX12_lays 25 = .ok (.goto (-23), 3) := by decide +kernel
theorem dX12_lays_28 : decode cX12_lays 28 = .ok (.return_, 1) := by decide +kernel
theorem dX12_laysDay_0 : decode cX12_laysDay 0 = .ok (.iconst 1, 1) := by decide +kernel
theorem dX12_laysDay_1 : decode cX12_laysDay 1 = .ok (.istore_n 2, 1) := by decide +kernel
theorem dX12_laysDay_2 : decode cX12_laysDay 2 = .ok (.iload_n 2, 1) := by decide +kernel
theorem dX12_laysDay_3 : decode cX12_laysDay 3 = .ok (.bipush 9, 2) := by decide +kernel
theorem dX12_laysDay_5 : decode cX12_laysDay 5 = .ok (.if_icmp .ge 16, 3) := by decide +kernel
theorem dX12_laysDay_8 : decode cX12_laysDay 8 = .ok (.aload_n 0, 1) := by decide +kernel
theorem dX12_laysDay_9 : decode cX12_laysDay 9 = .ok (.getfield 110, 3) := by decide +kernel
theorem dX12_laysDay_12 : decode cX12_laysDay 12 = .ok (.iload_n 2, 1) := by decide +kernel
theorem dX12_laysDay_13 : decode cX12_laysDay 13 = .ok (.iconst 0, 1) := by decide +kernel
theorem dX12_laysDay_14 : decode cX12_laysDay 14 = .ok (.iastore, 1) := by decide +kernel
theorem dX12_laysDay_15 : decode cX12_laysDay 15 = .ok (.iinc 2 1, 3) := by decide +kernel
theorem dX12_laysDay_18 : decode cX12_laysDay 18 = .ok (.goto (-16), 3) := by decide +kernel
theorem dX12_laysDay_21 : decode cX12_laysDay 21 = .ok (.aload_n 0, 1) := by decide +kernel
theorem dX12_laysDay_22 : decode cX12_laysDay 22 = .ok (.getfield 110, 3) := by decide +kernel
theorem dX12_laysDay_25 : decode cX12_laysDay 25 = .ok (.iconst 1, 1) := by decide +kernel
theorem dX12_laysDay_26 : decode cX12_laysDay 26 = .ok (.iload_n 1, 1) := by decide +kernel
theorem dX12_laysDay_27 : decode cX12_laysDay 27 = .ok (.iastore, 1) := by decide +kernel
theorem dX12_laysDay_28 : decode cX12_laysDay 28 = .ok (.iconst 0, 1) := by decide +kernel
theorem dX12_laysDay_29 : decode cX12_laysDay 29 = .ok (.istore_n 2, 1) := by decide +kernel
theorem dX12_laysDay_30 : decode cX12_laysDay 30 = .ok (.iload_n 2, 1) := by decide +kernel
theorem dX12_laysDay_31 : decode cX12_laysDay 31 = .ok (.aload_n 0, 1) := by decide +kernel
theorem dX12_laysDay_32 : decode cX12_laysDay 32 = .ok (.getfield 235, 3) := by decide +kernel
theorem dX12_laysDay_35 : decode cX12_laysDay 35 = .ok (.if_icmp .ge 221, 3) := by decide +kernel
theorem dX12_laysDay_38 : decode cX12_laysDay 38 = .ok (.aload_n 0, 1) := by decide +kernel
theorem dX12_laysDay_39 : decode cX12_laysDay 39 = .ok (.getfield 37, 3) := by decide +kernel
theorem dX12_laysDay_42 : decode cX12_laysDay 42 = .ok (.iload_n 2, 1) := by decide +kernel
theorem dX12_laysDay_43 : decode cX12_laysDay 43 = .ok (.iaload, 1) := by decide +kernel
theorem dX12_laysDay_44 : decode cX12_laysDay 44 = .ok (.iload_n 1, 1) := by decide +kernel
theorem dX12_laysDay_45 : decode cX12_laysDay 45 = .ok (.if_icmp .le 6, 3) := by decide +kernel
theorem dX12_laysDay_48 : decode cX12_laysDay 48 = .ok (.goto 202, 3) := by decide +kernel
theorem dX12_laysDay_51 : decode cX12_laysDay 51 = .ok (.iconst 0, 1) := by decide +kernel
theorem dX12_laysDay_52 : decode cX12_laysDay 52 = .ok (.istore_n 3, 1) := by decide +kernel
theorem dX12_laysDay_53 : decode cX12_laysDay 53 = .ok (.iconst 0, 1) := by decide +kernel
theorem dX12_laysDay_54 : decode cX12_laysDay 54 = .ok (.istore 4, 2) := by decide +kernel
theorem dX12_laysDay_56 : decode cX12_laysDay 56 = .ok (.iload 4, 2) := by decide +kernel
theorem dX12_laysDay_58 : decode cX12_laysDay 58 = .ok (.aload_n 0, 1) := by decide +kernel
theorem dX12_laysDay_59 : decode cX12_laysDay 59 = .ok (.getfield 235, 3) := by decide +kernel
theorem dX12_laysDay_62 : decode cX12_laysDay 62 = .ok (.if_icmp .ge 77, 3) := by decide +kernel
theorem dX12_laysDay_65 : decode cX12_laysDay 65 = .ok (.aload_n 0, 1) := by decide +kernel
theorem dX12_laysDay_66 : decode cX12_laysDay 66 = .ok (.getfield 37, 3) := by decide +kernel
theorem dX12_laysDay_69 : decode cX12_laysDay 69 = .ok (.iload 4, 2) := by decide +kernel
theorem dX12_laysDay_71 : decode cX12_laysDay 71 = .ok (.iaload, 1) := by decide +kernel
theorem dX12_laysDay_72 : decode cX12_laysDay 72 = .ok (.iload_n 1, 1) := by decide +kernel
theorem dX12_laysDay_73 : decode cX12_laysDay 73 = .ok (.if_icmp .le 6, 3) := by decide +kernel
theorem dX12_laysDay_76 : decode cX12_laysDay 76 = .ok (.goto 57, 3) := by decide +kernel
theorem dX12_laysDay_79 : decode cX12_laysDay 79 = .ok (.iload_n 3, 1) := by decide +kernel
theorem dX12_laysDay_80 : decode cX12_laysDay 80 = .ok (.aload_n 0, 1) := by decide +kernel
theorem dX12_laysDay_81 : decode cX12_laysDay 81 = .ok (.getfield 43, 3) := by decide +kernel
theorem dX12_laysDay_84 : decode cX12_laysDay 84 = .ok (.iload 4, 2) := by decide +kernel
theorem dX12_laysDay_86 : decode cX12_laysDay 86 = .ok (.iaload, 1) := by decide +kernel
theorem dX12_laysDay_87 : decode cX12_laysDay 87 = .ok (.aload_n 0, 1) := by decide +kernel
theorem dX12_laysDay_88 : decode cX12_laysDay 88 = .ok (.getfield 43, 3) := by decide +kernel
theorem dX12_laysDay_91 : decode cX12_laysDay 91 = .ok (.iload_n 2, 1) := by decide +kernel
theorem dX12_laysDay_92 : decode cX12_laysDay 92 = .ok (.iaload, 1) := by decide +kernel
theorem dX12_laysDay_93 : decode cX12_laysDay 93 = .ok (.if_icmp .ne 7, 3) := by decide +kernel
theorem dX12_laysDay_96 : decode cX12_laysDay 96 = .ok (.iconst 1, 1) := by decide +kernel
theorem dX12_laysDay_97 : decode cX12_laysDay 97 = .ok (.goto 4, 3) := by decide +kernel
theorem dX12_laysDay_100 : decode cX12_laysDay 100 = .ok (.iconst 0, 1) := by decide +kernel
theorem dX12_laysDay_101 : decode cX12_laysDay 101 = .ok (.iadd, 1) := by decide +kernel
theorem dX12_laysDay_102 : decode cX12_laysDay 102 = .ok (.istore_n 3, 1) := by decide +kernel
theorem dX12_laysDay_103 : decode cX12_laysDay 103 = .ok (.aload_n 0, 1) := by decide +kernel
theorem dX12_laysDay_104 : decode cX12_laysDay 104 = .ok (.getfield 110, 3) := by decide +kernel
theorem dX12_laysDay_107 : decode cX12_laysDay 107 = .ok (.iconst 5, 1) := by decide +kernel
theorem dX12_laysDay_108 : decode cX12_laysDay 108 = .ok (.dup2, 1) := by decide +kernel
theorem dX12_laysDay_109 : decode cX12_laysDay 109 = .ok (.iaload, 1) := by decide +kernel
theorem dX12_laysDay_110 : decode cX12_laysDay 110 = .ok (.iload 4, 2) := by decide +kernel
theorem dX12_laysDay_112 : decode cX12_laysDay 112 = .ok (.iload_n 2, 1) := by decide +kernel
theorem dX12_laysDay_113 : decode cX12_laysDay 113 = .ok (.if_icmp .ge 17, 3) := by decide +kernel
theorem dX12_laysDay_116 : decode cX12_laysDay 116 = .ok (.aload_n 0, 1) := by decide +kernel
theorem dX12_laysDay_117 : decode cX12_laysDay 117 = .ok (.iload_n 2, 1) := by decide +kernel
theorem dX12_laysDay_118 : decode cX12_laysDay 118 = .ok (.iload 4, 2) := by decide +kernel
theorem dX12_laysDay_120 : decode cX12_laysDay 120 = .ok (.invokevirtual 245, 3) := by decide +kernel
theorem dX12_laysDay_123 : decode cX12_laysDay 123 = .ok (.ifCond .eq 7, 3) := by decide +kernel
theorem dX12_laysDay_126 : decode cX12_laysDay 126 = .ok (.iconst 1, 1) := by decide +kernel
theorem dX12_laysDay_127 : decode cX12_laysDay 127 = .ok (.goto 4, 3) := by decide +kernel
theorem dX12_laysDay_130 : decode cX12_laysDay 130 = .ok (.iconst 0, 1) := by decide +kernel
theorem dX12_laysDay_131 : decode cX12_laysDay 131 = .ok (.iadd, 1) := by decide +kernel
theorem dX12_laysDay_132 : decode cX12_laysDay 132 = .ok (.iastore, 1) := by decide +kernel
theorem dX12_laysDay_133 : decode cX12_laysDay 133 = .ok (.iinc 4 1, 3) := by decide +kernel
theorem dX12_laysDay_136 : decode cX12_laysDay 136 = .ok (.goto (-80), 3) := by decide +kernel
theorem dX12_laysDay_139 : decode cX12_laysDay 139 = .ok (.aload_n 0, 1) := by decide +kernel
theorem dX12_laysDay_140 : decode cX12_laysDay 140 = .ok (.getfield 110, 3) := by decide +kernel
theorem dX12_laysDay_143 : decode cX12_laysDay 143 = .ok (.iconst 2, 1) := by decide +kernel
theorem dX12_laysDay_144 : decode cX12_laysDay 144 = .ok (.dup2, 1) := by decide +kernel
theorem dX12_laysDay_145 : decode cX12_laysDay 145 = .ok (.iaload, 1) := by decide +kernel
theorem dX12_laysDay_146 : decode cX12_laysDay 146 = .ok (.iconst 1, 1) := by decide +kernel
theorem dX12_laysDay_147 : decode cX12_laysDay 147 = .ok (.iadd, 1) := by decide +kernel
theorem dX12_laysDay_148 : decode cX12_laysDay 148 = .ok (.iastore, 1) := by decide +kernel
theorem dX12_laysDay_149 : decode cX12_laysDay 149 = .ok (.aload_n 0, 1) := by decide +kernel
theorem dX12_laysDay_150 : decode cX12_laysDay 150 = .ok (.getfield 110, 3) := by decide +kernel
theorem dX12_laysDay_153 : decode cX12_laysDay 153 = .ok (.iconst 3, 1) := by decide +kernel
theorem dX12_laysDay_154 : decode cX12_laysDay 154 = .ok (.dup2, 1) := by decide +kernel
theorem dX12_laysDay_155 : decode cX12_laysDay 155 = .ok (.iaload, 1) := by decide +kernel
theorem dX12_laysDay_156 : decode cX12_laysDay 156 = .ok (.aload_n 0, 1) := by decide +kernel
theorem dX12_laysDay_157 : decode cX12_laysDay 157 = .ok (.getfield 122, 3) := by decide +kernel
theorem dX12_laysDay_160 : decode cX12_laysDay 160 = .ok (.iload_n 2, 1) := by decide +kernel
theorem dX12_laysDay_161 : decode cX12_laysDay 161 = .ok (.iaload, 1) := by decide +kernel
theorem dX12_laysDay_162 : decode cX12_laysDay 162 = .ok (.iconst 2, 1) := by decide +kernel
theorem dX12_laysDay_163 : decode cX12_laysDay 163 = .ok (.if_icmp .ne 7, 3) := by decide +kernel
theorem dX12_laysDay_166 : decode cX12_laysDay 166 = .ok (.iconst 1, 1) := by decide +kernel
theorem dX12_laysDay_167 : decode cX12_laysDay 167 = .ok (.goto 4, 3) := by decide +kernel
theorem dX12_laysDay_170 : decode cX12_laysDay 170 = .ok (.iconst 0, 1) := by decide +kernel
theorem dX12_laysDay_171 : decode cX12_laysDay 171 = .ok (.iadd, 1) := by decide +kernel
theorem dX12_laysDay_172 : decode cX12_laysDay 172 = .ok (.iastore, 1) := by decide +kernel
theorem dX12_laysDay_173 : decode cX12_laysDay 173 = .ok (.aload_n 0, 1) := by decide +kernel
theorem dX12_laysDay_174 : decode cX12_laysDay 174 = .ok (.getfield 110, 3) := by decide +kernel
theorem dX12_laysDay_177 : decode cX12_laysDay 177 = .ok (.iconst 4, 1) := by decide +kernel
theorem dX12_laysDay_178 : decode cX12_laysDay 178 = .ok (.dup2, 1) := by decide +kernel
theorem dX12_laysDay_179 : decode cX12_laysDay 179 = .ok (.iaload, 1) := by decide +kernel
theorem dX12_laysDay_180 : decode cX12_laysDay 180 = .ok (.aload_n 0, 1) := by decide +kernel
theorem dX12_laysDay_181 : decode cX12_laysDay 181 = .ok (.getfield 122, 3) := by decide +kernel
theorem dX12_laysDay_184 : decode cX12_laysDay 184 = .ok (.iload_n 2, 1) := by decide +kernel
theorem dX12_laysDay_185 : decode cX12_laysDay 185 = .ok (.iaload, 1) := by decide +kernel
theorem dX12_laysDay_186 : decode cX12_laysDay 186 = .ok (.iconst 1, 1) := by decide +kernel
theorem dX12_laysDay_187 : decode cX12_laysDay 187 = .ok (.if_icmp .ne 7, 3) := by decide +kernel
theorem dX12_laysDay_190 : decode cX12_laysDay 190 = .ok (.iconst 1, 1) := by decide +kernel
theorem dX12_laysDay_191 : decode cX12_laysDay 191 = .ok (.goto 4, 3) := by decide +kernel
theorem dX12_laysDay_194 : decode cX12_laysDay 194 = .ok (.iconst 0, 1) := by decide +kernel
theorem dX12_laysDay_195 : decode cX12_laysDay 195 = .ok (.iadd, 1) := by decide +kernel
theorem dX12_laysDay_196 : decode cX12_laysDay 196 = .ok (.iastore, 1) := by decide +kernel
theorem dX12_laysDay_197 : decode cX12_laysDay 197 = .ok (.aload_n 0, 1) := by decide +kernel
theorem dX12_laysDay_198 : decode cX12_laysDay 198 = .ok (.getfield 110, 3) := by decide +kernel
theorem dX12_laysDay_201 : decode cX12_laysDay 201 = .ok (.bipush 6, 2) := by decide +kernel
theorem dX12_laysDay_203 : decode cX12_laysDay 203 = .ok (.iload_n 3, 1) := by decide +kernel
theorem dX12_laysDay_204 : decode cX12_laysDay 204 = .ok (.aload_n 0, 1) := by decide +kernel
theorem dX12_laysDay_205 : decode cX12_laysDay 205 = .ok (.getfield 110, 3) := by decide +kernel
theorem dX12_laysDay_208 : decode cX12_laysDay 208 = .ok (.bipush 6, 2) := by decide +kernel
theorem dX12_laysDay_210 : decode cX12_laysDay 210 = .ok (.iaload, 1) := by decide +kernel
theorem dX12_laysDay_211 : decode cX12_laysDay 211 = .ok (.if_icmp .le 7, 3) := by decide +kernel
theorem dX12_laysDay_214 : decode cX12_laysDay 214 = .ok (.iload_n 3, 1) := by decide +kernel
theorem dX12_laysDay_215 : decode cX12_laysDay 215 = .ok (.goto 10, 3) := by decide +kernel
theorem dX12_laysDay_218 : decode cX12_laysDay 218 = .ok (.aload_n 0, 1) := by decide +kernel
theorem dX12_laysDay_219 : decode cX12_laysDay 219 = .ok (.getfield 110, 3) := by decide +kernel
theorem dX12_laysDay_222 : decode cX12_laysDay 222 = .ok (.bipush 6, 2) := by decide +kernel
theorem dX12_laysDay_224 : decode cX12_laysDay 224 = .ok (.iaload, 1) := by decide +kernel
theorem dX12_laysDay_225 : decode cX12_laysDay 225 = .ok (.iastore, 1) := by decide +kernel
theorem dX12_laysDay_226 : decode cX12_laysDay 226 = .ok (.aload_n 0, 1) := by decide +kernel
theorem dX12_laysDay_227 : decode cX12_laysDay 227 = .ok (.getfield 110, 3) := by decide +kernel
theorem dX12_laysDay_230 : decode cX12_laysDay 230 = .ok (.bipush 7, 2) := by decide +kernel
theorem dX12_laysDay_232 : decode cX12_laysDay 232 = .ok (.dup2, 1) := by decide +kernel
theorem dX12_laysDay_233 : decode cX12_laysDay 233 = .ok (.iaload, 1) := by decide +kernel
theorem dX12_laysDay_234 : decode cX12_laysDay 234 = .ok (.aload_n 0, 1) := by decide +kernel
theorem dX12_laysDay_235 : decode cX12_laysDay 235 = .ok (.getfield 153, 3) := by decide +kernel
theorem dX12_laysDay_238 : decode cX12_laysDay 238 = .ok (.iload_n 2, 1) := by decide +kernel
theorem dX12_laysDay_239 : decode cX12_laysDay 239 = .ok (.iaload, 1) := by decide +kernel
theorem dX12_laysDay_240 : decode cX12_laysDay 240 = .ok (.ifCond .le 7, 3) := by decide +kernel
theorem dX12_laysDay_243 : decode cX12_laysDay 243 = .ok (.iconst 1, 1) := by decide +kernel
theorem dX12_laysDay_244 : decode cX12_laysDay 244 = .ok (.goto 4, 3) := by decide +kernel
theorem dX12_laysDay_247 : decode cX12_laysDay 247 = .ok (.iconst 0, 1) := by decide +kernel
theorem dX12_laysDay_248 : decode cX12_laysDay 248 = .ok (.iadd, 1) := by decide +kernel
theorem dX12_laysDay_249 : decode cX12_laysDay 249 = .ok (.iastore, 1) := by decide +kernel
theorem dX12_laysDay_250 : decode cX12_laysDay 250 = .ok (.iinc 2 1, 3) := by decide +kernel
theorem dX12_laysDay_253 : decode cX12_laysDay 253 = .ok (.goto (-223), 3) := by decide +kernel
theorem dX12_laysDay_256 : decode cX12_laysDay 256 = .ok (.iconst 0, 1) := by decide +kernel
theorem dX12_laysDay_257 : decode cX12_laysDay 257 = .ok (.istore_n 2, 1) := by decide +kernel
theorem dX12_laysDay_258 : decode cX12_laysDay 258 = .ok (.iload_n 2, 1) := by decide +kernel
theorem dX12_laysDay_259 : decode cX12_laysDay 259 = .ok (.aload_n 0, 1) := by decide +kernel
theorem dX12_laysDay_260 : decode cX12_laysDay 260 = .ok (.getfield 545, 3) := by decide +kernel
theorem dX12_laysDay_263 : decode cX12_laysDay 263 = .ok (.if_icmp .ge 34, 3) := by decide +kernel
theorem dX12_laysDay_266 : decode cX12_laysDay 266 = .ok (.aload_n 0, 1) := by decide +kernel
theorem dX12_laysDay_267 : decode cX12_laysDay 267 = .ok (.getfield 110, 3) := by decide +kernel
theorem dX12_laysDay_270 : decode cX12_laysDay 270 = .ok (.bipush 8, 2) := by decide +kernel
theorem dX12_laysDay_272 : decode cX12_laysDay 272 = .ok (.dup2, 1) := by decide +kernel
theorem dX12_laysDay_273 : decode cX12_laysDay 273 = .ok (.iaload, 1) := by decide +kernel
theorem dX12_laysDay_274 : decode cX12_laysDay 274 = .ok (.aload_n 0, 1) := by decide +kernel
theorem dX12_laysDay_275 : decode cX12_laysDay 275 = .ok (.getfield 150, 3) := by decide +kernel
theorem dX12_laysDay_278 : decode cX12_laysDay 278 = .ok (.iload_n 2, 1) := by decide +kernel
theorem dX12_laysDay_279 : decode cX12_laysDay 279 = .ok (.iaload, 1) := by decide +kernel
theorem dX12_laysDay_280 : decode cX12_laysDay 280 = .ok (.iload_n 1, 1) := by decide +kernel
theorem dX12_laysDay_281 : decode cX12_laysDay 281 = .ok (.if_icmp .gt 7, 3) := by decide +kernel
theorem dX12_laysDay_284 : decode cX12_laysDay 284 = .ok (.iconst 1, 1) := by decide +kernel
theorem dX12_laysDay_285 : decode cX12_laysDay 285 = .ok (.goto 4, 3) := by decide +kernel
theorem dX12_laysDay_288 : decode cX12_laysDay 288 = .ok (.iconst 0, 1) := by decide +kernel
theorem dX12_laysDay_289 : decode cX12_laysDay 289 = .ok (.iadd, 1) := by decide +kernel
theorem dX12_laysDay_290 : decode cX12_laysDay 290 = .ok (.iastore, 1) := by decide +kernel
theorem dX12_laysDay_291 : decode cX12_laysDay 291 = .ok (.iinc 2 1, 3) := by decide +kernel
theorem dX12_laysDay_294 : decode cX12_laysDay 294 = .ok (.goto (-36), 3) := by decide +kernel
theorem dX12_laysDay_297 : decode cX12_laysDay 297 = .ok (.return_, 1) := by decide +kernel
theorem dX12_lowest_0 : decode cX12_lowest 0 = .ok (.lload_n 0, 1) := by decide +kernel
theorem dX12_lowest_1 : decode cX12_lowest 1 = .ok (.lstore 5, 2) := by decide +kernel
theorem dX12_lowest_3 : decode cX12_lowest 3 = .ok (.lload_n 2, 1) := by decide +kernel
theorem dX12_lowest_4 : decode cX12_lowest 4 = .ok (.lstore 7, 2) := by decide +kernel
theorem dX12_lowest_6 : decode cX12_lowest 6 = .ok (.lload 7, 2) := by decide +kernel
theorem dX12_lowest_8 : decode cX12_lowest 8 = .ok (.lconst 0, 1) := by decide +kernel
theorem dX12_lowest_9 : decode cX12_lowest 9 = .ok (.lcmp, 1) := by decide +kernel
theorem dX12_lowest_10 : decode cX12_lowest 10 = .ok (.ifCond .eq 21, 3) := by decide +kernel
theorem dX12_lowest_13 : decode cX12_lowest 13 = .ok (.lload 5, 2) := by decide +kernel
theorem dX12_lowest_15 : decode cX12_lowest 15 = .ok (.lload 7, 2) := by decide +kernel
theorem dX12_lowest_17 : decode cX12_lowest 17 = .ok (.lrem, 1) := by decide +kernel
theorem dX12_lowest_18 : decode cX12_lowest 18 = .ok (.lstore 9, 2) := by decide +kernel
theorem dX12_lowest_20 : decode cX12_lowest 20 = .ok (.lload 7, 2) := by decide +kernel
theorem dX12_lowest_22 : decode cX12_lowest 22 = .ok (.lstore 5, 2) := by decide +kernel
theorem dX12_lowest_24 : decode cX12_lowest 24 = .ok (.lload 9, 2) := by decide +kernel
theorem dX12_lowest_26 : decode cX12_lowest 26 = .ok (.lstore 7, 2) := by decide +kernel
theorem dX12_lowest_28 : decode cX12_lowest 28 = .ok (.goto (-22), 3) := by decide +kernel
theorem dX12_lowest_31 : decode cX12_lowest 31 = .ok (.iload 4, 2) := by decide +kernel
theorem dX12_lowest_33 : decode cX12_lowest 33 = .ok (.ifCond .ne 10, 3) := by decide +kernel
theorem dX12_lowest_36 : decode cX12_lowest 36 = .ok (.lload_n 0, 1) := by decide +kernel
theorem dX12_lowest_37 : decode cX12_lowest 37 = .ok (.lload 5, 2) := by decide +kernel
theorem dX12_lowest_39 : decode cX12_lowest 39 = .ok (.ldiv, 1) := by decide +kernel
theorem dX12_lowest_40 : decode cX12_lowest 40 = .ok (.goto 7, 3) := by decide +kernel
theorem dX12_lowest_43 : decode cX12_lowest 43 = .ok (.lload_n 2, 1) := by decide +kernel
theorem dX12_lowest_44 : decode cX12_lowest 44 = .ok (.lload 5, 2) := by decide +kernel
theorem dX12_lowest_46 : decode cX12_lowest 46 = .ok (.ldiv, 1) := by decide +kernel
theorem dX12_lowest_47 : decode cX12_lowest 47 = .ok (.lreturn, 1) := by decide +kernel
theorem dX12_luck_0 : decode cX12_luck 0 = .ok (.aload_n 0, 1) := by decide +kernel
theorem dX12_luck_1 : decode cX12_luck 1 = .ok (.iconst 0, 1) := by decide +kernel
theorem dX12_luck_2 : decode cX12_luck 2 = .ok (.putfield 214, 3) := by decide +kernel
theorem dX12_luck_5 : decode cX12_luck 5 = .ok (.iload_n 1, 1) := by decide +kernel
theorem dX12_luck_6 : decode cX12_luck 6 = .ok (.iconst 1, 1) := by decide +kernel
theorem dX12_luck_7 : decode cX12_luck 7 = .ok (.bipush 9, 2) := by decide +kernel
theorem dX12_luck_9 : decode cX12_luck 9 = .ok (.invokestatic 221, 3) := by decide +kernel
theorem dX12_luck_12 : decode cX12_luck 12 = .ok (.ifCond .eq 42, 3) := by decide +kernel
theorem dX12_luck_15 : decode cX12_luck 15 = .ok (.iload_n 2, 1) := by decide +kernel
theorem dX12_luck_16 : decode cX12_luck 16 = .ok (.iconst 1, 1) := by decide +kernel
theorem dX12_luck_17 : decode cX12_luck 17 = .ok (.bipush 6, 2) := by decide +kernel
theorem dX12_luck_19 : decode cX12_luck 19 = .ok (.invokestatic 221, 3) := by decide +kernel
theorem dX12_luck_22 : decode cX12_luck 22 = .ok (.ifCond .eq 32, 3) := by decide +kernel
theorem dX12_luck_25 : decode cX12_luck 25 = .ok (.iload_n 3, 1) := by decide +kernel
theorem dX12_luck_26 : decode cX12_luck 26 = .ok (.iconst 0, 1) := by decide +kernel
theorem dX12_luck_27 : decode cX12_luck 27 = .ok (.iload_n 2, 1) := by decide +kernel
theorem dX12_luck_28 : decode cX12_luck 28 = .ok (.invokestatic 221, 3) := by decide +kernel
theorem dX12_luck_31 : decode cX12_luck 31 = .ok (.ifCond .eq 23, 3) := by decide +kernel
theorem dX12_luck_34 : decode cX12_luck 34 = .ok (.iload 4, 2) := by decide +kernel
theorem dX12_luck_36 : decode cX12_luck 36 = .ok (.iconst 1, 1) := by decide +kernel
theorem dX12_luck_37 : decode cX12_luck 37 = .ok (.iconst 3, 1) := by decide +kernel
theorem dX12_luck_38 : decode cX12_luck 38 = .ok (.invokestatic 221, 3) := by decide +kernel
theorem dX12_luck_41 : decode cX12_luck 41 = .ok (.ifCond .eq 13, 3) := by decide +kernel
theorem dX12_luck_44 : decode cX12_luck 44 = .ok (.iload 5, 2) := by decide +kernel
theorem dX12_luck_46 : decode cX12_luck 46 = .ok (.iconst 0, 1) := by decide +kernel
theorem dX12_luck_47 : decode cX12_luck 47 = .ok (.iconst 1, 1) := by decide +kernel
theorem dX12_luck_48 : decode cX12_luck 48 = .ok (.invokestatic 221, 3) := by decide +kernel
theorem dX12_luck_51 : decode cX12_luck 51 = .ok (.ifCond .ne 7, 3) := by decide +kernel
theorem dX12_luck_54 : decode cX12_luck 54 = .ok (.ldc2_w 460, 3) := by decide +kernel
theorem dX12_luck_57 : decode cX12_luck 57 = .ok (.lreturn, 1) := by decide +kernel
theorem dX12_luck_58 : decode cX12_luck 58 = .ok (.lconst 0, 1) := by decide +kernel
theorem dX12_luck_59 : decode cX12_luck 59 = .ok (.lstore 6, 2) := by decide +kernel
theorem dX12_luck_61 : decode cX12_luck 61 = .ok (.iconst 0, 1) := by decide +kernel
theorem dX12_luck_62 : decode cX12_luck 62 = .ok (.istore 8, 2) := by decide +kernel
theorem dX12_luck_64 : decode cX12_luck 64 = .ok (.iload 8, 2) := by decide +kernel
theorem dX12_luck_66 : decode cX12_luck 66 = .ok (.iload_n 3, 1) := by decide +kernel
theorem dX12_luck_67 : decode cX12_luck 67 = .ok (.if_icmp .ge 41, 3) := by decide +kernel
theorem dX12_luck_70 : decode cX12_luck 70 = .ok (.lload 6, 2) := by decide +kernel
theorem dX12_luck_72 : decode cX12_luck 72 = .ok (.iload_n 2, 1) := by decide +kernel
theorem dX12_luck_73 : decode cX12_luck 73 = .ok (.iload 8, 2) := by decide +kernel
theorem dX12_luck_75 : decode cX12_luck 75 = .ok (.invokestatic 462, 3) := by decide +kernel
theorem dX12_luck_78 : decode cX12_luck 78 = .ok (.iload_n 1, 1) := by decide +kernel
theorem dX12_luck_79 : decode cX12_luck 79 = .ok (.i2l, 1) := by decide +kernel
theorem dX12_luck_80 : decode cX12_luck 80 = .ok (.iload 8, 2) := by decide +kernel
theorem dX12_luck_82 : decode cX12_luck 82 = .ok (.invokestatic 469, 3) := by decide +kernel
theorem dX12_luck_85 : decode cX12_luck 85 = .ok (.lmul, 1) := by decide +kernel
theorem dX12_luck_86 : decode cX12_luck 86 = .ok (.bipush 10, 2) := by decide +kernel
theorem dX12_luck_88 : decode cX12_luck 88 = .ok (.iload_n 1, 1) := by decide +kernel
theorem dX12_luck_89 : decode cX12_luck 89 = .ok (.isub, 1) := by decide +kernel
theorem dX12_luck_90 : decode cX12_luck 90 = .ok (.i2l, 1) := by decide +kernel
theorem dX12_luck_91 : decode cX12_luck 91 = .ok (.iload_n 2, 1) := by decide +kernel
theorem dX12_luck_92 : decode cX12_luck 92 = .ok (.iload 8, 2) := by decide +kernel
theorem dX12_luck_94 : decode cX12_luck 94 = .ok (.isub, 1) := by decide +kernel
theorem dX12_luck_95 : decode cX12_luck 95 = .ok (.invokestatic 469, 3) := by decide +kernel
theorem dX12_luck_98 : decode cX12_luck 98 = .ok (.lmul, 1) := by decide +kernel
theorem dX12_luck_99 : decode cX12_luck 99 = .ok (.ladd, 1) := by decide +kernel
theorem dX12_luck_100 : decode cX12_luck 100 = .ok (.lstore 6, 2) := by decide +kernel
theorem dX12_luck_102 : decode cX12_luck 102 = .ok (.iinc 8 1, 3) := by decide +kernel
theorem dX12_luck_105 : decode cX12_luck 105 = .ok (.goto (-41), 3) := by decide +kernel
theorem dX12_luck_108 : decode cX12_luck 108 = .ok (.ldc2_w 473, 3) := by decide +kernel
theorem dX12_luck_111 : decode cX12_luck 111 = .ok (.iload_n 2, 1) := by decide +kernel
theorem dX12_luck_112 : decode cX12_luck 112 = .ok (.invokestatic 469, 3) := by decide +kernel
theorem dX12_luck_115 : decode cX12_luck 115 = .ok (.iload 4, 2) := by decide +kernel
theorem dX12_luck_117 : decode cX12_luck 117 = .ok (.invokestatic 469, 3) := by decide +kernel
theorem dX12_luck_120 : decode cX12_luck 120 = .ok (.lstore 8, 2) := by decide +kernel
theorem dX12_luck_122 : decode cX12_luck 122 = .ok (.lload 8, 2) := by decide +kernel
theorem dX12_luck_124 : decode cX12_luck 124 = .ok (.lload 6, 2) := by decide +kernel
theorem dX12_luck_126 : decode cX12_luck 126 = .ok (.iload 4, 2) := by decide +kernel
theorem dX12_luck_128 : decode cX12_luck 128 = .ok (.invokestatic 469, 3) := by decide +kernel
theorem dX12_luck_131 : decode cX12_luck 131 = .ok (.lsub, 1) := by decide +kernel
theorem dX12_luck_132 : decode cX12_luck 132 = .ok (.lload 8, 2) := by decide +kernel
theorem dX12_luck_134 : decode cX12_luck 134 = .ok (.iload 5, 2) := by decide +kernel
theorem dX12_luck_136 : decode cX12_luck 136 = .ok (.invokestatic 465, 3) := by decide +kernel
theorem dX12_luck_139 : decode cX12_luck 139 = .ok (.lreturn, 1) := by decide +kernel
theorem dX12_mark_0 : decode cX12_mark 0 = .ok (.aload_n 0, 1) := by decide +kernel
theorem dX12_mark_1 : decode cX12_mark 1 = .ok (.iconst 0, 1) := by decide +kernel
theorem dX12_mark_2 : decode cX12_mark 2 = .ok (.putfield 214, 3) := by decide +kernel
theorem dX12_mark_5 : decode cX12_mark 5 = .ok (.iload_n 1, 1) := by decide +kernel
theorem dX12_mark_6 : decode cX12_mark 6 = .ok (.iconst 0, 1) := by decide +kernel
theorem dX12_mark_7 : decode cX12_mark 7 = .ok (.iconst 3, 1) := by decide +kernel
theorem dX12_mark_8 : decode cX12_mark 8 = .ok (.invokestatic 221, 3) := by decide +kernel
theorem dX12_mark_11 : decode cX12_mark 11 = .ok (.ifCond .eq 16, 3) := by decide +kernel
theorem dX12_mark_14 : decode cX12_mark 14 = .ok (.iload_n 2, 1) := by decide +kernel
theorem dX12_mark_15 : decode cX12_mark 15 = .ok (.ifCond .eq 14, 3) := by decide +kernel
theorem dX12_mark_18 : decode cX12_mark 18 = .ok (.aload_n 0, 1) := by decide +kernel
theorem dX12_mark_19 : decode cX12_mark 19 = .ok (.getfield 201, 3) := by decide +kernel
theorem dX12_mark_22 : decode cX12_mark 22 = .ok (.iload_n 1, 1) := by decide +kernel
theorem dX12_mark_23 : decode cX12_mark 23 = .ok (.iaload, 1) := by decide +kernel
theorem dX12_mark_24 : decode cX12_mark 24 = .ok (.ifCond .ne 5, 3) := by decide +kernel
theorem dX12_mark_27 : decode cX12_mark 27 = .ok (.iconst 0, 1) := by decide +kernel
theorem dX12_mark_28 : decode cX12_mark 28 = .ok (.ireturn, 1) := by decide +kernel
theorem dX12_mark_29 : decode cX12_mark 29 = .ok (.iconst 5, 1) := by decide +kernel
theorem dX12_mark_30 : decode cX12_mark 30 = .ok (.iload_n 1, 1) := by decide +kernel
theorem dX12_mark_31 : decode cX12_mark 31 = .ok (.imul, 1) := by decide +kernel
theorem dX12_mark_32 : decode cX12_mark 32 = .ok (.istore_n 3, 1) := by decide +kernel
theorem dX12_mark_33 : decode cX12_mark 33 = .ok (.iload_n 2, 1) := by decide +kernel
theorem dX12_mark_34 : decode cX12_mark 34 = .ok (.ifCond .ne 83, 3) := by decide +kernel
theorem dX12_mark_37 : decode cX12_mark 37 = .ok (.aload_n 0, 1) := by decide +kernel
theorem dX12_mark_38 : decode cX12_mark 38 = .ok (.dup, 1) := by decide +kernel
theorem dX12_mark_39 : decode cX12_mark 39 = .ok (.getfield 590, 3) := by decide +kernel
theorem dX12_mark_42 : decode cX12_mark 42 = .ok (.iconst 1, 1) := by decide +kernel
theorem dX12_mark_43 : decode cX12_mark 43 = .ok (.iadd, 1) := by decide +kernel
theorem dX12_mark_44 : decode cX12_mark 44 = .ok (.putfield 590, 3) := by decide +kernel
theorem dX12_mark_47 : decode cX12_mark 47 = .ok (.aload_n 0, 1) := by decide +kernel
theorem dX12_mark_48 : decode cX12_mark 48 = .ok (.getfield 201, 3) := by decide +kernel
theorem dX12_mark_51 : decode cX12_mark 51 = .ok (.iload_n 1, 1) := by decide +kernel
theorem dX12_mark_52 : decode cX12_mark 52 = .ok (.aload_n 0, 1) := by decide +kernel
theorem dX12_mark_53 : decode cX12_mark 53 = .ok (.getfield 590, 3) := by decide +kernel
theorem dX12_mark_56 : decode cX12_mark 56 = .ok (.iastore, 1) := by decide +kernel
theorem dX12_mark_57 : decode cX12_mark 57 = .ok (.aload_n 0, 1) := by decide +kernel
theorem dX12_mark_58 : decode cX12_mark 58 = .ok (.getfield 204, 3) := by decide +kernel
theorem dX12_mark_61 : decode cX12_mark 61 = .ok (.iload_n 3, 1) := by decide +kernel
theorem dX12_mark_62 : decode cX12_mark 62 = .ok (.aload_n 0, 1) := by decide +kernel
theorem dX12_mark_63 : decode cX12_mark 63 = .ok (.getfield 235, 3) := by decide +kernel
theorem dX12_mark_66 : decode cX12_mark 66 = .ok (.iastore, 1) := by decide +kernel
theorem dX12_mark_67 : decode cX12_mark 67 = .ok (.aload_n 0, 1) := by decide +kernel
theorem dX12_mark_68 : decode cX12_mark 68 = .ok (.getfield 204, 3) := by decide +kernel
theorem dX12_mark_71 : decode cX12_mark 71 = .ok (.iload_n 3, 1) := by decide +kernel
theorem dX12_mark_72 : decode cX12_mark 72 = .ok (.iconst 1, 1) := by decide +kernel
theorem dX12_mark_73 : decode cX12_mark 73 = .ok (.iadd, 1) := by decide +kernel
theorem dX12_mark_74 : decode cX12_mark 74 = .ok (.aload_n 0, 1) := by decide +kernel
theorem dX12_mark_75 : decode cX12_mark 75 = .ok (.getfield 228, 3) := by decide +kernel
theorem dX12_mark_78 : decode cX12_mark 78 = .ok (.iastore, 1) := by decide +kernel
theorem dX12_mark_79 : decode cX12_mark 79 = .ok (.aload_n 0, 1) := by decide +kernel
theorem dX12_mark_80 : decode cX12_mark 80 = .ok (.getfield 204, 3) := by decide +kernel
theorem dX12_mark_83 : decode cX12_mark 83 = .ok (.iload_n 3, 1) := by decide +kernel
theorem dX12_mark_84 : decode cX12_mark 84 = .ok (.iconst 2, 1) := by decide +kernel
theorem dX12_mark_85 : decode cX12_mark 85 = .ok (.iadd, 1) := by decide +kernel
theorem dX12_mark_86 : decode cX12_mark 86 = .ok (.aload_n 0, 1) := by decide +kernel
theorem dX12_mark_87 : decode cX12_mark 87 = .ok (.getfield 475, 3) := by decide +kernel
theorem dX12_mark_90 : decode cX12_mark 90 = .ok (.iastore, 1) := by decide +kernel
theorem dX12_mark_91 : decode cX12_mark 91 = .ok (.aload_n 0, 1) := by decide +kernel
theorem dX12_mark_92 : decode cX12_mark 92 = .ok (.getfield 204, 3) := by decide +kernel
theorem dX12_mark_95 : decode cX12_mark 95 = .ok (.iload_n 3, 1) := by decide +kernel
theorem dX12_mark_96 : decode cX12_mark 96 = .ok (.iconst 3, 1) := by decide +kernel
theorem dX12_mark_97 : decode cX12_mark 97 = .ok (.iadd, 1) := by decide +kernel
theorem dX12_mark_98 : decode cX12_mark 98 = .ok (.aload_n 0, 1) := by decide +kernel
theorem dX12_mark_99 : decode cX12_mark 99 = .ok (.getfield 545, 3) := by decide +kernel
theorem dX12_mark_102 : decode cX12_mark 102 = .ok (.iastore, 1) := by decide +kernel
theorem dX12_mark_103 : decode cX12_mark 103 = .ok (.aload_n 0, 1) := by decide +kernel
theorem dX12_mark_104 : decode cX12_mark 104 = .ok (.getfield 204, 3) := by decide +kernel
theorem dX12_mark_107 : decode cX12_mark 107 = .ok (.iload_n 3, 1) := by decide +kernel
theorem dX12_mark_108 : decode cX12_mark 108 = .ok (.iconst 4, 1) := by decide +kernel
theorem dX12_mark_109 : decode cX12_mark 109 = .ok (.iadd, 1) := by decide +kernel
theorem dX12_mark_110 : decode cX12_mark 110 = .ok (.aload_n 0, 1) := by decide +kernel
theorem dX12_mark_111 : decode cX12_mark 111 = .ok (.getfield 508, 3) := by decide +kernel
theorem dX12_mark_114 : decode cX12_mark 114 = .ok (.iastore, 1) := by decide +kernel
theorem dX12_mark_115 : decode cX12_mark 115 = .ok (.iconst 1, 1) := by decide +kernel
theorem dX12_mark_116 : decode cX12_mark 116 = .ok (.ireturn, 1) := by decide +kernel
theorem dX12_mark_117 : decode cX12_mark 117 = .ok (.aload_n 0, 1) := by decide +kernel
theorem dX12_mark_118 : decode cX12_mark 118 = .ok (.aload_n 0, 1) := by decide +kernel
theorem dX12_mark_119 : decode cX12_mark 119 = .ok (.getfield 204, 3) := by decide +kernel
theorem dX12_mark_122 : decode cX12_mark 122 = .ok (.iload_n 3, 1) := by decide +kernel
theorem dX12_mark_123 : decode cX12_mark 123 = .ok (.iaload, 1) := by decide +kernel
theorem dX12_mark_124 : decode cX12_mark 124 = .ok (.putfield 235, 3) := by decide +kernel
theorem dX12_mark_127 : decode cX12_mark 127 = .ok (.aload_n 0, 1) := by decide +kernel
theorem dX12_mark_128 : decode cX12_mark 128 = .ok (.aload_n 0, 1) := by decide +kernel
theorem dX12_mark_129 : decode cX12_mark 129 = .ok (.getfield 204, 3) := by decide +kernel
theorem dX12_mark_132 : decode cX12_mark 132 = .ok (.iload_n 3, 1) := by decide +kernel
theorem dX12_mark_133 : decode cX12_mark 133 = .ok (.iconst 1, 1) := by decide +kernel
theorem dX12_mark_134 : decode cX12_mark 134 = .ok (.iadd, 1) := by decide +kernel
theorem dX12_mark_135 : decode cX12_mark 135 = .ok (.iaload, 1) := by decide +kernel
theorem dX12_mark_136 : decode cX12_mark 136 = .ok (.putfield 228, 3) := by decide +kernel
theorem dX12_mark_139 : decode cX12_mark 139 = .ok (.aload_n 0, 1) := by decide +kernel
theorem dX12_mark_140 : decode cX12_mark 140 = .ok (.aload_n 0, 1) := by decide +kernel
theorem dX12_mark_141 : decode cX12_mark 141 = .ok (.getfield 204, 3) := by decide +kernel
theorem dX12_mark_144 : decode cX12_mark 144 = .ok (.iload_n 3, 1) := by decide +kernel
theorem dX12_mark_145 : decode cX12_mark 145 = .ok (.iconst 2, 1) := by decide +kernel
theorem dX12_mark_146 : decode cX12_mark 146 = .ok (.iadd, 1) := by decide +kernel
theorem dX12_mark_147 : decode cX12_mark 147 = .ok (.iaload, 1) := by decide +kernel
theorem dX12_mark_148 : decode cX12_mark 148 = .ok (.putfield 475, 3) := by decide +kernel
theorem dX12_mark_151 : decode cX12_mark 151 = .ok (.aload_n 0, 1) := by decide +kernel
theorem dX12_mark_152 : decode cX12_mark 152 = .ok (.aload_n 0, 1) := by decide +kernel
theorem dX12_mark_153 : decode cX12_mark 153 = .ok (.getfield 204, 3) := by decide +kernel
theorem dX12_mark_156 : decode cX12_mark 156 = .ok (.iload_n 3, 1) := by decide +kernel
theorem dX12_mark_157 : decode cX12_mark 157 = .ok (.iconst 3, 1) := by decide +kernel
theorem dX12_mark_158 : decode cX12_mark 158 = .ok (.iadd, 1) := by decide +kernel
theorem dX12_mark_159 : decode cX12_mark 159 = .ok (.iaload, 1) := by decide +kernel
theorem dX12_mark_160 : decode cX12_mark 160 = .ok (.putfield 545, 3) := by decide +kernel
theorem dX12_mark_163 : decode cX12_mark 163 = .ok (.aload_n 0, 1) := by decide +kernel
theorem dX12_mark_164 : decode cX12_mark 164 = .ok (.aload_n 0, 1) := by decide +kernel
theorem dX12_mark_165 : decode cX12_mark 165 = .ok (.getfield 204, 3) := by decide +kernel
theorem dX12_mark_168 : decode cX12_mark 168 = .ok (.iload_n 3, 1) := by decide +kernel
theorem dX12_mark_169 : decode cX12_mark 169 = .ok (.iconst 4, 1) := by decide +kernel
theorem dX12_mark_170 : decode cX12_mark 170 = .ok (.iadd, 1) := by decide +kernel
theorem dX12_mark_171 : decode cX12_mark 171 = .ok (.iaload, 1) := by decide +kernel
theorem dX12_mark_172 : decode cX12_mark 172 = .ok (.putfield 508, 3) := by decide +kernel
theorem dX12_mark_175 : decode cX12_mark 175 = .ok (.iconst 0, 1) := by decide +kernel
theorem dX12_mark_176 : decode cX12_mark 176 = .ok (.istore 4, 2) := by decide +kernel
theorem dX12_mark_178 : decode cX12_mark 178 = .ok (.iload 4, 2) := by decide +kernel
theorem dX12_mark_180 : decode cX12_mark 180 = .ok (.iconst 4, 1) := by decide +kernel
theorem dX12_mark_181 : decode cX12_mark 181 = .ok (.if_icmp .ge 33, 3) := by decide +kernel
theorem dX12_mark_184 : decode cX12_mark 184 = .ok (.aload_n 0, 1) := by decide +kernel
theorem dX12_mark_185 : decode cX12_mark 185 = .ok (.getfield 201, 3) := by decide +kernel
theorem dX12_mark_188 : decode cX12_mark 188 = .ok (.iload 4, 2) := by decide +kernel
theorem dX12_mark_190 : decode cX12_mark 190 = .ok (.iaload, 1) := by decide +kernel
theorem dX12_mark_191 : decode cX12_mark 191 = .ok (.aload_n 0, 1) := by decide +kernel
theorem dX12_mark_192 : decode cX12_mark 192 = .ok (.getfield 201, 3) := by decide +kernel
theorem dX12_mark_195 : decode cX12_mark 195 = .ok (.iload_n 1, 1) := by decide +kernel
theorem dX12_mark_196 : decode cX12_mark 196 = .ok (.iaload, 1) := by decide +kernel
theorem dX12_mark_197 : decode cX12_mark 197 = .ok (.if_icmp .le 11, 3) := by decide +kernel
theorem dX12_mark_200 : decode cX12_mark 200 = .ok (.aload_n 0, 1) := by decide +kernel
theorem dX12_mark_201 : decode cX12_mark 201 = .ok (.getfield 201, 3) := by decide +kernel
theorem dX12_mark_204 : decode cX12_mark 204 = .ok (.iload 4, 2) := by decide +kernel
theorem dX12_mark_206 : decode cX12_mark 206 = .ok (.iconst 0, 1) := by decide +kernel
theorem dX12_mark_207 : decode cX12_mark 207 = .ok (.iastore, 1) := by decide +kernel
theorem dX12_mark_208 : decode cX12_mark 208 = .ok (.iinc 4 1, 3) := by decide +kernel
theorem dX12_mark_211 : decode cX12_mark 211 = .ok (.goto (-33), 3) := by decide +kernel
theorem dX12_mark_214 : decode cX12_mark 214 = .ok (.iconst 1, 1) := by decide +kernel
theorem dX12_mark_215 : decode cX12_mark 215 = .ok (.ireturn, 1) := by decide +kernel
theorem dX12_may_0 : decode cX12_may 0 = .ok (.aload_n 0, 1) := by decide +kernel
theorem dX12_may_1 : decode cX12_may 1 = .ok (.iconst 0, 1) := by decide +kernel
theorem dX12_may_2 : decode cX12_may 2 = .ok (.putfield 214, 3) := by decide +kernel
theorem dX12_may_5 : decode cX12_may 5 = .ok (.aload_n 0, 1) := by decide +kernel
theorem dX12_may_6 : decode cX12_may 6 = .ok (.iload_n 1, 1) := by decide +kernel
theorem dX12_may_7 : decode cX12_may 7 = .ok (.invokevirtual 249, 3) := by decide +kernel
theorem dX12_may_10 : decode cX12_may 10 = .ok (.ifCond .ne 5, 3) := by decide +kernel
theorem dX12_may_13 : decode cX12_may 13 = .ok (.iconst (-1), 1) := by decide +kernel
theorem dX12_may_14 : decode cX12_may 14 = .ok (.ireturn, 1) := by decide +kernel
theorem dX12_may_15 : decode cX12_may 15 = .ok (.aload_n 0, 1) := by decide +kernel
theorem dX12_may_16 : decode cX12_may 16 = .ok (.iload_n 1, 1) := by decide +kernel
theorem dX12_may_17 : decode cX12_may 17 = .ok (.invokevirtual 478, 3) := by decide +kernel
theorem dX12_may_20 : decode cX12_may 20 = .ok (.istore_n 2, 1) := by decide +kernel
theorem dX12_may_21 : decode cX12_may 21 = .ok (.aload_n 0, 1) := by decide +kernel
theorem dX12_may_22 : decode cX12_may 22 = .ok (.iload_n 1, 1) := by decide +kernel
theorem dX12_may_23 : decode cX12_may 23 = .ok (.iload_n 2, 1) := by decide +kernel
theorem dX12_may_24 : decode cX12_may 24 = .ok (.invokevirtual 481, 3) := by decide +kernel
theorem dX12_may_27 : decode cX12_may 27 = .ok (.istore_n 3, 1) := by decide +kernel
theorem dX12_may_28 : decode cX12_may 28 = .ok (.iload_n 3, 1) := by decide +kernel
theorem dX12_may_29 : decode cX12_may 29 = .ok (.ifCond .eq 7, 3) := by decide +kernel
theorem dX12_may_32 : decode cX12_may 32 = .ok (.iload_n 3, 1) := by decide +kernel
theorem dX12_may_33 : decode cX12_may 33 = .ok (.goto 4, 3) := by decide +kernel
theorem dX12_may_36 : decode cX12_may 36 = .ok (.iload_n 2, 1) := by decide +kernel
theorem dX12_may_37 : decode cX12_may 37 = .ok (.ireturn, 1) := by decide +kernel
theorem dX12_mostFound_0 : decode cX12_mostFound 0 = .ok (.iconst (-1), 1) := by decide +kernel
theorem dX12_mostFound_1 : decode cX12_mostFound 1 = .ok (.istore_n 1, 1) := by decide +kernel
theorem dX12_mostFound_2 : decode cX12_mostFound 2 = .ok (.iconst 0, 1) := by decide +kernel
theorem dX12_mostFound_3 : decode cX12_mostFound 3 = .ok (.istore_n 2, 1) := by decide +kernel
theorem dX12_mostFound_4 : decode cX12_mostFound 4 = .ok (.iconst 0, 1) := by decide +kernel
theorem dX12_mostFound_5 : decode cX12_mostFound 5 = .ok (.istore_n 3, 1) := by decide +kernel
theorem dX12_mostFound_6 : decode cX12_mostFound 6 = .ok (.iload_n 3, 1) := by decide +kernel
theorem dX12_mostFound_7 : decode cX12_mostFound 7 = .ok (.bipush 10, 2) := by decide +kernel
theorem dX12_mostFound_9 : decode cX12_mostFound 9 = .ok (.if_icmp .ge 76, 3) := by decide +kernel
theorem dX12_mostFound_12 : decode cX12_mostFound 12 = .ok (.iconst 0, 1) := by decide +kernel
theorem dX12_mostFound_13 : decode cX12_mostFound 13 = .ok (.istore 4, 2) := by decide +kernel
theorem dX12_mostFound_15 : decode cX12_mostFound 15 = .ok (.iconst 0, 1) := by decide +kernel
theorem dX12_mostFound_16 : decode cX12_mostFound 16 = .ok (.istore 5, 2) := by decide +kernel
theorem dX12_mostFound_18 : decode cX12_mostFound 18 = .ok (.iload 5, 2) := by decide +kernel
theorem dX12_mostFound_20 : decode cX12_mostFound 20 = .ok (.aload_n 0, 1) := by decide +kernel
theorem dX12_mostFound_21 : decode cX12_mostFound 21 = .ok (.getfield 568, 3) := by decide +kernel
theorem dX12_mostFound_24 : decode cX12_mostFound 24 = .ok (.if_icmp .ge 30, 3) := by decide +kernel
theorem dX12_mostFound_27 : decode cX12_mostFound 27 = .ok (.iload 4, 2) := by decide +kernel
theorem dX12_mostFound_29 : decode cX12_mostFound 29 = .ok (.aload_n 0, 1) := by decide +kernel
theorem dX12_mostFound_30 : decode cX12_mostFound 30 = .ok (.getfield 186, 3) := by decide +kernel
theorem dX12_mostFound_33 : decode cX12_mostFound 33 = .ok (.iload 5, 2) := by decide +kernel
theorem dX12_mostFound_35 : decode cX12_mostFound 35 = .ok (.iaload, 1) := by decide +kernel
theorem dX12_mostFound_36 : decode cX12_mostFound 36 = .ok (.iload_n 3, 1) := by decide +kernel
theorem dX12_mostFound_37 : decode cX12_mostFound 37 = .ok (.if_icmp .ne 7, 3) := by decide +kernel
theorem dX12_mostFound_40 : decode cX12_mostFound 40 = .ok (.iconst 1, 1) := by decide +kernel
theorem dX12_mostFound_41 : decode cX12_mostFound 41 = .ok (.goto 4, 3) := by decide +kernel
theorem dX12_mostFound_44 : decode cX12_mostFound 44 = .ok (.iconst 0, 1) := by decide +kernel
theorem dX12_mostFound_45 : decode cX12_mostFound 45 = .ok (.iadd, 1) := by decide +kernel
theorem dX12_mostFound_46 : decode cX12_mostFound 46 = .ok (.istore 4, 2) := by decide +kernel
theorem dX12_mostFound_48 : decode cX12_mostFound 48 = .ok (.iinc 5 1, 3) := by decide +kernel
theorem dX12_mostFound_51 : decode cX12_mostFound 51 = .ok (.goto (-33), 3) := by decide +kernel
theorem dX12_mostFound_54 : decode cX12_mostFound 54 = .ok (.iload 4, 2) := by decide +kernel
theorem dX12_mostFound_56 : decode cX12_mostFound 56 = .ok (.iload_n 2, 1) := by decide +kernel
theorem dX12_mostFound_57 : decode cX12_mostFound 57 = .ok (.if_icmp .le 7, 3) := by decide +kernel
theorem dX12_mostFound_60 : decode cX12_mostFound 60 = .ok (.iload_n 3, 1) := by decide +kernel
theorem dX12_mostFound_61 : decode cX12_mostFound 61 = .ok (.goto 4, 3) := by decide +kernel
theorem dX12_mostFound_64 : decode cX12_mostFound 64 = .ok (.iload_n 1, 1) := by decide +kernel
theorem dX12_mostFound_65 : decode cX12_mostFound 65 = .ok (.istore_n 1, 1) := by decide +kernel
theorem dX12_mostFound_66 : decode cX12_mostFound 66 = .ok (.iload 4, 2) := by decide +kernel
theorem dX12_mostFound_68 : decode cX12_mostFound 68 = .ok (.iload_n 2, 1) := by decide +kernel
theorem dX12_mostFound_69 : decode cX12_mostFound 69 = .ok (.if_icmp .le 8, 3) := by decide +kernel
theorem dX12_mostFound_72 : decode cX12_mostFound 72 = .ok (.iload 4, 2) := by decide +kernel
theorem dX12_mostFound_74 : decode cX12_mostFound 74 = .ok (.goto 4, 3) := by decide +kernel
theorem dX12_mostFound_77 : decode cX12_mostFound 77 = .ok (.iload_n 2, 1) := by decide +kernel
theorem dX12_mostFound_78 : decode cX12_mostFound 78 = .ok (.istore_n 2, 1) := by decide +kernel
theorem dX12_mostFound_79 : decode cX12_mostFound 79 = .ok (.iinc 3 1, 3) := by decide +kernel
theorem dX12_mostFound_82 : decode cX12_mostFound 82 = .ok (.goto (-76), 3) := by decide +kernel
theorem dX12_mostFound_85 : decode cX12_mostFound 85 = .ok (.iload_n 1, 1) := by decide +kernel
theorem dX12_mostFound_86 : decode cX12_mostFound 86 = .ok (.ireturn, 1) := by decide +kernel
theorem dX12_nextToken_0 : decode cX12_nextToken 0 = .ok (.aload_n 0, 1) := by decide +kernel
theorem dX12_nextToken_1 : decode cX12_nextToken 1 = .ok (.getfield 264, 3) := by decide +kernel
theorem dX12_nextToken_4 : decode cX12_nextToken 4 = .ok (.aload_n 0, 1) := by decide +kernel
theorem dX12_nextToken_5 : decode cX12_nextToken 5 = .ok (.getfield 261, 3) := by decide +kernel
theorem dX12_nextToken_8 : decode cX12_nextToken 8 = .ok (.if_icmp .ge 44, 3) := by decide +kernel
theorem dX12_nextToken_11 : decode cX12_nextToken 11 = .ok (.aload_n 0, 1) := by decide +kernel
theorem dX12_nextToken_12 : decode cX12_nextToken 12 = .ok (.getfield 52, 3) := by decide +kernel
theorem dX12_nextToken_15 : decode cX12_nextToken 15 = .ok (.aload_n 0, 1) := by decide +kernel
theorem dX12_nextToken_16 : decode cX12_nextToken 16 = .ok (.getfield 264, 3) := by decide +kernel
theorem dX12_nextToken_19 : decode cX12_nextToken 19 = .ok (.iaload, 1) := by decide +kernel
theorem dX12_nextToken_20 : decode cX12_nextToken 20 = .ok (.bipush 32, 2) := by decide +kernel
theorem dX12_nextToken_22 : decode cX12_nextToken 22 = .ok (.if_icmp .eq 17, 3) := by decide +kernel
theorem dX12_nextToken_25 : decode cX12_nextToken 25 = .ok (.aload_n 0, 1) := by decide +kernel
theorem dX12_nextToken_26 : decode cX12_nextToken 26 = .ok (.getfield 52, 3) := by decide +kernel
theorem dX12_nextToken_29 : decode cX12_nextToken 29 = .ok (.aload_n 0, 1) := by decide +kernel
theorem dX12_nextToken_30 : decode cX12_nextToken 30 = .ok (.getfield 264, 3) := by decide +kernel
theorem dX12_nextToken_33 : decode cX12_nextToken 33 = .ok (.iaload, 1) := by decide +kernel
theorem dX12_nextToken_34 : decode cX12_nextToken 34 = .ok (.bipush 10, 2) := by decide +kernel
theorem dX12_nextToken_36 : decode cX12_nextToken 36 = .ok (.if_icmp .ne 16, 3) := by decide +kernel
theorem dX12_nextToken_39 : decode cX12_nextToken 39 = .ok (.aload_n 0, 1) := by decide +kernel
theorem dX12_nextToken_40 : decode cX12_nextToken 40 = .ok (.dup, 1) := by decide +kernel
theorem dX12_nextToken_41 : decode cX12_nextToken 41 = .ok (.getfield 264, 3) := by decide +kernel
theorem dX12_nextToken_44 : decode cX12_nextToken 44 = .ok (.iconst 1, 1) := by decide +kernel
theorem dX12_nextToken_45 : decode cX12_nextToken 45 = .ok (.iadd, 1) := by decide +kernel
theorem dX12_nextToken_46 : decode cX12_nextToken 46 = .ok (.putfield 264, 3) := by decide +kernel
theorem dX12_nextToken_49 : decode cX12_nextToken 49 = .ok (.goto (-49), 3) := by decide +kernel
theorem dX12_nextToken_52 : decode cX12_nextToken 52 = .ok (.aload_n 0, 1) := by decide +kernel
theorem dX12_nextToken_53 : decode cX12_nextToken 53 = .ok (.aload_n 0, 1) := by decide +kernel
theorem dX12_nextToken_54 : decode cX12_nextToken 54 = .ok (.getfield 264, 3) := by decide +kernel
theorem dX12_nextToken_57 : decode cX12_nextToken 57 = .ok (.putfield 267, 3) := by decide +kernel
theorem dX12_nextToken_60 : decode cX12_nextToken 60 = .ok (.aload_n 0, 1) := by decide +kernel
theorem dX12_nextToken_61 : decode cX12_nextToken 61 = .ok (.lconst 0, 1) := by decide +kernel
theorem dX12_nextToken_62 : decode cX12_nextToken 62 = .ok (.putfield 270, 3) := by decide +kernel
theorem dX12_nextToken_65 : decode cX12_nextToken 65 = .ok (.aload_n 0, 1) := by decide +kernel
theorem dX12_nextToken_66 : decode cX12_nextToken 66 = .ok (.iconst 0, 1) := by decide +kernel
theorem dX12_nextToken_67 : decode cX12_nextToken 67 = .ok (.putfield 274, 3) := by decide +kernel
theorem dX12_nextToken_70 : decode cX12_nextToken 70 = .ok (.aload_n 0, 1) := by decide +kernel
theorem dX12_nextToken_71 : decode cX12_nextToken 71 = .ok (.getfield 264, 3) := by decide +kernel
theorem dX12_nextToken_74 : decode cX12_nextToken 74 = .ok (.aload_n 0, 1) := by decide +kernel
theorem dX12_nextToken_75 : decode cX12_nextToken 75 = .ok (.getfield 261, 3) := by decide +kernel
theorem dX12_nextToken_78 : decode cX12_nextToken 78 = .ok (.if_icmp .ne 9, 3) := by decide +kernel
theorem dX12_nextToken_81 : decode cX12_nextToken 81 = .ok (.aload_n 0, 1) := by decide +kernel
theorem dX12_nextToken_82 : decode cX12_nextToken 82 = .ok (.iconst 0, 1) := by decide +kernel
theorem dX12_nextToken_83 : decode cX12_nextToken 83 = .ok (.putfield 277, 3) := by decide +kernel
theorem dX12_nextToken_86 : decode cX12_nextToken 86 = .ok (.return_, 1) := by decide +kernel
theorem dX12_nextToken_87 : decode cX12_nextToken 87 = .ok (.aload_n 0, 1) := by decide +kernel
theorem dX12_nextToken_88 : decode cX12_nextToken 88 = .ok (.getfield 52, 3) := by decide +kernel
theorem dX12_nextToken_91 : decode cX12_nextToken 91 = .ok (.aload_n 0, 1) := by decide +kernel
theorem dX12_nextToken_92 : decode cX12_nextToken 92 = .ok (.getfield 264, 3) := by decide +kernel
theorem dX12_nextToken_95 : decode cX12_nextToken 95 = .ok (.iaload, 1) := by decide +kernel
theorem dX12_nextToken_96 : decode cX12_nextToken 96 = .ok (.istore_n 1, 1) := by decide +kernel
theorem dX12_nextToken_97 : decode cX12_nextToken 97 = .ok (.iload_n 1, 1) := by decide +kernel
theorem dX12_nextToken_98 : decode cX12_nextToken 98 = .ok (.bipush 97, 2) := by decide +kernel
theorem dX12_nextToken_100 : decode cX12_nextToken 100 = .ok (.if_icmp .lt 112, 3) := by decide +kernel
theorem dX12_nextToken_103 : decode cX12_nextToken 103 = .ok (.iload_n 1, 1) := by decide +kernel
theorem dX12_nextToken_104 : decode cX12_nextToken 104 = .ok (.bipush 122, 2) := by decide +kernel
theorem dX12_nextToken_106 : decode cX12_nextToken 106 = .ok (.if_icmp .gt 106, 3) := by decide +kernel
theorem dX12_nextToken_109 : decode cX12_nextToken 109 = .ok (.aload_n 0, 1) := by decide +kernel
theorem dX12_nextToken_110 : decode cX12_nextToken 110 = .ok (.aload_n 0, 1) := by decide +kernel
theorem dX12_nextToken_111 : decode cX12_nextToken 111 = .ok (.getfield 264, 3) := by decide +kernel
theorem dX12_nextToken_114 : decode cX12_nextToken 114 = .ok (.invokevirtual 280, 3) := by decide +kernel
theorem dX12_nextToken_117 : decode cX12_nextToken 117 = .ok (.bipush 97, 2) := by decide +kernel
theorem dX12_nextToken_119 : decode cX12_nextToken 119 = .ok (.if_icmp .lt 69, 3) := by decide +kernel
theorem dX12_nextToken_122 : decode cX12_nextToken 122 = .ok (.aload_n 0, 1) := by decide +kernel
theorem dX12_nextToken_123 : decode cX12_nextToken 123 = .ok (.aload_n 0, 1) := by decide +kernel
theorem dX12_nextToken_124 : decode cX12_nextToken 124 = .ok (.getfield 264, 3) := by decide +kernel
theorem dX12_nextToken_127 : decode cX12_nextToken 127 = .ok (.invokevirtual 280, 3) := by decide +kernel
theorem dX12_nextToken_130 : decode cX12_nextToken 130 = .ok (.bipush 122, 2) := by decide +kernel
theorem dX12_nextToken_132 : decode cX12_nextToken 132 = .ok (.if_icmp .gt 56, 3) := by decide +kernel
theorem dX12_nextToken_135 : decode cX12_nextToken 135 = .ok (.aload_n 0, 1) := by decide +kernel
theorem dX12_nextToken_136 : decode cX12_nextToken 136 = .ok (.getfield 264, 3) := by decide +kernel
theorem dX12_nextToken_139 : decode cX12_nextToken 139 = .ok (.aload_n 0, 1) := by decide +kernel
theorem dX12_nextToken_140 : decode cX12_nextToken 140 = .ok (.getfield 267, 3) := by decide +kernel
theorem dX12_nextToken_143 : decode cX12_nextToken 143 = .ok (.isub, 1) := by decide +kernel
theorem dX12_nextToken_144 : decode cX12_nextToken 144 = .ok (.bipush 8, 2) := by decide +kernel
theorem dX12_nextToken_146 : decode cX12_nextToken 146 = .ok (.if_icmp .ge 29, 3) := by decide +kernel
theorem dX12_nextToken_149 : decode cX12_nextToken 149 = .ok (.aload_n 0, 1) := by decide +kernel
theorem dX12_nextToken_150 : decode cX12_nextToken 150 = .ok (.aload_n 0, 1) := by decide +kernel
theorem dX12_nextToken_151 : decode cX12_nextToken 151 = .ok (.getfield 270, 3) := by decide +kernel
theorem dX12_nextToken_154 : decode cX12_nextToken 154 = .ok (.ldc2_w 283, 3) := by decide +kernel
theorem dX12_nextToken_157 : decode cX12_nextToken 157 = .ok (.lmul, 1) := by decide +kernel
theorem dX12_nextToken_158 : decode cX12_nextToken 158 = .ok (.aload_n 0, 1) := by decide +kernel
theorem dX12_nextToken_159 : decode cX12_nextToken 159 = .ok (.aload_n 0, 1) := by decide +kernel
theorem dX12_nextToken_160 : decode cX12_nextToken 160 = .ok (.getfield 264, 3) := by decide +kernel
theorem dX12_nextToken_163 : decode cX12_nextToken 163 = .ok (.invokevirtual 280, 3) := by decide +kernel
theorem dX12_nextToken_166 : decode cX12_nextToken 166 = .ok (.i2l, 1) := by decide +kernel
theorem dX12_nextToken_167 : decode cX12_nextToken 167 = .ok (.ladd, 1) := by decide +kernel
theorem dX12_nextToken_168 : decode cX12_nextToken 168 = .ok (.ldc2_w 285, 3) := by decide +kernel
theorem dX12_nextToken_171 : decode cX12_nextToken 171 = .ok (.lsub, 1) := by decide +kernel
theorem dX12_nextToken_172 : decode cX12_nextToken 172 = .ok (.putfield 270, 3) := by decide +kernel
theorem dX12_nextToken_175 : decode cX12_nextToken 175 = .ok (.aload_n 0, 1) := by decide +kernel
theorem dX12_nextToken_176 : decode cX12_nextToken 176 = .ok (.dup, 1) := by decide +kernel
theorem dX12_nextToken_177 : decode cX12_nextToken 177 = .ok (.getfield 264, 3) := by decide +kernel
theorem dX12_nextToken_180 : decode cX12_nextToken 180 = .ok (.iconst 1, 1) := by decide +kernel
theorem dX12_nextToken_181 : decode cX12_nextToken 181 = .ok (.iadd, 1) := by decide +kernel
theorem dX12_nextToken_182 : decode cX12_nextToken 182 = .ok (.putfield 264, 3) := by decide +kernel
theorem dX12_nextToken_185 : decode cX12_nextToken 185 = .ok (.goto (-76), 3) := by decide +kernel
theorem dX12_nextToken_188 : decode cX12_nextToken 188 = .ok (.aload_n 0, 1) := by decide +kernel
theorem dX12_nextToken_189 : decode cX12_nextToken 189 = .ok (.aload_n 0, 1) := by decide +kernel
theorem dX12_nextToken_190 : decode cX12_nextToken 190 = .ok (.getfield 264, 3) := by decide +kernel
theorem dX12_nextToken_193 : decode cX12_nextToken 193 = .ok (.aload_n 0, 1) := by decide +kernel
theorem dX12_nextToken_194 : decode cX12_nextToken 194 = .ok (.getfield 267, 3) := by decide +kernel
theorem dX12_nextToken_197 : decode cX12_nextToken 197 = .ok (.isub, 1) := by decide +kernel
theorem dX12_nextToken_198 : decode cX12_nextToken 198 = .ok (.bipush 8, 2) := by decide +kernel
theorem dX12_nextToken_200 : decode cX12_nextToken 200 = .ok (.if_icmp .le 7, 3) := by decide +kernel
theorem dX12_nextToken_203 : decode cX12_nextToken 203 = .ok (.iconst 4, 1) := by decide +kernel
theorem dX12_nextToken_204 : decode cX12_nextToken 204 = .ok (.goto 4, 3) := by decide +kernel
theorem dX12_nextToken_207 : decode cX12_nextToken 207 = .ok (.iconst 1, 1) := by decide +kernel
theorem dX12_nextToken_208 : decode cX12_nextToken 208 = .ok (.putfield 277, 3) := by decide +kernel
theorem dX12_nextToken_211 : decode cX12_nextToken 211 = .ok (.return_, 1) := by decide +kernel
theorem dX12_nextToken_212 : decode cX12_nextToken 212 = .ok (.iload_n 1, 1) := by decide +kernel
theorem dX12_nextToken_213 : decode cX12_nextToken 213 = .ok (.bipush 48, 2) := by decide +kernel
theorem dX12_nextToken_215 : decode cX12_nextToken 215 = .ok (.if_icmp .lt 107, 3) := by decide +kernel
theorem dX12_nextToken_218 : decode cX12_nextToken 218 = .ok (.iload_n 1, 1) := by decide +kernel
theorem dX12_nextToken_219 : decode cX12_nextToken 219 = .ok (.bipush 57, 2) := by decide +kernel
theorem dX12_nextToken_221 : decode cX12_nextToken 221 = .ok (.if_icmp .gt 101, 3) := by decide +kernel
theorem dX12_nextToken_224 : decode cX12_nextToken 224 = .ok (.aload_n 0, 1) := by decide +kernel
theorem dX12_nextToken_225 : decode cX12_nextToken 225 = .ok (.aload_n 0, 1) := by decide +kernel
theorem dX12_nextToken_226 : decode cX12_nextToken 226 = .ok (.getfield 264, 3) := by decide +kernel
theorem dX12_nextToken_229 : decode cX12_nextToken 229 = .ok (.invokevirtual 280, 3) := by decide +kernel
theorem dX12_nextToken_232 : decode cX12_nextToken 232 = .ok (.bipush 48, 2) := by decide +kernel
theorem dX12_nextToken_234 : decode cX12_nextToken 234 = .ok (.if_icmp .lt 65, 3) := by decide +kernel
theorem dX12_nextToken_237 : decode cX12_nextToken 237 = .ok (.aload_n 0, 1) := by decide +kernel
theorem dX12_nextToken_238 : decode cX12_nextToken 238 = .ok (.aload_n 0, 1) := by decide +kernel
theorem dX12_nextToken_239 : decode cX12_nextToken 239 = .ok (.getfield 264, 3) := by decide +kernel
theorem dX12_nextToken_242 : decode cX12_nextToken 242 = .ok (.invokevirtual 280, 3) := by decide +kernel
theorem dX12_nextToken_245 : decode cX12_nextToken 245 = .ok (.bipush 57, 2) := by decide +kernel
theorem dX12_nextToken_247 : decode cX12_nextToken 247 = .ok (.if_icmp .gt 52, 3) := by decide +kernel
theorem dX12_nextToken_250 : decode cX12_nextToken 250 = .ok (.aload_n 0, 1) := by decide +kernel
theorem dX12_nextToken_251 : decode cX12_nextToken 251 = .ok (.getfield 264, 3) := by decide +kernel
theorem dX12_nextToken_254 : decode cX12_nextToken 254 = .ok (.aload_n 0, 1) := by decide +kernel
theorem dX12_nextToken_255 : decode cX12_nextToken 255 = .ok (.getfield 267, 3) := by decide +kernel
theorem dX12_nextToken_258 : decode cX12_nextToken 258 = .ok (.isub, 1) := by decide +kernel
theorem dX12_nextToken_259 : decode cX12_nextToken 259 = .ok (.iconst 4, 1) := by decide +kernel
theorem dX12_nextToken_260 : decode cX12_nextToken 260 = .ok (.if_icmp .ge 26, 3) := by decide +kernel
theorem dX12_nextToken_263 : decode cX12_nextToken 263 = .ok (.aload_n 0, 1) := by decide +kernel
theorem dX12_nextToken_264 : decode cX12_nextToken 264 = .ok (.aload_n 0, 1) := by decide +kernel
theorem dX12_nextToken_265 : decode cX12_nextToken 265 = .ok (.getfield 274, 3) := by decide +kernel
theorem dX12_nextToken_268 : decode cX12_nextToken 268 = .ok (.bipush 10, 2) := by decide +kernel
theorem dX12_nextToken_270 : decode cX12_nextToken 270 = .ok (.imul, 1) := by decide +kernel
theorem dX12_nextToken_271 : decode cX12_nextToken 271 = .ok (.aload_n 0, 1) := by decide +kernel
theorem dX12_nextToken_272 : decode cX12_nextToken 272 = .ok (.aload_n 0, 1) := by decide +kernel
theorem dX12_nextToken_273 : decode cX12_nextToken 273 = .ok (.getfield 264, 3) := by decide +kernel
theorem dX12_nextToken_276 : decode cX12_nextToken 276 = .ok (.invokevirtual 280, 3) := by decide +kernel
theorem dX12_nextToken_279 : decode cX12_nextToken 279 = .ok (.iadd, 1) := by decide +kernel
theorem dX12_nextToken_280 : decode cX12_nextToken 280 = .ok (.bipush 48, 2) := by decide +kernel
theorem dX12_nextToken_282 : decode cX12_nextToken 282 = .ok (.isub, 1) := by decide +kernel
theorem dX12_nextToken_283 : decode cX12_nextToken 283 = .ok (.putfield 274, 3) := by decide +kernel
theorem dX12_nextToken_286 : decode cX12_nextToken 286 = .ok (.aload_n 0, 1) := by decide +kernel
theorem dX12_nextToken_287 : decode cX12_nextToken 287 = .ok (.dup, 1) := by decide +kernel
theorem dX12_nextToken_288 : decode cX12_nextToken 288 = .ok (.getfield 264, 3) := by decide +kernel
theorem dX12_nextToken_291 : decode cX12_nextToken 291 = .ok (.iconst 1, 1) := by decide +kernel
theorem dX12_nextToken_292 : decode cX12_nextToken 292 = .ok (.iadd, 1) := by decide +kernel
theorem dX12_nextToken_293 : decode cX12_nextToken 293 = .ok (.putfield 264, 3) := by decide +kernel
theorem dX12_nextToken_296 : decode cX12_nextToken 296 = .ok (.goto (-72), 3) := by decide +kernel
theorem dX12_nextToken_299 : decode cX12_nextToken 299 = .ok (.aload_n 0, 1) := by decide +kernel
theorem dX12_nextToken_300 : decode cX12_nextToken 300 = .ok (.aload_n 0, 1) := by decide +kernel
theorem dX12_nextToken_301 : decode cX12_nextToken 301 = .ok (.getfield 264, 3) := by decide +kernel
theorem dX12_nextToken_304 : decode cX12_nextToken 304 = .ok (.aload_n 0, 1) := by decide +kernel
theorem dX12_nextToken_305 : decode cX12_nextToken 305 = .ok (.getfield 267, 3) := by decide +kernel
theorem dX12_nextToken_308 : decode cX12_nextToken 308 = .ok (.isub, 1) := by decide +kernel
theorem dX12_nextToken_309 : decode cX12_nextToken 309 = .ok (.iconst 4, 1) := by decide +kernel
theorem dX12_nextToken_310 : decode cX12_nextToken 310 = .ok (.if_icmp .le 7, 3) := by decide +kernel
theorem dX12_nextToken_313 : decode cX12_nextToken 313 = .ok (.iconst 4, 1) := by decide +kernel
theorem dX12_nextToken_314 : decode cX12_nextToken 314 = .ok (.goto 4, 3) := by decide +kernel
theorem dX12_nextToken_317 : decode cX12_nextToken 317 = .ok (.iconst 2, 1) := by decide +kernel
theorem dX12_nextToken_318 : decode cX12_nextToken 318 = .ok (.putfield 277, 3) := by decide +kernel
theorem dX12_nextToken_321 : decode cX12_nextToken 321 = .ok (.return_, 1) := by decide +kernel
theorem dX12_nextToken_322 : decode cX12_nextToken 322 = .ok (.aload_n 0, 1) := by decide +kernel
theorem dX12_nextToken_323 : decode cX12_nextToken 323 = .ok (.dup, 1) := by decide +kernel
theorem dX12_nextToken_324 : decode cX12_nextToken 324 = .ok (.getfield 264, 3) := by decide +kernel
theorem dX12_nextToken_327 : decode cX12_nextToken 327 = .ok (.iconst 1, 1) := by decide +kernel
theorem dX12_nextToken_328 : decode cX12_nextToken 328 = .ok (.iadd, 1) := by decide +kernel
theorem dX12_nextToken_329 : decode cX12_nextToken 329 = .ok (.putfield 264, 3) := by decide +kernel
theorem dX12_nextToken_332 : decode cX12_nextToken 332 = .ok (.aload_n 0, 1) := by decide +kernel
theorem dX12_nextToken_333 : decode cX12_nextToken 333 = .ok (.iload_n 1, 1) := by decide +kernel
theorem dX12_nextToken_334 : decode cX12_nextToken 334 = .ok (.bipush 40, 2) := by decide +kernel
theorem dX12_nextToken_336 : decode cX12_nextToken 336 = .ok (.if_icmp .lt 9, 3) := by decide +kernel
theorem dX12_nextToken_339 : decode cX12_nextToken 339 = .ok (.iload_n 1, 1) := by decide +kernel
theorem dX12_nextToken_340 : decode cX12_nextToken 340 = .ok (.bipush 43, 2) := by decide +kernel
theorem dX12_nextToken_342 : decode cX12_nextToken 342 = .ok (.if_icmp .le 21, 3) := by decide +kernel
theorem dX12_nextToken_345 : decode cX12_nextToken 345 = .ok (.iload_n 1, 1) := by decide +kernel
theorem dX12_nextToken_346 : decode cX12_nextToken 346 = .ok (.bipush 45, 2) := by decide +kernel
theorem dX12_nextToken_348 : decode cX12_nextToken 348 = .ok (.if_icmp .eq 15, 3) := by decide +kernel
theorem dX12_nextToken_351 : decode cX12_nextToken 351 = .ok (.iload_n 1, 1) := by decide +kernel
theorem dX12_nextToken_352 : decode cX12_nextToken 352 = .ok (.bipush 59, 2) := by decide +kernel
theorem dX12_nextToken_354 : decode cX12_nextToken 354 = .ok (.if_icmp .lt 13, 3) := by decide +kernel
theorem dX12_nextToken_357 : decode cX12_nextToken 357 = .ok (.iload_n 1, 1) := by decide +kernel
theorem dX12_nextToken_358 : decode cX12_nextToken 358 = .ok (.bipush 61, 2) := by decide +kernel
theorem dX12_nextToken_360 : decode cX12_nextToken 360 = .ok (.if_icmp .gt 7, 3) := by decide +kernel
theorem dX12_nextToken_363 : decode cX12_nextToken 363 = .ok (.iconst 3, 1) := by decide +kernel
theorem dX12_nextToken_364 : decode cX12_nextToken 364 = .ok (.goto 4, 3) := by decide +kernel
theorem dX12_nextToken_367 : decode cX12_nextToken 367 = .ok (.iconst 4, 1) := by decide +kernel
theorem dX12_nextToken_368 : decode cX12_nextToken 368 = .ok (.putfield 277, 3) := by decide +kernel
theorem dX12_nextToken_371 : decode cX12_nextToken 371 = .ok (.return_, 1) := by decide +kernel
theorem dX12_odds_0 : decode cX12_odds 0 = .ok (.aload_n 0, 1) := by decide +kernel
theorem dX12_odds_1 : decode cX12_odds 1 = .ok (.iconst 0, 1) := by decide +kernel
theorem dX12_odds_2 : decode cX12_odds 2 = .ok (.putfield 214, 3) := by decide +kernel
theorem dX12_odds_5 : decode cX12_odds 5 = .ok (.iload_n 1, 1) := by decide +kernel
theorem dX12_odds_6 : decode cX12_odds 6 = .ok (.invokestatic 225, 3) := by decide +kernel
theorem dX12_odds_9 : decode cX12_odds 9 = .ok (.ifCond .eq 21, 3) := by decide +kernel
theorem dX12_odds_12 : decode cX12_odds 12 = .ok (.iload_n 2, 1) := by decide +kernel
theorem dX12_odds_13 : decode cX12_odds 13 = .ok (.iconst 0, 1) := by decide +kernel
theorem dX12_odds_14 : decode cX12_odds 14 = .ok (.iconst 2, 1) := by decide +kernel
theorem dX12_odds_15 : decode cX12_odds 15 = .ok (.invokestatic 221, 3) := by decide +kernel
theorem dX12_odds_18 : decode cX12_odds 18 = .ok (.ifCond .eq 12, 3) := by decide +kernel
theorem dX12_odds_21 : decode cX12_odds 21 = .ok (.iload_n 3, 1) := by decide +kernel
theorem dX12_odds_22 : decode cX12_odds 22 = .ok (.iconst 0, 1) := by decide +kernel
theorem dX12_odds_23 : decode cX12_odds 23 = .ok (.iconst 1, 1) := by decide +kernel
theorem dX12_odds_24 : decode cX12_odds 24 = .ok (.invokestatic 221, 3) := by decide +kernel
theorem dX12_odds_27 : decode cX12_odds 27 = .ok (.ifCond .ne 7, 3) := by decide +kernel
theorem dX12_odds_30 : decode cX12_odds 30 = .ok (.ldc2_w 460, 3) := by decide +kernel
theorem dX12_odds_33 : decode cX12_odds 33 = .ok (.lreturn, 1) := by decide +kernel
theorem dX12_odds_34 : decode cX12_odds 34 = .ok (.aload_n 0, 1) := by decide +kernel
theorem dX12_odds_35 : decode cX12_odds 35 = .ok (.iload_n 1, 1) := by decide +kernel
theorem dX12_odds_36 : decode cX12_odds 36 = .ok (.iload_n 2, 1) := by decide +kernel
theorem dX12_odds_37 : decode cX12_odds 37 = .ok (.invokevirtual 456, 3) := by decide +kernel
theorem dX12_odds_40 : decode cX12_odds 40 = .ok (.lconst 0, 1) := by decide +kernel
theorem dX12_odds_41 : decode cX12_odds 41 = .ok (.lstore 4, 2) := by decide +kernel
theorem dX12_odds_43 : decode cX12_odds 43 = .ok (.aload_n 0, 1) := by decide +kernel
theorem dX12_odds_44 : decode cX12_odds 44 = .ok (.getfield 447, 3) := by decide +kernel
theorem dX12_odds_47 : decode cX12_odds 47 = .ok (.istore 6, 2) := by decide +kernel
theorem dX12_odds_49 : decode cX12_odds 49 = .ok (.iload 6, 2) := by decide +kernel
theorem dX12_odds_51 : decode cX12_odds 51 = .ok (.aload_n 0, 1) := by decide +kernel
theorem dX12_odds_52 : decode cX12_odds 52 = .ok (.getfield 444, 3) := by decide +kernel
theorem dX12_odds_55 : decode cX12_odds 55 = .ok (.if_icmp .gt 43, 3) := by decide +kernel
theorem dX12_odds_58 : decode cX12_odds 58 = .ok (.lload 4, 2) := by decide +kernel
theorem dX12_odds_60 : decode cX12_odds 60 = .ok (.aload_n 0, 1) := by decide +kernel
theorem dX12_odds_61 : decode cX12_odds 61 = .ok (.getfield 453, 3) := by decide +kernel
theorem dX12_odds_64 : decode cX12_odds 64 = .ok (.iload 6, 2) := by decide +kernel
theorem dX12_odds_66 : decode cX12_odds 66 = .ok (.invokestatic 462, 3) := by decide +kernel
theorem dX12_odds_69 : decode cX12_odds 69 = .ok (.aload_n 0, 1) := by decide +kernel
theorem dX12_odds_70 : decode cX12_odds 70 = .ok (.getfield 450, 3) := by decide +kernel
theorem dX12_odds_73 : decode cX12_odds 73 = .ok (.aload_n 0, 1) := by decide +kernel
theorem dX12_odds_74 : decode cX12_odds 74 = .ok (.getfield 453, 3) := by decide +kernel
theorem dX12_odds_77 : decode cX12_odds 77 = .ok (.isub, 1) := by decide +kernel
theorem dX12_odds_78 : decode cX12_odds 78 = .ok (.aload_n 0, 1) := by decide +kernel
theorem dX12_odds_79 : decode cX12_odds 79 = .ok (.getfield 444, 3) := by decide +kernel
theorem dX12_odds_82 : decode cX12_odds 82 = .ok (.iload 6, 2) := by decide +kernel
theorem dX12_odds_84 : decode cX12_odds 84 = .ok (.isub, 1) := by decide +kernel
theorem dX12_odds_85 : decode cX12_odds 85 = .ok (.invokestatic 462, 3) := by decide +kernel
theorem dX12_odds_88 : decode cX12_odds 88 = .ok (.lmul, 1) := by decide +kernel
theorem dX12_odds_89 : decode cX12_odds 89 = .ok (.ladd, 1) := by decide +kernel
theorem dX12_odds_90 : decode cX12_odds 90 = .ok (.lstore 4, 2) := by decide +kernel
theorem dX12_odds_92 : decode cX12_odds 92 = .ok (.iinc 6 1, 3) := by decide +kernel
theorem dX12_odds_95 : decode cX12_odds 95 = .ok (.goto (-46), 3) := by decide +kernel
theorem dX12_odds_98 : decode cX12_odds 98 = .ok (.lload 4, 2) := by decide +kernel
theorem dX12_odds_100 : decode cX12_odds 100 = .ok (.aload_n 0, 1) := by decide +kernel
theorem dX12_odds_101 : decode cX12_odds 101 = .ok (.getfield 450, 3) := by decide +kernel
theorem dX12_odds_104 : decode cX12_odds 104 = .ok (.aload_n 0, 1) := by decide +kernel
theorem dX12_odds_105 : decode cX12_odds 105 = .ok (.getfield 444, 3) := by decide +kernel
theorem dX12_odds_108 : decode cX12_odds 108 = .ok (.invokestatic 462, 3) := by decide +kernel
theorem dX12_odds_111 : decode cX12_odds 111 = .ok (.iload_n 3, 1) := by decide +kernel
theorem dX12_odds_112 : decode cX12_odds 112 = .ok (.invokestatic 465, 3) := by decide +kernel
theorem dX12_odds_115 : decode cX12_odds 115 = .ok (.lreturn, 1) := by decide +kernel
theorem dX12_oldest_0 : decode cX12_oldest 0 = .ok (.aload_n 0, 1) := by decide +kernel
theorem dX12_oldest_1 : decode cX12_oldest 1 = .ok (.iconst 0, 1) := by decide +kernel
theorem dX12_oldest_2 : decode cX12_oldest 2 = .ok (.putfield 214, 3) := by decide +kernel
theorem dX12_oldest_5 : decode cX12_oldest 5 = .ok (.iconst (-1), 1) := by decide +kernel
theorem dX12_oldest_6 : decode cX12_oldest 6 = .ok (.istore_n 2, 1) := by decide +kernel
theorem dX12_oldest_7 : decode cX12_oldest 7 = .ok (.iload_n 1, 1) := by decide +kernel
theorem dX12_oldest_8 : decode cX12_oldest 8 = .ok (.iconst (-1), 1) := by decide +kernel
theorem dX12_oldest_9 : decode cX12_oldest 9 = .ok (.if_icmp .eq 12, 3) := by decide +kernel
theorem dX12_oldest_12 : decode cX12_oldest 12 = .ok (.iload_n 1, 1) := by decide +kernel
theorem dX12_oldest_13 : decode cX12_oldest 13 = .ok (.invokestatic 225, 3) := by decide +kernel
theorem dX12_oldest_16 : decode cX12_oldest 16 = .ok (.ifCond .ne 5, 3) := by decide +kernel
theorem dX12_oldest_19 : decode cX12_oldest 19 = .ok (.iconst (-1), 1) := by decide +kernel
theorem dX12_oldest_20 : decode cX12_oldest 20 = .ok (.ireturn, 1) := by decide +kernel
theorem dX12_oldest_21 : decode cX12_oldest 21 = .ok (.iconst 0, 1) := by decide +kernel
theorem dX12_oldest_22 : decode cX12_oldest 22 = .ok (.istore_n 3, 1) := by decide +kernel
theorem dX12_oldest_23 : decode cX12_oldest 23 = .ok (.iload_n 3, 1) := by decide +kernel
theorem dX12_oldest_24 : decode cX12_oldest 24 = .ok (.aload_n 0, 1) := by decide +kernel
theorem dX12_oldest_25 : decode cX12_oldest 25 = .ok (.getfield 235, 3) := by decide +kernel
theorem dX12_oldest_28 : decode cX12_oldest 28 = .ok (.if_icmp .ge 34, 3) := by decide +kernel
theorem dX12_oldest_31 : decode cX12_oldest 31 = .ok (.aload_n 0, 1) := by decide +kernel
theorem dX12_oldest_32 : decode cX12_oldest 32 = .ok (.getfield 43, 3) := by decide +kernel
theorem dX12_oldest_35 : decode cX12_oldest 35 = .ok (.iload_n 3, 1) := by decide +kernel
theorem dX12_oldest_36 : decode cX12_oldest 36 = .ok (.iaload, 1) := by decide +kernel
theorem dX12_oldest_37 : decode cX12_oldest 37 = .ok (.iload_n 1, 1) := by decide +kernel
theorem dX12_oldest_38 : decode cX12_oldest 38 = .ok (.if_icmp .eq 18, 3) := by decide +kernel
theorem dX12_oldest_41 : decode cX12_oldest 41 = .ok (.aload_n 0, 1) := by decide +kernel
theorem dX12_oldest_42 : decode cX12_oldest 42 = .ok (.iload_n 3, 1) := by decide +kernel
theorem dX12_oldest_43 : decode cX12_oldest 43 = .ok (.invokevirtual 238, 3) := by decide +kernel
theorem dX12_oldest_46 : decode cX12_oldest 46 = .ok (.iload_n 2, 1) := by decide +kernel
theorem dX12_oldest_47 : decode cX12_oldest 47 = .ok (.if_icmp .le 9, 3) := by decide +kernel
theorem dX12_oldest_50 : decode cX12_oldest 50 = .ok (.aload_n 0, 1) := by decide +kernel
theorem dX12_oldest_51 : decode cX12_oldest 51 = .ok (.iload_n 3, 1) := by decide +kernel
theorem dX12_oldest_52 : decode cX12_oldest 52 = .ok (.invokevirtual 238, 3) := by decide +kernel
theorem dX12_oldest_55 : decode cX12_oldest 55 = .ok (.istore_n 2, 1) := by decide +kernel
theorem dX12_oldest_56 : decode cX12_oldest 56 = .ok (.iinc 3 1, 3) := by decide +kernel
theorem dX12_oldest_59 : decode cX12_oldest 59 = .ok (.goto (-36), 3) := by decide +kernel
theorem dX12_oldest_62 : decode cX12_oldest 62 = .ok (.iload_n 2, 1) := by decide +kernel
theorem dX12_oldest_63 : decode cX12_oldest 63 = .ok (.ireturn, 1) := by decide +kernel
theorem dX12_opens_0 : decode cX12_opens 0 = .ok (.aload_n 0, 1) := by decide +kernel
theorem dX12_opens_1 : decode cX12_opens 1 = .ok (.getfield 86, 3) := by decide +kernel
theorem dX12_opens_4 : decode cX12_opens 4 = .ok (.iload_n 1, 1) := by decide +kernel
theorem dX12_opens_5 : decode cX12_opens 5 = .ok (.iconst 0, 1) := by decide +kernel
theorem dX12_opens_6 : decode cX12_opens 6 = .ok (.iastore, 1) := by decide +kernel
theorem dX12_opens_7 : decode cX12_opens 7 = .ok (.aload_n 0, 1) := by decide +kernel
theorem dX12_opens_8 : decode cX12_opens 8 = .ok (.getfield 92, 3) := by decide +kernel
theorem dX12_opens_11 : decode cX12_opens 11 = .ok (.iload_n 1, 1) := by decide +kernel
theorem dX12_opens_12 : decode cX12_opens 12 = .ok (.iconst 0, 1) := by decide +kernel
theorem dX12_opens_13 : decode cX12_opens 13 = .ok (.iastore, 1) := by decide +kernel
theorem dX12_opens_14 : decode cX12_opens 14 = .ok (.aload_n 0, 1) := by decide +kernel
theorem dX12_opens_15 : decode cX12_opens 15 = .ok (.getfield 95, 3) := by decide +kernel
theorem dX12_opens_18 : decode cX12_opens 18 = .ok (.iload_n 1, 1) := by decide +kernel
theorem dX12_opens_19 : decode cX12_opens 19 = .ok (.iconst 0, 1) := by decide +kernel
theorem dX12_opens_20 : decode cX12_opens 20 = .ok (.iastore, 1) := by decide +kernel
theorem dX12_opens_21 : decode cX12_opens 21 = .ok (.aload_n 0, 1) := by decide +kernel
theorem dX12_opens_22 : decode cX12_opens 22 = .ok (.getfield 98, 3) := by decide +kernel
theorem dX12_opens_25 : decode cX12_opens 25 = .ok (.iload_n 1, 1) := by decide +kernel
theorem dX12_opens_26 : decode cX12_opens 26 = .ok (.bipush 20, 2) := by decide +kernel
theorem dX12_opens_28 : decode cX12_opens 28 = .ok (.iastore, 1) := by decide +kernel
theorem dX12_opens_29 : decode cX12_opens 29 = .ok (.aload_n 0, 1) := by decide +kernel
theorem dX12_opens_30 : decode cX12_opens 30 = .ok (.getfield 104, 3) := by decide +kernel
theorem dX12_opens_33 : decode cX12_opens 33 = .ok (.iload_n 1, 1) := by decide +kernel
theorem dX12_opens_34 : decode cX12_opens 34 = .ok (.iconst 0, 1) := by decide +kernel
theorem dX12_opens_35 : decode cX12_opens 35 = .ok (.iastore, 1) := by decide +kernel
theorem dX12_opens_36 : decode cX12_opens 36 = .ok (.return_, 1) := by decide +kernel
theorem dX12_paper_0 : decode cX12_paper 0 = .ok (.aload_n 0, 1) := by decide +kernel
theorem dX12_paper_1 : decode cX12_paper 1 = .ok (.iconst 0, 1) := by decide +kernel
theorem dX12_paper_2 : decode cX12_paper 2 = .ok (.putfield 214, 3) := by decide +kernel
theorem dX12_paper_5 : decode cX12_paper 5 = .ok (.iload_n 1, 1) := by decide +kernel
theorem dX12_paper_6 : decode cX12_paper 6 = .ok (.iconst 0, 1) := by decide +kernel
theorem dX12_paper_7 : decode cX12_paper 7 = .ok (.sipush 999, 3) := by decide +kernel
theorem dX12_paper_10 : decode cX12_paper 10 = .ok (.invokestatic 221, 3) := by decide +kernel
theorem dX12_paper_13 : decode cX12_paper 13 = .ok (.ifCond .eq 12, 3) := by decide +kernel
theorem dX12_paper_16 : decode cX12_paper 16 = .ok (.aload_n 0, 1) := by decide +kernel
theorem dX12_paper_17 : decode cX12_paper 17 = .ok (.getfield 545, 3) := by decide +kernel
theorem dX12_paper_20 : decode cX12_paper 20 = .ok (.bipush 40, 2) := by decide +kernel
theorem dX12_paper_22 : decode cX12_paper 22 = .ok (.if_icmp .ne 5, 3) := by decide +kernel
theorem dX12_paper_25 : decode cX12_paper 25 = .ok (.iconst 0, 1) := by decide +kernel
theorem dX12_paper_26 : decode cX12_paper 26 = .ok (.ireturn, 1) := by decide +kernel
theorem dX12_paper_27 : decode cX12_paper 27 = .ok (.aload_n 0, 1) := by decide +kernel
theorem dX12_paper_28 : decode cX12_paper 28 = .ok (.getfield 150, 3) := by decide +kernel
theorem dX12_paper_31 : decode cX12_paper 31 = .ok (.aload_n 0, 1) := by decide +kernel
theorem dX12_paper_32 : decode cX12_paper 32 = .ok (.getfield 545, 3) := by decide +kernel
theorem dX12_paper_35 : decode cX12_paper 35 = .ok (.iload_n 1, 1) := by decide +kernel
theorem dX12_paper_36 : decode cX12_paper 36 = .ok (.iastore, 1) := by decide +kernel
theorem dX12_paper_37 : decode cX12_paper 37 = .ok (.aload_n 0, 1) := by decide +kernel
theorem dX12_paper_38 : decode cX12_paper 38 = .ok (.dup, 1) := by decide +kernel
theorem dX12_paper_39 : decode cX12_paper 39 = .ok (.getfield 545, 3) := by decide +kernel
theorem dX12_paper_42 : decode cX12_paper 42 = .ok (.iconst 1, 1) := by decide +kernel
theorem dX12_paper_43 : decode cX12_paper 43 = .ok (.iadd, 1) := by decide +kernel
theorem dX12_paper_44 : decode cX12_paper 44 = .ok (.putfield 545, 3) := by decide +kernel
theorem dX12_paper_47 : decode cX12_paper 47 = .ok (.iconst 1, 1) := by decide +kernel
theorem dX12_paper_48 : decode cX12_paper 48 = .ok (.ireturn, 1) := by decide +kernel
theorem dX12_parted_0 : decode cX12_parted 0 = .ok (.aload_n 0, 1) := by decide +kernel
theorem dX12_parted_1 : decode cX12_parted 1 = .ok (.iload_n 1, 1) := by decide +kernel
theorem dX12_parted_2 : decode cX12_parted 2 = .ok (.iconst 1, 1) := by decide +kernel
theorem dX12_parted_3 : decode cX12_parted 3 = .ok (.bipush 20, 2) := by decide +kernel
theorem dX12_parted_5 : decode cX12_parted 5 = .ok (.invokestatic 221, 3) := by decide +kernel
theorem dX12_parted_8 : decode cX12_parted 8 = .ok (.ifCond .eq 16, 3) := by decide +kernel
theorem dX12_parted_11 : decode cX12_parted 11 = .ok (.iload_n 2, 1) := by decide +kernel
theorem dX12_parted_12 : decode cX12_parted 12 = .ok (.iconst 0, 1) := by decide +kernel
theorem dX12_parted_13 : decode cX12_parted 13 = .ok (.iconst 1, 1) := by decide +kernel
theorem dX12_parted_14 : decode cX12_parted 14 = .ok (.invokestatic 221, 3) := by decide +kernel
theorem dX12_parted_17 : decode cX12_parted 17 = .ok (.ifCond .eq 7, 3) := by decide +kernel
theorem dX12_parted_20 : decode cX12_parted 20 = .ok (.iconst 0, 1) := by decide +kernel
theorem dX12_parted_21 : decode cX12_parted 21 = .ok (.goto 4, 3) := by decide +kernel
theorem dX12_parted_24 : decode cX12_parted 24 = .ok (.iconst 1, 1) := by decide +kernel
theorem dX12_parted_25 : decode cX12_parted 25 = .ok (.putfield 214, 3) := by decide +kernel
theorem dX12_parted_28 : decode cX12_parted 28 = .ok (.aload_n 0, 1) := by decide +kernel
theorem dX12_parted_29 : decode cX12_parted 29 = .ok (.getfield 214, 3) := by decide +kernel
theorem dX12_parted_32 : decode cX12_parted 32 = .ok (.iconst 1, 1) := by decide +kernel
theorem dX12_parted_33 : decode cX12_parted 33 = .ok (.if_icmp .ne 5, 3) := by decide +kernel
theorem dX12_parted_36 : decode cX12_parted 36 = .ok (.iconst 0, 1) := by decide +kernel
theorem dX12_parted_37 : decode cX12_parted 37 = .ok (.ireturn, 1) := by decide +kernel
theorem dX12_parted_38 : decode cX12_parted 38 = .ok (.iconst 0, 1) := by decide +kernel
theorem dX12_parted_39 : decode cX12_parted 39 = .ok (.istore_n 3, 1) := by decide +kernel
theorem dX12_parted_40 : decode cX12_parted 40 = .ok (.iload_n 3, 1) := by decide +kernel
theorem dX12_parted_41 : decode cX12_parted 41 = .ok (.bipush 8, 2) := by decide +kernel
theorem dX12_parted_43 : decode cX12_parted 43 = .ok (.if_icmp .ge 16, 3) := by decide +kernel
theorem dX12_parted_46 : decode cX12_parted 46 = .ok (.aload_n 0, 1) := by decide +kernel
theorem dX12_parted_47 : decode cX12_parted 47 = .ok (.getfield 198, 3) := by decide +kernel
theorem dX12_parted_50 : decode cX12_parted 50 = .ok (.iload_n 3, 1) := by decide +kernel
theorem dX12_parted_51 : decode cX12_parted 51 = .ok (.iconst 0, 1) := by decide +kernel
theorem dX12_parted_52 : decode cX12_parted 52 = .ok (.iastore, 1) := by decide +kernel
theorem dX12_parted_53 : decode cX12_parted 53 = .ok (.iinc 3 1, 3) := by decide +kernel
theorem dX12_parted_56 : decode cX12_parted 56 = .ok (.goto (-16), 3) := by decide +kernel
theorem dX12_parted_59 : decode cX12_parted 59 = .ok (.iconst 0, 1) := by decide +kernel
theorem dX12_parted_60 : decode cX12_parted 60 = .ok (.istore_n 3, 1) := by decide +kernel
theorem dX12_parted_61 : decode cX12_parted 61 = .ok (.iload_n 3, 1) := by decide +kernel
theorem dX12_parted_62 : decode cX12_parted 62 = .ok (.iload_n 1, 1) := by decide +kernel
theorem dX12_parted_63 : decode cX12_parted 63 = .ok (.if_icmp .ge 92, 3) := by decide +kernel
theorem dX12_parted_66 : decode cX12_parted 66 = .ok (.aload_n 0, 1) := by decide +kernel
theorem dX12_parted_67 : decode cX12_parted 67 = .ok (.iload_n 3, 1) := by decide +kernel
theorem dX12_parted_68 : decode cX12_parted 68 = .ok (.invokevirtual 584, 3) := by decide +kernel
theorem dX12_parted_71 : decode cX12_parted 71 = .ok (.iconst 0, 1) := by decide +kernel
theorem dX12_parted_72 : decode cX12_parted 72 = .ok (.istore 4, 2) := by decide +kernel
theorem dX12_parted_74 : decode cX12_parted 74 = .ok (.iload 4, 2) := by decide +kernel
theorem dX12_parted_76 : decode cX12_parted 76 = .ok (.aload_n 0, 1) := by decide +kernel
theorem dX12_parted_77 : decode cX12_parted 77 = .ok (.getfield 568, 3) := by decide +kernel
theorem dX12_parted_80 : decode cX12_parted 80 = .ok (.if_icmp .ge 69, 3) := by decide +kernel
theorem dX12_parted_83 : decode cX12_parted 83 = .ok (.iconst 0, 1) := by decide +kernel
theorem dX12_parted_84 : decode cX12_parted 84 = .ok (.istore 5, 2) := by decide +kernel
theorem dX12_parted_86 : decode cX12_parted 86 = .ok (.iload 5, 2) := by decide +kernel
theorem dX12_parted_88 : decode cX12_parted 88 = .ok (.bipush 8, 2) := by decide +kernel
theorem dX12_parted_90 : decode cX12_parted 90 = .ok (.if_icmp .ge 53, 3) := by decide +kernel
theorem dX12_parted_93 : decode cX12_parted 93 = .ok (.aload_n 0, 1) := by decide +kernel
theorem dX12_parted_94 : decode cX12_parted 94 = .ok (.getfield 198, 3) := by decide +kernel
theorem dX12_parted_97 : decode cX12_parted 97 = .ok (.iload 5, 2) := by decide +kernel
theorem dX12_parted_99 : decode cX12_parted 99 = .ok (.dup2, 1) := by decide +kernel
theorem dX12_parted_100 : decode cX12_parted 100 = .ok (.iaload, 1) := by decide +kernel
theorem dX12_parted_101 : decode cX12_parted 101 = .ok (.aload_n 0, 1) := by decide +kernel
theorem dX12_parted_102 : decode cX12_parted 102 = .ok (.getfield 180, 3) := by decide +kernel
theorem dX12_parted_105 : decode cX12_parted 105 = .ok (.iload 4, 2) := by decide +kernel
theorem dX12_parted_107 : decode cX12_parted 107 = .ok (.iaload, 1) := by decide +kernel
theorem dX12_parted_108 : decode cX12_parted 108 = .ok (.iload 5, 2) := by decide +kernel
theorem dX12_parted_110 : decode cX12_parted 110 = .ok (.ishr, 1) := by decide +kernel
theorem dX12_parted_111 : decode cX12_parted 111 = .ok (.iconst 1, 1) := by decide +kernel
theorem dX12_parted_112 : decode cX12_parted 112 = .ok (.iand, 1) := by decide +kernel
theorem dX12_parted_113 : decode cX12_parted 113 = .ok (.ifCond .ne 7, 3) := by decide +kernel
theorem dX12_parted_116 : decode cX12_parted 116 = .ok (.iconst 0, 1) := by decide +kernel
theorem dX12_parted_117 : decode cX12_parted 117 = .ok (.goto 18, 3) := by decide +kernel
theorem dX12_parted_120 : decode cX12_parted 120 = .ok (.aload_n 0, 1) := by decide +kernel
theorem dX12_parted_121 : decode cX12_parted 121 = .ok (.getfield 177, 3) := by decide +kernel
theorem dX12_parted_124 : decode cX12_parted 124 = .ok (.iload 4, 2) := by decide +kernel
theorem dX12_parted_126 : decode cX12_parted 126 = .ok (.baload, 1) := by decide +kernel
theorem dX12_parted_127 : decode cX12_parted 127 = .ok (.ifCond .eq 7, 3) := by decide +kernel
theorem dX12_parted_130 : decode cX12_parted 130 = .ok (.iconst 1, 1) := by decide +kernel
theorem dX12_parted_131 : decode cX12_parted 131 = .ok (.goto 4, 3) := by decide +kernel
theorem dX12_parted_134 : decode cX12_parted 134 = .ok (.iconst (-1), 1) := by decide +kernel
theorem dX12_parted_135 : decode cX12_parted 135 = .ok (.iadd, 1) := by decide +kernel
theorem dX12_parted_136 : decode cX12_parted 136 = .ok (.iastore, 1) := by decide +kernel
theorem dX12_parted_137 : decode cX12_parted 137 = .ok (.iinc 5 1, 3) := by decide +kernel
theorem dX12_parted_140 : decode cX12_parted 140 = .ok (.goto (-54), 3) := by decide +kernel
theorem dX12_parted_143 : decode cX12_parted 143 = .ok (.iinc 4 1, 3) := by decide +kernel
theorem dX12_parted_146 : decode cX12_parted 146 = .ok (.goto (-72), 3) := by decide +kernel
theorem dX12_parted_149 : decode cX12_parted 149 = .ok (.iinc 3 1, 3) := by decide +kernel
theorem dX12_parted_152 : decode cX12_parted 152 = .ok (.goto (-91), 3) := by decide +kernel
theorem dX12_parted_155 : decode cX12_parted 155 = .ok (.iconst 0, 1) := by decide +kernel
theorem dX12_parted_156 : decode cX12_parted 156 = .ok (.istore_n 3, 1) := by decide +kernel
theorem dX12_parted_157 : decode cX12_parted 157 = .ok (.iconst 1, 1) := by decide +kernel
theorem dX12_parted_158 : decode cX12_parted 158 = .ok (.istore 4, 2) := by decide +kernel
theorem dX12_parted_160 : decode cX12_parted 160 = .ok (.iload 4, 2) := by decide +kernel
theorem dX12_parted_162 : decode cX12_parted 162 = .ok (.bipush 8, 2) := by decide +kernel
theorem dX12_parted_164 : decode cX12_parted 164 = .ok (.if_icmp .ge 32, 3) := by decide +kernel
theorem dX12_parted_167 : decode cX12_parted 167 = .ok (.aload_n 0, 1) := by decide +kernel
theorem dX12_parted_168 : decode cX12_parted 168 = .ok (.getfield 198, 3) := by decide +kernel
theorem dX12_parted_171 : decode cX12_parted 171 = .ok (.iload 4, 2) := by decide +kernel
theorem dX12_parted_173 : decode cX12_parted 173 = .ok (.iaload, 1) := by decide +kernel
theorem dX12_parted_174 : decode cX12_parted 174 = .ok (.aload_n 0, 1) := by decide +kernel
theorem dX12_parted_175 : decode cX12_parted 175 = .ok (.getfield 198, 3) := by decide +kernel
theorem dX12_parted_178 : decode cX12_parted 178 = .ok (.iload_n 3, 1) := by decide +kernel
theorem dX12_parted_179 : decode cX12_parted 179 = .ok (.iaload, 1) := by decide +kernel
theorem dX12_parted_180 : decode cX12_parted 180 = .ok (.if_icmp .le 8, 3) := by decide +kernel
theorem dX12_parted_183 : decode cX12_parted 183 = .ok (.iload 4, 2) := by decide +kernel
theorem dX12_parted_185 : decode cX12_parted 185 = .ok (.goto 4, 3) := by decide +kernel
theorem dX12_parted_188 : decode cX12_parted 188 = .ok (.iload_n 3, 1) := by decide +kernel
theorem dX12_parted_189 : decode cX12_parted 189 = .ok (.istore_n 3, 1) := by decide +kernel
theorem dX12_parted_190 : decode cX12_parted 190 = .ok (.iinc 4 1, 3) := by decide +kernel
theorem dX12_parted_193 : decode cX12_parted 193 = .ok (.goto (-33), 3) := by decide +kernel
theorem dX12_parted_196 : decode cX12_parted 196 = .ok (.iload_n 2, 1) := by decide +kernel
theorem dX12_parted_197 : decode cX12_parted 197 = .ok (.ifCond .ne 7, 3) := by decide +kernel
theorem dX12_parted_200 : decode cX12_parted 200 = .ok (.iload_n 3, 1) := by decide +kernel
theorem dX12_parted_201 : decode cX12_parted 201 = .ok (.goto 9, 3) := by decide +kernel
theorem dX12_parted_204 : decode cX12_parted 204 = .ok (.aload_n 0, 1) := by decide +kernel
theorem dX12_parted_205 : decode cX12_parted 205 = .ok (.getfield 198, 3) := by decide +kernel
theorem dX12_parted_208 : decode cX12_parted 208 = .ok (.iload_n 3, 1) := by decide +kernel
theorem dX12_parted_209 : decode cX12_parted 209 = .ok (.iaload, 1) := by decide +kernel
theorem dX12_parted_210 : decode cX12_parted 210 = .ok (.ireturn, 1) := by decide +kernel
theorem dX12_power_0 : decode cX12_power 0 = .ok (.lconst 1, 1) := by decide +kernel
theorem dX12_power_1 : decode cX12_power 1 = .ok (.lstore_n 3, 1) := by decide +kernel
theorem dX12_power_2 : decode cX12_power 2 = .ok (.iconst 0, 1) := by decide +kernel
theorem dX12_power_3 : decode cX12_power 3 = .ok (.istore 5, 2) := by decide +kernel
theorem dX12_power_5 : decode cX12_power 5 = .ok (.iload 5, 2) := by decide +kernel
theorem dX12_power_7 : decode cX12_power 7 = .ok (.iload_n 2, 1) := by decide +kernel
theorem dX12_power_8 : decode cX12_power 8 = .ok (.if_icmp .ge 13, 3) := by decide +kernel
theorem dX12_power_11 : decode cX12_power 11 = .ok (.lload_n 3, 1) := by decide +kernel
theorem dX12_power_12 : decode cX12_power 12 = .ok (.lload_n 0, 1) := by decide +kernel
theorem dX12_power_13 : decode cX12_power 13 = .ok (.lmul, 1) := by decide +kernel
theorem dX12_power_14 : decode cX12_power 14 = .ok (.lstore_n 3, 1) := by decide +kernel
theorem dX12_power_15 : decode cX12_power 15 = .ok (.iinc 5 1, 3) := by decide +kernel
theorem dX12_power_18 : decode cX12_power 18 = .ok (.goto (-13), 3) := by decide +kernel
theorem dX12_power_21 : decode cX12_power 21 = .ok (.lload_n 3, 1) := by decide +kernel
theorem dX12_power_22 : decode cX12_power 22 = .ok (.lreturn, 1) := by decide +kernel
theorem dX12_present_0 : decode cX12_present 0 = .ok (.aload_n 0, 1) := by decide +kernel
theorem dX12_present_1 : decode cX12_present 1 = .ok (.iconst 0, 1) := by decide +kernel
theorem dX12_present_2 : decode cX12_present 2 = .ok (.putfield 214, 3) := by decide +kernel
theorem dX12_present_5 : decode cX12_present 5 = .ok (.iload_n 1, 1) := by decide +kernel
theorem dX12_present_6 : decode cX12_present 6 = .ok (.invokestatic 217, 3) := by decide +kernel
theorem dX12_present_9 : decode cX12_present 9 = .ok (.ifCond .eq 34, 3) := by decide +kernel
theorem dX12_present_12 : decode cX12_present 12 = .ok (.iload_n 2, 1) := by decide +kernel
theorem dX12_present_13 : decode cX12_present 13 = .ok (.iconst 0, 1) := by decide +kernel
theorem dX12_present_14 : decode cX12_present 14 = .ok (.sipush 999, 3) := by decide +kernel
theorem dX12_present_17 : decode cX12_present 17 = .ok (.invokestatic 221, 3) := by decide +kernel
theorem dX12_present_20 : decode cX12_present 20 = .ok (.ifCond .eq 23, 3) := by decide +kernel
theorem dX12_present_23 : decode cX12_present 23 = .ok (.iload_n 3, 1) := by decide +kernel
theorem dX12_present_24 : decode cX12_present 24 = .ok (.iconst 0, 1) := by decide +kernel
theorem dX12_present_25 : decode cX12_present 25 = .ok (.bipush 23, 2) := by decide +kernel
theorem dX12_present_27 : decode cX12_present 27 = .ok (.invokestatic 221, 3) := by decide +kernel
theorem dX12_present_30 : decode cX12_present 30 = .ok (.ifCond .eq 13, 3) := by decide +kernel
theorem dX12_present_33 : decode cX12_present 33 = .ok (.aload_n 0, 1) := by decide +kernel
theorem dX12_present_34 : decode cX12_present 34 = .ok (.iload_n 1, 1) := by decide +kernel
theorem dX12_present_35 : decode cX12_present 35 = .ok (.iload_n 2, 1) := by decide +kernel
theorem dX12_present_36 : decode cX12_present 36 = .ok (.iload_n 3, 1) := by decide +kernel
theorem dX12_present_37 : decode cX12_present 37 = .ok (.invokevirtual 231, 3) := by decide +kernel
theorem dX12_present_40 : decode cX12_present 40 = .ok (.goto 4, 3) := by decide +kernel
theorem dX12_present_43 : decode cX12_present 43 = .ok (.iconst (-1), 1) := by decide +kernel
theorem dX12_present_44 : decode cX12_present 44 = .ok (.ireturn, 1) := by decide +kernel
theorem dX12_presentAt_0 : decode cX12_presentAt 0 = .ok (.iconst 0, 1) := by decide +kernel
theorem dX12_presentAt_1 : decode cX12_presentAt 1 = .ok (.istore 4, 2) := by decide +kernel
theorem dX12_presentAt_3 : decode cX12_presentAt 3 = .ok (.iconst 0, 1) := by decide +kernel
theorem dX12_presentAt_4 : decode cX12_presentAt 4 = .ok (.istore 5, 2) := by decide +kernel
theorem dX12_presentAt_6 : decode cX12_presentAt 6 = .ok (.iload 5, 2) := by decide +kernel
theorem dX12_presentAt_8 : decode cX12_presentAt 8 = .ok (.aload_n 0, 1) := by decide +kernel
theorem dX12_presentAt_9 : decode cX12_presentAt 9 = .ok (.getfield 228, 3) := by decide +kernel
theorem dX12_presentAt_12 : decode cX12_presentAt 12 = .ok (.if_icmp .ge 67, 3) := by decide +kernel
theorem dX12_presentAt_15 : decode cX12_presentAt 15 = .ok (.aload_n 0, 1) := by decide +kernel
theorem dX12_presentAt_16 : decode cX12_presentAt 16 = .ok (.getfield 19, 3) := by decide +kernel
theorem dX12_presentAt_19 : decode cX12_presentAt 19 = .ok (.iload 5, 2) := by decide +kernel
theorem dX12_presentAt_21 : decode cX12_presentAt 21 = .ok (.iaload, 1) := by decide +kernel
theorem dX12_presentAt_22 : decode cX12_presentAt 22 = .ok (.iload_n 1, 1) := by decide +kernel
theorem dX12_presentAt_23 : decode cX12_presentAt 23 = .ok (.if_icmp .ne 50, 3) := by decide +kernel
theorem dX12_presentAt_26 : decode cX12_presentAt 26 = .ok (.aload_n 0, 1) := by decide +kernel
theorem dX12_presentAt_27 : decode cX12_presentAt 27 = .ok (.getfield 22, 3) := by decide +kernel
theorem dX12_presentAt_30 : decode cX12_presentAt 30 = .ok (.iload 5, 2) := by decide +kernel
theorem dX12_presentAt_32 : decode cX12_presentAt 32 = .ok (.iaload, 1) := by decide +kernel
theorem dX12_presentAt_33 : decode cX12_presentAt 33 = .ok (.iload_n 2, 1) := by decide +kernel
theorem dX12_presentAt_34 : decode cX12_presentAt 34 = .ok (.if_icmp .ne 39, 3) := by decide +kernel
theorem dX12_presentAt_37 : decode cX12_presentAt 37 = .ok (.aload_n 0, 1) := by decide +kernel
theorem dX12_presentAt_38 : decode cX12_presentAt 38 = .ok (.getfield 25, 3) := by decide +kernel
theorem dX12_presentAt_41 : decode cX12_presentAt 41 = .ok (.iload 5, 2) := by decide +kernel
theorem dX12_presentAt_43 : decode cX12_presentAt 43 = .ok (.iaload, 1) := by decide +kernel
theorem dX12_presentAt_44 : decode cX12_presentAt 44 = .ok (.iload_n 3, 1) := by decide +kernel
theorem dX12_presentAt_45 : decode cX12_presentAt 45 = .ok (.if_icmp .gt 28, 3) := by decide +kernel
theorem dX12_presentAt_48 : decode cX12_presentAt 48 = .ok (.aload_n 0, 1) := by decide +kernel
theorem dX12_presentAt_49 : decode cX12_presentAt 49 = .ok (.getfield 28, 3) := by decide +kernel
theorem dX12_presentAt_52 : decode cX12_presentAt 52 = .ok (.iload 5, 2) := by decide +kernel
theorem dX12_presentAt_54 : decode cX12_presentAt 54 = .ok (.iaload, 1) := by decide +kernel
theorem dX12_presentAt_55 : decode cX12_presentAt 55 = .ok (.iload_n 3, 1) := by decide +kernel
theorem dX12_presentAt_56 : decode cX12_presentAt 56 = .ok (.if_icmp .lt 17, 3) := by decide +kernel
theorem dX12_presentAt_59 : decode cX12_presentAt 59 = .ok (.iload 4, 2) := by decide +kernel
theorem dX12_presentAt_61 : decode cX12_presentAt 61 = .ok (.iconst 1, 1) := by decide +kernel
theorem dX12_presentAt_62 : decode cX12_presentAt 62 = .ok (.aload_n 0, 1) := by decide +kernel
theorem dX12_presentAt_63 : decode cX12_presentAt 63 = .ok (.getfield 16, 3) := by decide +kernel

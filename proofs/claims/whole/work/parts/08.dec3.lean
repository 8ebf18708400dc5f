theorem dX12_presentAt_66 : decode cX12_presentAt 66 = .ok (.iload 5, 2) := by decide +kernel
theorem dX12_presentAt_68 : decode cX12_presentAt 68 = .ok (.iaload, 1) := by decide +kernel
theorem dX12_presentAt_69 : decode cX12_presentAt 69 = .ok (.ishl, 1) := by decide +kernel
theorem dX12_presentAt_70 : decode cX12_presentAt 70 = .ok (.ior, 1) := by decide +kernel
theorem dX12_presentAt_71 : decode cX12_presentAt 71 = .ok (.istore 4, 2) := by decide +kernel
theorem dX12_presentAt_73 : decode cX12_presentAt 73 = .ok (.iinc 5 1, 3) := by decide +kernel
theorem dX12_presentAt_76 : decode cX12_presentAt 76 = .ok (.goto (-70), 3) := by decide +kernel
theorem dX12_presentAt_79 : decode cX12_presentAt 79 = .ok (.iload 4, 2) := by decide +kernel
theorem dX12_presentAt_81 : decode cX12_presentAt 81 = .ok (.ireturn, 1) := by decide +kernel
theorem dX12_put_0 : decode cX12_put 0 = .ok (.aload_n 0, 1) := by decide +kernel
theorem dX12_put_1 : decode cX12_put 1 = .ok (.iconst 0, 1) := by decide +kernel
theorem dX12_put_2 : decode cX12_put 2 = .ok (.putfield 214, 3) := by decide +kernel
theorem dX12_put_5 : decode cX12_put 5 = .ok (.aload_n 0, 1) := by decide +kernel
theorem dX12_put_6 : decode cX12_put 6 = .ok (.iload_n 1, 1) := by decide +kernel
theorem dX12_put_7 : decode cX12_put 7 = .ok (.invokevirtual 249, 3) := by decide +kernel
theorem dX12_put_10 : decode cX12_put 10 = .ok (.ifCond .ne 5, 3) := by decide +kernel
theorem dX12_put_13 : decode cX12_put 13 = .ok (.iconst (-1), 1) := by decide +kernel
theorem dX12_put_14 : decode cX12_put 14 = .ok (.ireturn, 1) := by decide +kernel
theorem dX12_put_15 : decode cX12_put 15 = .ok (.aload_n 0, 1) := by decide +kernel
theorem dX12_put_16 : decode cX12_put 16 = .ok (.iload_n 1, 1) := by decide +kernel
theorem dX12_put_17 : decode cX12_put 17 = .ok (.aload_n 0, 1) := by decide +kernel
theorem dX12_put_18 : decode cX12_put 18 = .ok (.iload_n 1, 1) := by decide +kernel
theorem dX12_put_19 : decode cX12_put 19 = .ok (.invokevirtual 478, 3) := by decide +kernel
theorem dX12_put_22 : decode cX12_put 22 = .ok (.invokevirtual 481, 3) := by decide +kernel
theorem dX12_put_25 : decode cX12_put 25 = .ok (.ifCond .ne 12, 3) := by decide +kernel
theorem dX12_put_28 : decode cX12_put 28 = .ok (.aload_n 0, 1) := by decide +kernel
theorem dX12_put_29 : decode cX12_put 29 = .ok (.iload_n 1, 1) := by decide +kernel
theorem dX12_put_30 : decode cX12_put 30 = .ok (.invokevirtual 438, 3) := by decide +kernel
theorem dX12_put_33 : decode cX12_put 33 = .ok (.iconst 2, 1) := by decide +kernel
theorem dX12_put_34 : decode cX12_put 34 = .ok (.if_icmp .ne 7, 3) := by decide +kernel
theorem dX12_put_37 : decode cX12_put 37 = .ok (.iconst 1, 1) := by decide +kernel
theorem dX12_put_38 : decode cX12_put 38 = .ok (.goto 4, 3) := by decide +kernel
theorem dX12_put_41 : decode cX12_put 41 = .ok (.iconst 0, 1) := by decide +kernel
theorem dX12_put_42 : decode cX12_put 42 = .ok (.ireturn, 1) := by decide +kernel
theorem dX12_puts_0 : decode cX12_puts 0 = .ok (.aload_n 0, 1) := by decide +kernel
theorem dX12_puts_1 : decode cX12_puts 1 = .ok (.getfield 74, 3) := by decide +kernel
theorem dX12_puts_4 : decode cX12_puts 4 = .ok (.aload_n 0, 1) := by decide +kernel
theorem dX12_puts_5 : decode cX12_puts 5 = .ok (.getfield 290, 3) := by decide +kernel
theorem dX12_puts_8 : decode cX12_puts 8 = .ok (.iload_n 1, 1) := by decide +kernel
theorem dX12_puts_9 : decode cX12_puts 9 = .ok (.iastore, 1) := by decide +kernel
theorem dX12_puts_10 : decode cX12_puts 10 = .ok (.aload_n 0, 1) := by decide +kernel
theorem dX12_puts_11 : decode cX12_puts 11 = .ok (.dup, 1) := by decide +kernel
theorem dX12_puts_12 : decode cX12_puts 12 = .ok (.getfield 290, 3) := by decide +kernel
theorem dX12_puts_15 : decode cX12_puts 15 = .ok (.iconst 1, 1) := by decide +kernel
theorem dX12_puts_16 : decode cX12_puts 16 = .ok (.iadd, 1) := by decide +kernel
theorem dX12_puts_17 : decode cX12_puts 17 = .ok (.putfield 290, 3) := by decide +kernel
theorem dX12_puts_20 : decode cX12_puts 20 = .ok (.return_, 1) := by decide +kernel
theorem dX12_rates_0 : decode cX12_rates 0 = .ok (.aload_n 0, 1) := by decide +kernel
theorem dX12_rates_1 : decode cX12_rates 1 = .ok (.iconst 0, 1) := by decide +kernel
theorem dX12_rates_2 : decode cX12_rates 2 = .ok (.putfield 214, 3) := by decide +kernel
theorem dX12_rates_5 : decode cX12_rates 5 = .ok (.iload_n 1, 1) := by decide +kernel
theorem dX12_rates_6 : decode cX12_rates 6 = .ok (.iconst 1, 1) := by decide +kernel
theorem dX12_rates_7 : decode cX12_rates 7 = .ok (.bipush 20, 2) := by decide +kernel
theorem dX12_rates_9 : decode cX12_rates 9 = .ok (.invokestatic 221, 3) := by decide +kernel
theorem dX12_rates_12 : decode cX12_rates 12 = .ok (.ifCond .eq 12, 3) := by decide +kernel
theorem dX12_rates_15 : decode cX12_rates 15 = .ok (.iload_n 2, 1) := by decide +kernel
theorem dX12_rates_16 : decode cX12_rates 16 = .ok (.iconst 0, 1) := by decide +kernel
theorem dX12_rates_17 : decode cX12_rates 17 = .ok (.iconst 5, 1) := by decide +kernel
theorem dX12_rates_18 : decode cX12_rates 18 = .ok (.invokestatic 221, 3) := by decide +kernel
theorem dX12_rates_21 : decode cX12_rates 21 = .ok (.ifCond .ne 5, 3) := by decide +kernel
theorem dX12_rates_24 : decode cX12_rates 24 = .ok (.iconst (-1), 1) := by decide +kernel
theorem dX12_rates_25 : decode cX12_rates 25 = .ok (.ireturn, 1) := by decide +kernel
theorem dX12_rates_26 : decode cX12_rates 26 = .ok (.iconst 0, 1) := by decide +kernel
theorem dX12_rates_27 : decode cX12_rates 27 = .ok (.istore_n 3, 1) := by decide +kernel
theorem dX12_rates_28 : decode cX12_rates 28 = .ok (.iconst 0, 1) := by decide +kernel
theorem dX12_rates_29 : decode cX12_rates 29 = .ok (.istore 4, 2) := by decide +kernel
theorem dX12_rates_31 : decode cX12_rates 31 = .ok (.iload 4, 2) := by decide +kernel
theorem dX12_rates_33 : decode cX12_rates 33 = .ok (.iload_n 1, 1) := by decide +kernel
theorem dX12_rates_34 : decode cX12_rates 34 = .ok (.if_icmp .ge 101, 3) := by decide +kernel
theorem dX12_rates_37 : decode cX12_rates 37 = .ok (.aload_n 0, 1) := by decide +kernel
theorem dX12_rates_38 : decode cX12_rates 38 = .ok (.iload 4, 2) := by decide +kernel
theorem dX12_rates_40 : decode cX12_rates 40 = .ok (.invokevirtual 584, 3) := by decide +kernel
theorem dX12_rates_43 : decode cX12_rates 43 = .ok (.iconst 0, 1) := by decide +kernel
theorem dX12_rates_44 : decode cX12_rates 44 = .ok (.istore 5, 2) := by decide +kernel
theorem dX12_rates_46 : decode cX12_rates 46 = .ok (.iload 5, 2) := by decide +kernel
theorem dX12_rates_48 : decode cX12_rates 48 = .ok (.aload_n 0, 1) := by decide +kernel
theorem dX12_rates_49 : decode cX12_rates 49 = .ok (.getfield 568, 3) := by decide +kernel
theorem dX12_rates_52 : decode cX12_rates 52 = .ok (.if_icmp .ge 77, 3) := by decide +kernel
theorem dX12_rates_55 : decode cX12_rates 55 = .ok (.iload_n 2, 1) := by decide +kernel
theorem dX12_rates_56 : decode cX12_rates 56 = .ok (.iconst 3, 1) := by decide +kernel
theorem dX12_rates_57 : decode cX12_rates 57 = .ok (.irem, 1) := by decide +kernel
theorem dX12_rates_58 : decode cX12_rates 58 = .ok (.ifCond .eq 25, 3) := by decide +kernel
theorem dX12_rates_61 : decode cX12_rates 61 = .ok (.aload_n 0, 1) := by decide +kernel
theorem dX12_rates_62 : decode cX12_rates 62 = .ok (.getfield 195, 3) := by decide +kernel
theorem dX12_rates_65 : decode cX12_rates 65 = .ok (.iload 5, 2) := by decide +kernel
theorem dX12_rates_67 : decode cX12_rates 67 = .ok (.iaload, 1) := by decide +kernel
theorem dX12_rates_68 : decode cX12_rates 68 = .ok (.iload_n 2, 1) := by decide +kernel
theorem dX12_rates_69 : decode cX12_rates 69 = .ok (.iconst 3, 1) := by decide +kernel
theorem dX12_rates_70 : decode cX12_rates 70 = .ok (.irem, 1) := by decide +kernel
theorem dX12_rates_71 : decode cX12_rates 71 = .ok (.iconst 1, 1) := by decide +kernel
theorem dX12_rates_72 : decode cX12_rates 72 = .ok (.if_icmp .ne 7, 3) := by decide +kernel
theorem dX12_rates_75 : decode cX12_rates 75 = .ok (.iconst 2, 1) := by decide +kernel
theorem dX12_rates_76 : decode cX12_rates 76 = .ok (.goto 4, 3) := by decide +kernel
theorem dX12_rates_79 : decode cX12_rates 79 = .ok (.iconst 1, 1) := by decide +kernel
theorem dX12_rates_80 : decode cX12_rates 80 = .ok (.if_icmp .ne 7, 3) := by decide +kernel
theorem dX12_rates_83 : decode cX12_rates 83 = .ok (.iconst 1, 1) := by decide +kernel
theorem dX12_rates_84 : decode cX12_rates 84 = .ok (.goto 4, 3) := by decide +kernel
theorem dX12_rates_87 : decode cX12_rates 87 = .ok (.iconst 0, 1) := by decide +kernel
theorem dX12_rates_88 : decode cX12_rates 88 = .ok (.istore 6, 2) := by decide +kernel
theorem dX12_rates_90 : decode cX12_rates 90 = .ok (.iload_n 3, 1) := by decide +kernel
theorem dX12_rates_91 : decode cX12_rates 91 = .ok (.iload 6, 2) := by decide +kernel
theorem dX12_rates_93 : decode cX12_rates 93 = .ok (.ifCond .eq 27, 3) := by decide +kernel
theorem dX12_rates_96 : decode cX12_rates 96 = .ok (.aload_n 0, 1) := by decide +kernel
theorem dX12_rates_97 : decode cX12_rates 97 = .ok (.getfield 177, 3) := by decide +kernel
theorem dX12_rates_100 : decode cX12_rates 100 = .ok (.iload 5, 2) := by decide +kernel
theorem dX12_rates_102 : decode cX12_rates 102 = .ok (.baload, 1) := by decide +kernel
theorem dX12_rates_103 : decode cX12_rates 103 = .ok (.iload_n 2, 1) := by decide +kernel
theorem dX12_rates_104 : decode cX12_rates 104 = .ok (.iconst 2, 1) := by decide +kernel
theorem dX12_rates_105 : decode cX12_rates 105 = .ok (.if_icmp .le 7, 3) := by decide +kernel
theorem dX12_rates_108 : decode cX12_rates 108 = .ok (.iconst 1, 1) := by decide +kernel
theorem dX12_rates_109 : decode cX12_rates 109 = .ok (.goto 4, 3) := by decide +kernel
theorem dX12_rates_112 : decode cX12_rates 112 = .ok (.iconst 0, 1) := by decide +kernel
theorem dX12_rates_113 : decode cX12_rates 113 = .ok (.if_icmp .ne 7, 3) := by decide +kernel
theorem dX12_rates_116 : decode cX12_rates 116 = .ok (.iconst 1, 1) := by decide +kernel
theorem dX12_rates_117 : decode cX12_rates 117 = .ok (.goto 4, 3) := by decide +kernel
theorem dX12_rates_120 : decode cX12_rates 120 = .ok (.iconst 0, 1) := by decide +kernel
theorem dX12_rates_121 : decode cX12_rates 121 = .ok (.iadd, 1) := by decide +kernel
theorem dX12_rates_122 : decode cX12_rates 122 = .ok (.istore_n 3, 1) := by decide +kernel
theorem dX12_rates_123 : decode cX12_rates 123 = .ok (.iinc 5 1, 3) := by decide +kernel
theorem dX12_rates_126 : decode cX12_rates 126 = .ok (.goto (-80), 3) := by decide +kernel
theorem dX12_rates_129 : decode cX12_rates 129 = .ok (.iinc 4 1, 3) := by decide +kernel
theorem dX12_rates_132 : decode cX12_rates 132 = .ok (.goto (-101), 3) := by decide +kernel
theorem dX12_rates_135 : decode cX12_rates 135 = .ok (.iload_n 3, 1) := by decide +kernel
theorem dX12_rates_136 : decode cX12_rates 136 = .ok (.ireturn, 1) := by decide +kernel
theorem dX12_reads_0 : decode cX12_reads 0 = .ok (.iconst 0, 1) := by decide +kernel
theorem dX12_reads_1 : decode cX12_reads 1 = .ok (.istore_n 1, 1) := by decide +kernel
theorem dX12_reads_2 : decode cX12_reads 2 = .ok (.iconst 1, 1) := by decide +kernel
theorem dX12_reads_3 : decode cX12_reads 3 = .ok (.istore_n 2, 1) := by decide +kernel
theorem dX12_reads_4 : decode cX12_reads 4 = .ok (.aload_n 0, 1) := by decide +kernel
theorem dX12_reads_5 : decode cX12_reads 5 = .ok (.getfield 80, 3) := by decide +kernel
theorem dX12_reads_8 : decode cX12_reads 8 = .ok (.iconst 0, 1) := by decide +kernel
theorem dX12_reads_9 : decode cX12_reads 9 = .ok (.iconst 0, 1) := by decide +kernel
theorem dX12_reads_10 : decode cX12_reads 10 = .ok (.bastore, 1) := by decide +kernel
theorem dX12_reads_11 : decode cX12_reads 11 = .ok (.iload_n 2, 1) := by decide +kernel
theorem dX12_reads_12 : decode cX12_reads 12 = .ok (.ifCond .eq 167, 3) := by decide +kernel
theorem dX12_reads_15 : decode cX12_reads 15 = .ok (.aload_n 0, 1) := by decide +kernel
theorem dX12_reads_16 : decode cX12_reads 16 = .ok (.invokevirtual 354, 3) := by decide +kernel
theorem dX12_reads_19 : decode cX12_reads 19 = .ok (.istore_n 3, 1) := by decide +kernel
theorem dX12_reads_20 : decode cX12_reads 20 = .ok (.aload_n 0, 1) := by decide +kernel
theorem dX12_reads_21 : decode cX12_reads 21 = .ok (.ldc2_w 357, 3) := by decide +kernel
theorem dX12_reads_24 : decode cX12_reads 24 = .ok (.invokevirtual 359, 3) := by decide +kernel
theorem dX12_reads_27 : decode cX12_reads 27 = .ok (.istore 4, 2) := by decide +kernel
theorem dX12_reads_29 : decode cX12_reads 29 = .ok (.aload_n 0, 1) := by decide +kernel
theorem dX12_reads_30 : decode cX12_reads 30 = .ok (.bipush 40, 2) := by decide +kernel
theorem dX12_reads_32 : decode cX12_reads 32 = .ok (.invokevirtual 363, 3) := by decide +kernel
theorem dX12_reads_35 : decode cX12_reads 35 = .ok (.istore 5, 2) := by decide +kernel
theorem dX12_reads_37 : decode cX12_reads 37 = .ok (.iload_n 3, 1) := by decide +kernel
theorem dX12_reads_38 : decode cX12_reads 38 = .ok (.ifCond .ne 27, 3) := by decide +kernel
theorem dX12_reads_41 : decode cX12_reads 41 = .ok (.iload 4, 2) := by decide +kernel
theorem dX12_reads_43 : decode cX12_reads 43 = .ok (.ifCond .ne 22, 3) := by decide +kernel
theorem dX12_reads_46 : decode cX12_reads 46 = .ok (.iload 5, 2) := by decide +kernel
theorem dX12_reads_48 : decode cX12_reads 48 = .ok (.ifCond .ne 17, 3) := by decide +kernel
theorem dX12_reads_51 : decode cX12_reads 51 = .ok (.aload_n 0, 1) := by decide +kernel
theorem dX12_reads_52 : decode cX12_reads 52 = .ok (.getfield 277, 3) := by decide +kernel
theorem dX12_reads_55 : decode cX12_reads 55 = .ok (.iconst 2, 1) := by decide +kernel
theorem dX12_reads_56 : decode cX12_reads 56 = .ok (.if_icmp .eq 9, 3) := by decide +kernel
theorem dX12_reads_59 : decode cX12_reads 59 = .ok (.aload_n 0, 1) := by decide +kernel
theorem dX12_reads_60 : decode cX12_reads 60 = .ok (.iconst 1, 1) := by decide +kernel
theorem dX12_reads_61 : decode cX12_reads 61 = .ok (.invokevirtual 366, 3) := by decide +kernel
theorem dX12_reads_64 : decode cX12_reads 64 = .ok (.ireturn, 1) := by decide +kernel
theorem dX12_reads_65 : decode cX12_reads 65 = .ok (.iload_n 1, 1) := by decide +kernel
theorem dX12_reads_66 : decode cX12_reads 66 = .ok (.iconst 5, 1) := by decide +kernel
theorem dX12_reads_67 : decode cX12_reads 67 = .ok (.if_icmp .ne 9, 3) := by decide +kernel
theorem dX12_reads_70 : decode cX12_reads 70 = .ok (.aload_n 0, 1) := by decide +kernel
theorem dX12_reads_71 : decode cX12_reads 71 = .ok (.iconst 5, 1) := by decide +kernel
theorem dX12_reads_72 : decode cX12_reads 72 = .ok (.invokevirtual 366, 3) := by decide +kernel
theorem dX12_reads_75 : decode cX12_reads 75 = .ok (.ireturn, 1) := by decide +kernel
theorem dX12_reads_76 : decode cX12_reads 76 = .ok (.iload 4, 2) := by decide +kernel
theorem dX12_reads_78 : decode cX12_reads 78 = .ok (.ifCond .ne 8, 3) := by decide +kernel
theorem dX12_reads_81 : decode cX12_reads 81 = .ok (.iload 5, 2) := by decide +kernel
theorem dX12_reads_83 : decode cX12_reads 83 = .ok (.ifCond .eq 48, 3) := by decide +kernel
theorem dX12_reads_86 : decode cX12_reads 86 = .ok (.aload_n 0, 1) := by decide +kernel
theorem dX12_reads_87 : decode cX12_reads 87 = .ok (.iload 4, 2) := by decide +kernel
theorem dX12_reads_89 : decode cX12_reads 89 = .ok (.ifCond .eq 8, 3) := by decide +kernel
theorem dX12_reads_92 : decode cX12_reads 92 = .ok (.bipush 30, 2) := by decide +kernel
theorem dX12_reads_94 : decode cX12_reads 94 = .ok (.goto 5, 3) := by decide +kernel
theorem dX12_reads_97 : decode cX12_reads 97 = .ok (.bipush 28, 2) := by decide +kernel
theorem dX12_reads_99 : decode cX12_reads 99 = .ok (.invokevirtual 369, 3) := by decide +kernel
theorem dX12_reads_102 : decode cX12_reads 102 = .ok (.iinc 1 1, 3) := by decide +kernel
theorem dX12_reads_105 : decode cX12_reads 105 = .ok (.aload_n 0, 1) := by decide +kernel
theorem dX12_reads_106 : decode cX12_reads 106 = .ok (.getfield 77, 3) := by decide +kernel
theorem dX12_reads_109 : decode cX12_reads 109 = .ok (.iload_n 1, 1) := by decide +kernel
theorem dX12_reads_110 : decode cX12_reads 110 = .ok (.iload 4, 2) := by decide +kernel
theorem dX12_reads_112 : decode cX12_reads 112 = .ok (.ifCond .eq 7, 3) := by decide +kernel
theorem dX12_reads_115 : decode cX12_reads 115 = .ok (.iconst 1, 1) := by decide +kernel
theorem dX12_reads_116 : decode cX12_reads 116 = .ok (.goto 4, 3) := by decide +kernel
theorem dX12_reads_119 : decode cX12_reads 119 = .ok (.iconst 2, 1) := by decide +kernel
theorem dX12_reads_120 : decode cX12_reads 120 = .ok (.iastore, 1) := by decide +kernel
theorem dX12_reads_121 : decode cX12_reads 121 = .ok (.aload_n 0, 1) := by decide +kernel
theorem dX12_reads_122 : decode cX12_reads 122 = .ok (.getfield 80, 3) := by decide +kernel
theorem dX12_reads_125 : decode cX12_reads 125 = .ok (.iload_n 1, 1) := by decide +kernel
theorem dX12_reads_126 : decode cX12_reads 126 = .ok (.iconst 0, 1) := by decide +kernel
theorem dX12_reads_127 : decode cX12_reads 127 = .ok (.bastore, 1) := by decide +kernel
theorem dX12_reads_128 : decode cX12_reads 128 = .ok (.goto 44, 3) := by decide +kernel
theorem dX12_reads_131 : decode cX12_reads 131 = .ok (.aload_n 0, 1) := by decide +kernel
theorem dX12_reads_132 : decode cX12_reads 132 = .ok (.iload_n 3, 1) := by decide +kernel
theorem dX12_reads_133 : decode cX12_reads 133 = .ok (.ifCond .le 7, 3) := by decide +kernel
theorem dX12_reads_136 : decode cX12_reads 136 = .ok (.iload_n 3, 1) := by decide +kernel
theorem dX12_reads_137 : decode cX12_reads 137 = .ok (.goto 10, 3) := by decide +kernel
theorem dX12_reads_140 : decode cX12_reads 140 = .ok (.bipush 100, 2) := by decide +kernel
theorem dX12_reads_142 : decode cX12_reads 142 = .ok (.aload_n 0, 1) := by decide +kernel
theorem dX12_reads_143 : decode cX12_reads 143 = .ok (.getfield 274, 3) := by decide +kernel
theorem dX12_reads_146 : decode cX12_reads 146 = .ok (.iadd, 1) := by decide +kernel
theorem dX12_reads_147 : decode cX12_reads 147 = .ok (.invokevirtual 369, 3) := by decide +kernel
theorem dX12_reads_150 : decode cX12_reads 150 = .ok (.iconst 0, 1) := by decide +kernel
theorem dX12_reads_151 : decode cX12_reads 151 = .ok (.istore_n 2, 1) := by decide +kernel
theorem dX12_reads_152 : decode cX12_reads 152 = .ok (.iload_n 1, 1) := by decide +kernel
theorem dX12_reads_153 : decode cX12_reads 153 = .ok (.ifCond .le 19, 3) := by decide +kernel
theorem dX12_reads_156 : decode cX12_reads 156 = .ok (.aload_n 0, 1) := by decide +kernel
theorem dX12_reads_157 : decode cX12_reads 157 = .ok (.getfield 77, 3) := by decide +kernel
theorem dX12_reads_160 : decode cX12_reads 160 = .ok (.iload_n 1, 1) := by decide +kernel
theorem dX12_reads_161 : decode cX12_reads 161 = .ok (.iaload, 1) := by decide +kernel
theorem dX12_reads_162 : decode cX12_reads 162 = .ok (.iconst 1, 1) := by decide +kernel
theorem dX12_reads_163 : decode cX12_reads 163 = .ok (.if_icmp .ne 9, 3) := by decide +kernel
theorem dX12_reads_166 : decode cX12_reads 166 = .ok (.iinc 1 (-1), 3) := by decide +kernel
theorem dX12_reads_169 : decode cX12_reads 169 = .ok (.goto (-17), 3) := by decide +kernel
theorem dX12_reads_172 : decode cX12_reads 172 = .ok (.aload_n 0, 1) := by decide +kernel
theorem dX12_reads_173 : decode cX12_reads 173 = .ok (.invokevirtual 373, 3) := by decide +kernel
theorem dX12_reads_176 : decode cX12_reads 176 = .ok (.goto (-165), 3) := by decide +kernel
theorem dX12_reads_179 : decode cX12_reads 179 = .ok (.aload_n 0, 1) := by decide +kernel
theorem dX12_reads_180 : decode cX12_reads 180 = .ok (.bipush 43, 2) := by decide +kernel
theorem dX12_reads_182 : decode cX12_reads 182 = .ok (.invokevirtual 363, 3) := by decide +kernel
theorem dX12_reads_185 : decode cX12_reads 185 = .ok (.ifCond .ne 21, 3) := by decide +kernel
theorem dX12_reads_188 : decode cX12_reads 188 = .ok (.aload_n 0, 1) := by decide +kernel
theorem dX12_reads_189 : decode cX12_reads 189 = .ok (.bipush 45, 2) := by decide +kernel
theorem dX12_reads_191 : decode cX12_reads 191 = .ok (.invokevirtual 363, 3) := by decide +kernel
theorem dX12_reads_194 : decode cX12_reads 194 = .ok (.ifCond .ne 12, 3) := by decide +kernel
theorem dX12_reads_197 : decode cX12_reads 197 = .ok (.aload_n 0, 1) := by decide +kernel
theorem dX12_reads_198 : decode cX12_reads 198 = .ok (.bipush 42, 2) := by decide +kernel
theorem dX12_reads_200 : decode cX12_reads 200 = .ok (.invokevirtual 363, 3) := by decide +kernel
theorem dX12_reads_203 : decode cX12_reads 203 = .ok (.ifCond .eq 42, 3) := by decide +kernel
theorem dX12_reads_206 : decode cX12_reads 206 = .ok (.aload_n 0, 1) := by decide +kernel
theorem dX12_reads_207 : decode cX12_reads 207 = .ok (.aload_n 0, 1) := by decide +kernel
theorem dX12_reads_208 : decode cX12_reads 208 = .ok (.bipush 43, 2) := by decide +kernel
theorem dX12_reads_210 : decode cX12_reads 210 = .ok (.invokevirtual 363, 3) := by decide +kernel
theorem dX12_reads_213 : decode cX12_reads 213 = .ok (.ifCond .eq 8, 3) := by decide +kernel
theorem dX12_reads_216 : decode cX12_reads 216 = .ok (.bipush 20, 2) := by decide +kernel
theorem dX12_reads_218 : decode cX12_reads 218 = .ok (.goto 19, 3) := by decide +kernel
theorem dX12_reads_221 : decode cX12_reads 221 = .ok (.aload_n 0, 1) := by decide +kernel
theorem dX12_reads_222 : decode cX12_reads 222 = .ok (.bipush 45, 2) := by decide +kernel
theorem dX12_reads_224 : decode cX12_reads 224 = .ok (.invokevirtual 363, 3) := by decide +kernel
theorem dX12_reads_227 : decode cX12_reads 227 = .ok (.ifCond .eq 8, 3) := by decide +kernel
theorem dX12_reads_230 : decode cX12_reads 230 = .ok (.bipush 21, 2) := by decide +kernel
theorem dX12_reads_232 : decode cX12_reads 232 = .ok (.goto 5, 3) := by decide +kernel
theorem dX12_reads_235 : decode cX12_reads 235 = .ok (.bipush 22, 2) := by decide +kernel
theorem dX12_reads_237 : decode cX12_reads 237 = .ok (.invokevirtual 369, 3) := by decide +kernel
theorem dX12_reads_240 : decode cX12_reads 240 = .ok (.iconst 1, 1) := by decide +kernel
theorem dX12_reads_241 : decode cX12_reads 241 = .ok (.istore_n 2, 1) := by decide +kernel
theorem dX12_reads_242 : decode cX12_reads 242 = .ok (.goto 182, 3) := by decide +kernel
theorem dX12_reads_245 : decode cX12_reads 245 = .ok (.aload_n 0, 1) := by decide +kernel
theorem dX12_reads_246 : decode cX12_reads 246 = .ok (.bipush 60, 2) := by decide +kernel
theorem dX12_reads_248 : decode cX12_reads 248 = .ok (.invokevirtual 363, 3) := by decide +kernel
theorem dX12_reads_251 : decode cX12_reads 251 = .ok (.ifCond .ne 12, 3) := by decide +kernel
theorem dX12_reads_254 : decode cX12_reads 254 = .ok (.aload_n 0, 1) := by decide +kernel
theorem dX12_reads_255 : decode cX12_reads 255 = .ok (.bipush 61, 2) := by decide +kernel
theorem dX12_reads_257 : decode cX12_reads 257 = .ok (.invokevirtual 363, 3) := by decide +kernel
theorem dX12_reads_260 : decode cX12_reads 260 = .ok (.ifCond .eq 44, 3) := by decide +kernel
theorem dX12_reads_263 : decode cX12_reads 263 = .ok (.aload_n 0, 1) := by decide +kernel
theorem dX12_reads_264 : decode cX12_reads 264 = .ok (.getfield 80, 3) := by decide +kernel
theorem dX12_reads_267 : decode cX12_reads 267 = .ok (.iload_n 1, 1) := by decide +kernel
theorem dX12_reads_268 : decode cX12_reads 268 = .ok (.baload, 1) := by decide +kernel
theorem dX12_reads_269 : decode cX12_reads 269 = .ok (.ifCond .ne 35, 3) := by decide +kernel
theorem dX12_reads_272 : decode cX12_reads 272 = .ok (.aload_n 0, 1) := by decide +kernel
theorem dX12_reads_273 : decode cX12_reads 273 = .ok (.aload_n 0, 1) := by decide +kernel
theorem dX12_reads_274 : decode cX12_reads 274 = .ok (.bipush 60, 2) := by decide +kernel
theorem dX12_reads_276 : decode cX12_reads 276 = .ok (.invokevirtual 363, 3) := by decide +kernel
theorem dX12_reads_279 : decode cX12_reads 279 = .ok (.ifCond .eq 8, 3) := by decide +kernel
theorem dX12_reads_282 : decode cX12_reads 282 = .ok (.bipush 24, 2) := by decide +kernel
theorem dX12_reads_284 : decode cX12_reads 284 = .ok (.goto 5, 3) := by decide +kernel
theorem dX12_reads_287 : decode cX12_reads 287 = .ok (.bipush 25, 2) := by decide +kernel
theorem dX12_reads_289 : decode cX12_reads 289 = .ok (.invokevirtual 369, 3) := by decide +kernel
theorem dX12_reads_292 : decode cX12_reads 292 = .ok (.aload_n 0, 1) := by decide +kernel
theorem dX12_reads_293 : decode cX12_reads 293 = .ok (.getfield 80, 3) := by decide +kernel
theorem dX12_reads_296 : decode cX12_reads 296 = .ok (.iload_n 1, 1) := by decide +kernel
theorem dX12_reads_297 : decode cX12_reads 297 = .ok (.iconst 1, 1) := by decide +kernel
theorem dX12_reads_298 : decode cX12_reads 298 = .ok (.bastore, 1) := by decide +kernel
theorem dX12_reads_299 : decode cX12_reads 299 = .ok (.iconst 1, 1) := by decide +kernel
theorem dX12_reads_300 : decode cX12_reads 300 = .ok (.istore_n 2, 1) := by decide +kernel
theorem dX12_reads_301 : decode cX12_reads 301 = .ok (.goto 123, 3) := by decide +kernel
theorem dX12_reads_304 : decode cX12_reads 304 = .ok (.aload_n 0, 1) := by decide +kernel
theorem dX12_reads_305 : decode cX12_reads 305 = .ok (.ldc2_w 376, 3) := by decide +kernel
theorem dX12_reads_308 : decode cX12_reads 308 = .ok (.invokevirtual 359, 3) := by decide +kernel
theorem dX12_reads_311 : decode cX12_reads 311 = .ok (.ifCond .ne 13, 3) := by decide +kernel
theorem dX12_reads_314 : decode cX12_reads 314 = .ok (.aload_n 0, 1) := by decide +kernel
theorem dX12_reads_315 : decode cX12_reads 315 = .ok (.ldc2_w 378, 3) := by decide +kernel
theorem dX12_reads_318 : decode cX12_reads 318 = .ok (.invokevirtual 359, 3) := by decide +kernel
theorem dX12_reads_321 : decode cX12_reads 321 = .ok (.ifCond .eq 36, 3) := by decide +kernel
theorem dX12_reads_324 : decode cX12_reads 324 = .ok (.aload_n 0, 1) := by decide +kernel
theorem dX12_reads_325 : decode cX12_reads 325 = .ok (.aload_n 0, 1) := by decide +kernel
theorem dX12_reads_326 : decode cX12_reads 326 = .ok (.ldc2_w 376, 3) := by decide +kernel
theorem dX12_reads_329 : decode cX12_reads 329 = .ok (.invokevirtual 359, 3) := by decide +kernel
theorem dX12_reads_332 : decode cX12_reads 332 = .ok (.ifCond .eq 8, 3) := by decide +kernel
theorem dX12_reads_335 : decode cX12_reads 335 = .ok (.bipush 26, 2) := by decide +kernel
theorem dX12_reads_337 : decode cX12_reads 337 = .ok (.goto 5, 3) := by decide +kernel
theorem dX12_reads_340 : decode cX12_reads 340 = .ok (.bipush 27, 2) := by decide +kernel
theorem dX12_reads_342 : decode cX12_reads 342 = .ok (.invokevirtual 369, 3) := by decide +kernel
theorem dX12_reads_345 : decode cX12_reads 345 = .ok (.aload_n 0, 1) := by decide +kernel
theorem dX12_reads_346 : decode cX12_reads 346 = .ok (.getfield 80, 3) := by decide +kernel
theorem dX12_reads_349 : decode cX12_reads 349 = .ok (.iload_n 1, 1) := by decide +kernel
theorem dX12_reads_350 : decode cX12_reads 350 = .ok (.iconst 0, 1) := by decide +kernel
theorem dX12_reads_351 : decode cX12_reads 351 = .ok (.bastore, 1) := by decide +kernel
theorem dX12_reads_352 : decode cX12_reads 352 = .ok (.iconst 1, 1) := by decide +kernel
theorem dX12_reads_353 : decode cX12_reads 353 = .ok (.istore_n 2, 1) := by decide +kernel
theorem dX12_reads_354 : decode cX12_reads 354 = .ok (.goto 70, 3) := by decide +kernel
theorem dX12_reads_357 : decode cX12_reads 357 = .ok (.aload_n 0, 1) := by decide +kernel
theorem dX12_reads_358 : decode cX12_reads 358 = .ok (.bipush 41, 2) := by decide +kernel
theorem dX12_reads_360 : decode cX12_reads 360 = .ok (.invokevirtual 363, 3) := by decide +kernel
theorem dX12_reads_363 : decode cX12_reads 363 = .ok (.ifCond .eq 36, 3) := by decide +kernel
theorem dX12_reads_366 : decode cX12_reads 366 = .ok (.iload_n 1, 1) := by decide +kernel
theorem dX12_reads_367 : decode cX12_reads 367 = .ok (.ifCond .le 32, 3) := by decide +kernel
theorem dX12_reads_370 : decode cX12_reads 370 = .ok (.aload_n 0, 1) := by decide +kernel
theorem dX12_reads_371 : decode cX12_reads 371 = .ok (.bipush 29, 2) := by decide +kernel
theorem dX12_reads_373 : decode cX12_reads 373 = .ok (.invokevirtual 369, 3) := by decide +kernel
theorem dX12_reads_376 : decode cX12_reads 376 = .ok (.iinc 1 (-1), 3) := by decide +kernel
theorem dX12_reads_379 : decode cX12_reads 379 = .ok (.iload_n 1, 1) := by decide +kernel
theorem dX12_reads_380 : decode cX12_reads 380 = .ok (.ifCond .le 44, 3) := by decide +kernel
theorem dX12_reads_383 : decode cX12_reads 383 = .ok (.aload_n 0, 1) := by decide +kernel
theorem dX12_reads_384 : decode cX12_reads 384 = .ok (.getfield 77, 3) := by decide +kernel
theorem dX12_reads_387 : decode cX12_reads 387 = .ok (.iload_n 1, 1) := by decide +kernel
theorem dX12_reads_388 : decode cX12_reads 388 = .ok (.iaload, 1) := by decide +kernel
theorem dX12_reads_389 : decode cX12_reads 389 = .ok (.iconst 1, 1) := by decide +kernel
theorem dX12_reads_390 : decode cX12_reads 390 = .ok (.if_icmp .ne 34, 3) := by decide +kernel
theorem dX12_reads_393 : decode cX12_reads 393 = .ok (.iinc 1 (-1), 3) := by decide +kernel
theorem dX12_reads_396 : decode cX12_reads 396 = .ok (.goto (-17), 3) := by decide +kernel
theorem dX12_reads_399 : decode cX12_reads 399 = .ok (.iload_n 1, 1) := by decide +kernel
theorem dX12_reads_400 : decode cX12_reads 400 = .ok (.ifCond .ne 18, 3) := by decide +kernel
theorem dX12_reads_403 : decode cX12_reads 403 = .ok (.aload_n 0, 1) := by decide +kernel
theorem dX12_reads_404 : decode cX12_reads 404 = .ok (.bipush 59, 2) := by decide +kernel
theorem dX12_reads_406 : decode cX12_reads 406 = .ok (.invokevirtual 363, 3) := by decide +kernel
theorem dX12_reads_409 : decode cX12_reads 409 = .ok (.ifCond .eq 9, 3) := by decide +kernel
theorem dX12_reads_412 : decode cX12_reads 412 = .ok (.aload_n 0, 1) := by decide +kernel
theorem dX12_reads_413 : decode cX12_reads 413 = .ok (.invokevirtual 373, 3) := by decide +kernel
theorem dX12_reads_416 : decode cX12_reads 416 = .ok (.iconst 1, 1) := by decide +kernel
theorem dX12_reads_417 : decode cX12_reads 417 = .ok (.ireturn, 1) := by decide +kernel
theorem dX12_reads_418 : decode cX12_reads 418 = .ok (.aload_n 0, 1) := by decide +kernel
theorem dX12_reads_419 : decode cX12_reads 419 = .ok (.iconst 1, 1) := by decide +kernel
theorem dX12_reads_420 : decode cX12_reads 420 = .ok (.invokevirtual 366, 3) := by decide +kernel
theorem dX12_reads_423 : decode cX12_reads 423 = .ok (.ireturn, 1) := by decide +kernel
theorem dX12_reads_424 : decode cX12_reads 424 = .ok (.aload_n 0, 1) := by decide +kernel
theorem dX12_reads_425 : decode cX12_reads 425 = .ok (.invokevirtual 373, 3) := by decide +kernel
theorem dX12_reads_428 : decode cX12_reads 428 = .ok (.goto (-417), 3) := by decide +kernel
theorem dX12_readsAll_0 : decode cX12_readsAll 0 = .ok (.iconst 0, 1) := by decide +kernel
theorem dX12_readsAll_1 : decode cX12_readsAll 1 = .ok (.istore_n 1, 1) := by decide +kernel
theorem dX12_readsAll_2 : decode cX12_readsAll 2 = .ok (.iconst 0, 1) := by decide +kernel
theorem dX12_readsAll_3 : decode cX12_readsAll 3 = .ok (.istore_n 2, 1) := by decide +kernel
theorem dX12_readsAll_4 : decode cX12_readsAll 4 = .ok (.iconst 0, 1) := by decide +kernel
theorem dX12_readsAll_5 : decode cX12_readsAll 5 = .ok (.istore_n 3, 1) := by decide +kernel
theorem dX12_readsAll_6 : decode cX12_readsAll 6 = .ok (.iconst 0, 1) := by decide +kernel
theorem dX12_readsAll_7 : decode cX12_readsAll 7 = .ok (.istore 4, 2) := by decide +kernel
theorem dX12_readsAll_9 : decode cX12_readsAll 9 = .ok (.aload_n 0, 1) := by decide +kernel
theorem dX12_readsAll_10 : decode cX12_readsAll 10 = .ok (.iconst 3, 1) := by decide +kernel
theorem dX12_readsAll_11 : decode cX12_readsAll 11 = .ok (.putfield 391, 3) := by decide +kernel
theorem dX12_readsAll_14 : decode cX12_readsAll 14 = .ok (.aload_n 0, 1) := by decide +kernel
theorem dX12_readsAll_15 : decode cX12_readsAll 15 = .ok (.bipush 100, 2) := by decide +kernel
theorem dX12_readsAll_17 : decode cX12_readsAll 17 = .ok (.putfield 394, 3) := by decide +kernel
theorem dX12_readsAll_20 : decode cX12_readsAll 20 = .ok (.iconst 0, 1) := by decide +kernel
theorem dX12_readsAll_21 : decode cX12_readsAll 21 = .ok (.istore 5, 2) := by decide +kernel
theorem dX12_readsAll_23 : decode cX12_readsAll 23 = .ok (.iload 5, 2) := by decide +kernel
theorem dX12_readsAll_25 : decode cX12_readsAll 25 = .ok (.bipush 21, 2) := by decide +kernel
theorem dX12_readsAll_27 : decode cX12_readsAll 27 = .ok (.if_icmp .ge 17, 3) := by decide +kernel
theorem dX12_readsAll_30 : decode cX12_readsAll 30 = .ok (.aload_n 0, 1) := by decide +kernel
theorem dX12_readsAll_31 : decode cX12_readsAll 31 = .ok (.getfield 65, 3) := by decide +kernel
theorem dX12_readsAll_34 : decode cX12_readsAll 34 = .ok (.iload 5, 2) := by decide +kernel
theorem dX12_readsAll_36 : decode cX12_readsAll 36 = .ok (.iconst 0, 1) := by decide +kernel
theorem dX12_readsAll_37 : decode cX12_readsAll 37 = .ok (.bastore, 1) := by decide +kernel
theorem dX12_readsAll_38 : decode cX12_readsAll 38 = .ok (.iinc 5 1, 3) := by decide +kernel
theorem dX12_readsAll_41 : decode cX12_readsAll 41 = .ok (.goto (-18), 3) := by decide +kernel
theorem dX12_readsAll_44 : decode cX12_readsAll 44 = .ok (.aload_n 0, 1) := by decide +kernel
theorem dX12_readsAll_45 : decode cX12_readsAll 45 = .ok (.sipush 1000, 3) := by decide +kernel
theorem dX12_readsAll_48 : decode cX12_readsAll 48 = .ok (.putfield 290, 3) := by decide +kernel
theorem dX12_readsAll_51 : decode cX12_readsAll 51 = .ok (.aload_n 0, 1) := by decide +kernel
theorem dX12_readsAll_52 : decode cX12_readsAll 52 = .ok (.aload_n 0, 1) := by decide +kernel
theorem dX12_readsAll_53 : decode cX12_readsAll 53 = .ok (.getfield 258, 3) := by decide +kernel
theorem dX12_readsAll_56 : decode cX12_readsAll 56 = .ok (.putfield 261, 3) := by decide +kernel
theorem dX12_readsAll_59 : decode cX12_readsAll 59 = .ok (.aload_n 0, 1) := by decide +kernel
theorem dX12_readsAll_60 : decode cX12_readsAll 60 = .ok (.iconst 0, 1) := by decide +kernel
theorem dX12_readsAll_61 : decode cX12_readsAll 61 = .ok (.putfield 258, 3) := by decide +kernel
theorem dX12_readsAll_64 : decode cX12_readsAll 64 = .ok (.aload_n 0, 1) := by decide +kernel
theorem dX12_readsAll_65 : decode cX12_readsAll 65 = .ok (.iconst 0, 1) := by decide +kernel
theorem dX12_readsAll_66 : decode cX12_readsAll 66 = .ok (.putfield 264, 3) := by decide +kernel
theorem dX12_readsAll_69 : decode cX12_readsAll 69 = .ok (.aload_n 0, 1) := by decide +kernel
theorem dX12_readsAll_70 : decode cX12_readsAll 70 = .ok (.invokevirtual 373, 3) := by decide +kernel
theorem dX12_readsAll_73 : decode cX12_readsAll 73 = .ok (.aload_n 0, 1) := by decide +kernel
theorem dX12_readsAll_74 : decode cX12_readsAll 74 = .ok (.getfield 277, 3) := by decide +kernel
theorem dX12_readsAll_77 : decode cX12_readsAll 77 = .ok (.ifCond .eq 293, 3) := by decide +kernel
theorem dX12_readsAll_80 : decode cX12_readsAll 80 = .ok (.aload_n 0, 1) := by decide +kernel
theorem dX12_readsAll_81 : decode cX12_readsAll 81 = .ok (.ldc2_w 397, 3) := by decide +kernel
theorem dX12_readsAll_84 : decode cX12_readsAll 84 = .ok (.invokevirtual 359, 3) := by decide +kernel
theorem dX12_readsAll_87 : decode cX12_readsAll 87 = .ok (.istore 5, 2) := by decide +kernel
theorem dX12_readsAll_89 : decode cX12_readsAll 89 = .ok (.aload_n 0, 1) := by decide +kernel
theorem dX12_readsAll_90 : decode cX12_readsAll 90 = .ok (.ldc2_w 299, 3) := by decide +kernel
theorem dX12_readsAll_93 : decode cX12_readsAll 93 = .ok (.invokevirtual 359, 3) := by decide +kernel
theorem dX12_readsAll_96 : decode cX12_readsAll 96 = .ok (.istore 6, 2) := by decide +kernel
theorem dX12_readsAll_98 : decode cX12_readsAll 98 = .ok (.aload_n 0, 1) := by decide +kernel
theorem dX12_readsAll_99 : decode cX12_readsAll 99 = .ok (.ldc2_w 399, 3) := by decide +kernel
theorem dX12_readsAll_102 : decode cX12_readsAll 102 = .ok (.invokevirtual 359, 3) := by decide +kernel
theorem dX12_readsAll_105 : decode cX12_readsAll 105 = .ok (.istore 7, 2) := by decide +kernel
theorem dX12_readsAll_107 : decode cX12_readsAll 107 = .ok (.aload_n 0, 1) := by decide +kernel
theorem dX12_readsAll_108 : decode cX12_readsAll 108 = .ok (.ldc2_w 401, 3) := by decide +kernel
theorem dX12_readsAll_111 : decode cX12_readsAll 111 = .ok (.invokevirtual 359, 3) := by decide +kernel
theorem dX12_readsAll_114 : decode cX12_readsAll 114 = .ok (.istore 8, 2) := by decide +kernel
theorem dX12_readsAll_116 : decode cX12_readsAll 116 = .ok (.aload_n 0, 1) := by decide +kernel
theorem dX12_readsAll_117 : decode cX12_readsAll 117 = .ok (.ldc2_w 403, 3) := by decide +kernel
theorem dX12_readsAll_120 : decode cX12_readsAll 120 = .ok (.invokevirtual 359, 3) := by decide +kernel
theorem dX12_readsAll_123 : decode cX12_readsAll 123 = .ok (.istore 9, 2) := by decide +kernel
theorem dX12_readsAll_125 : decode cX12_readsAll 125 = .ok (.aload_n 0, 1) := by decide +kernel
theorem dX12_readsAll_126 : decode cX12_readsAll 126 = .ok (.ldc2_w 405, 3) := by decide +kernel
theorem dX12_readsAll_129 : decode cX12_readsAll 129 = .ok (.invokevirtual 359, 3) := by decide +kernel
theorem dX12_readsAll_132 : decode cX12_readsAll 132 = .ok (.istore 10, 2) := by decide +kernel
theorem dX12_readsAll_134 : decode cX12_readsAll 134 = .ok (.iload 5, 2) := by decide +kernel
theorem dX12_readsAll_136 : decode cX12_readsAll 136 = .ok (.ifCond .ne 34, 3) := by decide +kernel
theorem dX12_readsAll_139 : decode cX12_readsAll 139 = .ok (.iload 6, 2) := by decide +kernel
theorem dX12_readsAll_141 : decode cX12_readsAll 141 = .ok (.ifCond .ne 29, 3) := by decide +kernel
theorem dX12_readsAll_144 : decode cX12_readsAll 144 = .ok (.iload 7, 2) := by decide +kernel
theorem dX12_readsAll_146 : decode cX12_readsAll 146 = .ok (.ifCond .ne 24, 3) := by decide +kernel
theorem dX12_readsAll_149 : decode cX12_readsAll 149 = .ok (.iload 8, 2) := by decide +kernel
theorem dX12_readsAll_151 : decode cX12_readsAll 151 = .ok (.ifCond .ne 19, 3) := by decide +kernel
theorem dX12_readsAll_154 : decode cX12_readsAll 154 = .ok (.iload 9, 2) := by decide +kernel
theorem dX12_readsAll_156 : decode cX12_readsAll 156 = .ok (.ifCond .ne 14, 3) := by decide +kernel
theorem dX12_readsAll_159 : decode cX12_readsAll 159 = .ok (.iload 10, 2) := by decide +kernel
theorem dX12_readsAll_161 : decode cX12_readsAll 161 = .ok (.ifCond .ne 9, 3) := by decide +kernel
theorem dX12_readsAll_164 : decode cX12_readsAll 164 = .ok (.aload_n 0, 1) := by decide +kernel
theorem dX12_readsAll_165 : decode cX12_readsAll 165 = .ok (.iconst 1, 1) := by decide +kernel
theorem dX12_readsAll_166 : decode cX12_readsAll 166 = .ok (.invokevirtual 366, 3) := by decide +kernel
theorem dX12_readsAll_169 : decode cX12_readsAll 169 = .ok (.ireturn, 1) := by decide +kernel
theorem dX12_readsAll_170 : decode cX12_readsAll 170 = .ok (.iload 8, 2) := by decide +kernel
theorem dX12_readsAll_172 : decode cX12_readsAll 172 = .ok (.ifCond .eq 7, 3) := by decide +kernel
theorem dX12_readsAll_175 : decode cX12_readsAll 175 = .ok (.iload_n 3, 1) := by decide +kernel
theorem dX12_readsAll_176 : decode cX12_readsAll 176 = .ok (.ifCond .ne 28, 3) := by decide +kernel
theorem dX12_readsAll_179 : decode cX12_readsAll 179 = .ok (.iload 9, 2) := by decide +kernel
theorem dX12_readsAll_181 : decode cX12_readsAll 181 = .ok (.ifCond .eq 8, 3) := by decide +kernel
theorem dX12_readsAll_184 : decode cX12_readsAll 184 = .ok (.iload 4, 2) := by decide +kernel
theorem dX12_readsAll_186 : decode cX12_readsAll 186 = .ok (.ifCond .ne 18, 3) := by decide +kernel
theorem dX12_readsAll_189 : decode cX12_readsAll 189 = .ok (.iload 10, 2) := by decide +kernel
theorem dX12_readsAll_191 : decode cX12_readsAll 191 = .ok (.ifCond .eq 19, 3) := by decide +kernel
theorem dX12_readsAll_194 : decode cX12_readsAll 194 = .ok (.aload_n 0, 1) := by decide +kernel
theorem dX12_readsAll_195 : decode cX12_readsAll 195 = .ok (.getfield 65, 3) := by decide +kernel
theorem dX12_readsAll_198 : decode cX12_readsAll 198 = .ok (.bipush 20, 2) := by decide +kernel
theorem dX12_readsAll_200 : decode cX12_readsAll 200 = .ok (.baload, 1) := by decide +kernel
theorem dX12_readsAll_201 : decode cX12_readsAll 201 = .ok (.ifCond .eq 9, 3) := by decide +kernel
theorem dX12_readsAll_204 : decode cX12_readsAll 204 = .ok (.aload_n 0, 1) := by decide +kernel
theorem dX12_readsAll_205 : decode cX12_readsAll 205 = .ok (.iconst 3, 1) := by decide +kernel
theorem dX12_readsAll_206 : decode cX12_readsAll 206 = .ok (.invokevirtual 366, 3) := by decide +kernel
theorem dX12_readsAll_209 : decode cX12_readsAll 209 = .ok (.ireturn, 1) := by decide +kernel
theorem dX12_readsAll_210 : decode cX12_readsAll 210 = .ok (.iload 5, 2) := by decide +kernel
theorem dX12_readsAll_212 : decode cX12_readsAll 212 = .ok (.ifCond .eq 9, 3) := by decide +kernel
theorem dX12_readsAll_215 : decode cX12_readsAll 215 = .ok (.iload_n 1, 1) := by decide +kernel
theorem dX12_readsAll_216 : decode cX12_readsAll 216 = .ok (.bipush 6, 2) := by decide +kernel
theorem dX12_readsAll_218 : decode cX12_readsAll 218 = .ok (.if_icmp .eq 14, 3) := by decide +kernel
theorem dX12_readsAll_221 : decode cX12_readsAll 221 = .ok (.iload 6, 2) := by decide +kernel
theorem dX12_readsAll_223 : decode cX12_readsAll 223 = .ok (.ifCond .eq 15, 3) := by decide +kernel
theorem dX12_readsAll_226 : decode cX12_readsAll 226 = .ok (.iload_n 2, 1) := by decide +kernel
theorem dX12_readsAll_227 : decode cX12_readsAll 227 = .ok (.bipush 6, 2) := by decide +kernel
theorem dX12_readsAll_229 : decode cX12_readsAll 229 = .ok (.if_icmp .ne 9, 3) := by decide +kernel
theorem dX12_readsAll_232 : decode cX12_readsAll 232 = .ok (.aload_n 0, 1) := by decide +kernel
theorem dX12_readsAll_233 : decode cX12_readsAll 233 = .ok (.iconst 5, 1) := by decide +kernel
theorem dX12_readsAll_234 : decode cX12_readsAll 234 = .ok (.invokevirtual 366, 3) := by decide +kernel
theorem dX12_readsAll_237 : decode cX12_readsAll 237 = .ok (.ireturn, 1) := by decide +kernel
theorem dX12_readsAll_238 : decode cX12_readsAll 238 = .ok (.aload_n 0, 1) := by decide +kernel
theorem dX12_readsAll_239 : decode cX12_readsAll 239 = .ok (.invokevirtual 373, 3) := by decide +kernel
theorem dX12_readsAll_242 : decode cX12_readsAll 242 = .ok (.iload_n 3, 1) := by decide +kernel
theorem dX12_readsAll_243 : decode cX12_readsAll 243 = .ok (.ifCond .ne 8, 3) := by decide +kernel
theorem dX12_readsAll_246 : decode cX12_readsAll 246 = .ok (.iload 8, 2) := by decide +kernel
theorem dX12_readsAll_248 : decode cX12_readsAll 248 = .ok (.ifCond .eq 7, 3) := by decide +kernel
theorem dX12_readsAll_251 : decode cX12_readsAll 251 = .ok (.iconst 1, 1) := by decide +kernel
theorem dX12_readsAll_252 : decode cX12_readsAll 252 = .ok (.goto 4, 3) := by decide +kernel
theorem dX12_readsAll_255 : decode cX12_readsAll 255 = .ok (.iconst 0, 1) := by decide +kernel
theorem dX12_readsAll_256 : decode cX12_readsAll 256 = .ok (.istore_n 3, 1) := by decide +kernel
theorem dX12_readsAll_257 : decode cX12_readsAll 257 = .ok (.iload 4, 2) := by decide +kernel
theorem dX12_readsAll_259 : decode cX12_readsAll 259 = .ok (.ifCond .ne 8, 3) := by decide +kernel
theorem dX12_readsAll_262 : decode cX12_readsAll 262 = .ok (.iload 9, 2) := by decide +kernel
theorem dX12_readsAll_264 : decode cX12_readsAll 264 = .ok (.ifCond .eq 7, 3) := by decide +kernel
theorem dX12_readsAll_267 : decode cX12_readsAll 267 = .ok (.iconst 1, 1) := by decide +kernel
theorem dX12_readsAll_268 : decode cX12_readsAll 268 = .ok (.goto 4, 3) := by decide +kernel
theorem dX12_readsAll_271 : decode cX12_readsAll 271 = .ok (.iconst 0, 1) := by decide +kernel
theorem dX12_readsAll_272 : decode cX12_readsAll 272 = .ok (.istore 4, 2) := by decide +kernel
theorem dX12_readsAll_274 : decode cX12_readsAll 274 = .ok (.iload 7, 2) := by decide +kernel
theorem dX12_readsAll_276 : decode cX12_readsAll 276 = .ok (.ifCond .eq 10, 3) := by decide +kernel
theorem dX12_readsAll_279 : decode cX12_readsAll 279 = .ok (.aload_n 0, 1) := by decide +kernel
theorem dX12_readsAll_280 : decode cX12_readsAll 280 = .ok (.invokevirtual 407, 3) := by decide +kernel
theorem dX12_readsAll_283 : decode cX12_readsAll 283 = .ok (.goto 49, 3) := by decide +kernel
theorem dX12_readsAll_286 : decode cX12_readsAll 286 = .ok (.iload 8, 2) := by decide +kernel
theorem dX12_readsAll_288 : decode cX12_readsAll 288 = .ok (.ifCond .ne 8, 3) := by decide +kernel
theorem dX12_readsAll_291 : decode cX12_readsAll 291 = .ok (.iload 9, 2) := by decide +kernel
theorem dX12_readsAll_293 : decode cX12_readsAll 293 = .ok (.ifCond .eq 12, 3) := by decide +kernel
theorem dX12_readsAll_296 : decode cX12_readsAll 296 = .ok (.aload_n 0, 1) := by decide +kernel
theorem dX12_readsAll_297 : decode cX12_readsAll 297 = .ok (.iload 8, 2) := by decide +kernel
theorem dX12_readsAll_299 : decode cX12_readsAll 299 = .ok (.invokevirtual 410, 3) := by decide +kernel
theorem dX12_readsAll_302 : decode cX12_readsAll 302 = .ok (.goto 30, 3) := by decide +kernel
theorem dX12_readsAll_305 : decode cX12_readsAll 305 = .ok (.aload_n 0, 1) := by decide +kernel
theorem dX12_readsAll_306 : decode cX12_readsAll 306 = .ok (.iload 5, 2) := by decide +kernel
theorem dX12_readsAll_308 : decode cX12_readsAll 308 = .ok (.ifCond .eq 7, 3) := by decide +kernel
theorem dX12_readsAll_311 : decode cX12_readsAll 311 = .ok (.iload_n 1, 1) := by decide +kernel
theorem dX12_readsAll_312 : decode cX12_readsAll 312 = .ok (.goto 17, 3) := by decide +kernel
theorem dX12_readsAll_315 : decode cX12_readsAll 315 = .ok (.iload 6, 2) := by decide +kernel
theorem dX12_readsAll_317 : decode cX12_readsAll 317 = .ok (.ifCond .eq 10, 3) := by decide +kernel
theorem dX12_readsAll_320 : decode cX12_readsAll 320 = .ok (.bipush 6, 2) := by decide +kernel
theorem dX12_readsAll_322 : decode cX12_readsAll 322 = .ok (.iload_n 2, 1) := by decide +kernel
theorem dX12_readsAll_323 : decode cX12_readsAll 323 = .ok (.iadd, 1) := by decide +kernel
theorem dX12_readsAll_324 : decode cX12_readsAll 324 = .ok (.goto 5, 3) := by decide +kernel
theorem dX12_readsAll_327 : decode cX12_readsAll 327 = .ok (.bipush 20, 2) := by decide +kernel
theorem dX12_readsAll_329 : decode cX12_readsAll 329 = .ok (.invokevirtual 414, 3) := by decide +kernel
theorem dX12_readsAll_332 : decode cX12_readsAll 332 = .ok (.istore 11, 2) := by decide +kernel
theorem dX12_readsAll_334 : decode cX12_readsAll 334 = .ok (.iload 11, 2) := by decide +kernel
theorem dX12_readsAll_336 : decode cX12_readsAll 336 = .ok (.ifCond .ne 5, 3) := by decide +kernel
theorem dX12_readsAll_339 : decode cX12_readsAll 339 = .ok (.iconst 0, 1) := by decide +kernel
theorem dX12_readsAll_340 : decode cX12_readsAll 340 = .ok (.ireturn, 1) := by decide +kernel
theorem dX12_readsAll_341 : decode cX12_readsAll 341 = .ok (.iload_n 1, 1) := by decide +kernel
theorem dX12_readsAll_342 : decode cX12_readsAll 342 = .ok (.iload 5, 2) := by decide +kernel
theorem dX12_readsAll_344 : decode cX12_readsAll 344 = .ok (.ifCond .eq 7, 3) := by decide +kernel
theorem dX12_readsAll_347 : decode cX12_readsAll 347 = .ok (.iconst 1, 1) := by decide +kernel
theorem dX12_readsAll_348 : decode cX12_readsAll 348 = .ok (.goto 4, 3) := by decide +kernel
theorem dX12_readsAll_351 : decode cX12_readsAll 351 = .ok (.iconst 0, 1) := by decide +kernel
theorem dX12_readsAll_352 : decode cX12_readsAll 352 = .ok (.iadd, 1) := by decide +kernel
theorem dX12_readsAll_353 : decode cX12_readsAll 353 = .ok (.istore_n 1, 1) := by decide +kernel
theorem dX12_readsAll_354 : decode cX12_readsAll 354 = .ok (.iload_n 2, 1) := by decide +kernel
theorem dX12_readsAll_355 : decode cX12_readsAll 355 = .ok (.iload 6, 2) := by decide +kernel
theorem dX12_readsAll_357 : decode cX12_readsAll 357 = .ok (.ifCond .eq 7, 3) := by decide +kernel
theorem dX12_readsAll_360 : decode cX12_readsAll 360 = .ok (.iconst 1, 1) := by decide +kernel
theorem dX12_readsAll_361 : decode cX12_readsAll 361 = .ok (.goto 4, 3) := by decide +kernel
theorem dX12_readsAll_364 : decode cX12_readsAll 364 = .ok (.iconst 0, 1) := by decide +kernel
theorem dX12_readsAll_365 : decode cX12_readsAll 365 = .ok (.iadd, 1) := by decide +kernel
theorem dX12_readsAll_366 : decode cX12_readsAll 366 = .ok (.istore_n 2, 1) := by decide +kernel
theorem dX12_readsAll_367 : decode cX12_readsAll 367 = .ok (.goto (-294), 3) := by decide +kernel
theorem dX12_readsAll_370 : decode cX12_readsAll 370 = .ok (.iconst 1, 1) := by decide +kernel
theorem dX12_readsAll_371 : decode cX12_readsAll 371 = .ok (.ireturn, 1) := by decide +kernel
theorem dX12_readsE_0 : decode cX12_readsE 0 = .ok (.aload_n 0, 1) := by decide +kernel
theorem dX12_readsE_1 : decode cX12_readsE 1 = .ok (.iload_n 1, 1) := by decide +kernel
theorem dX12_readsE_2 : decode cX12_readsE 2 = .ok (.bipush 20, 2) := by decide +kernel
theorem dX12_readsE_4 : decode cX12_readsE 4 = .ok (.if_icmp .ne 7, 3) := by decide +kernel
theorem dX12_readsE_7 : decode cX12_readsE 7 = .ok (.iconst 1, 1) := by decide +kernel
theorem dX12_readsE_8 : decode cX12_readsE 8 = .ok (.goto 4, 3) := by decide +kernel
theorem dX12_readsE_11 : decode cX12_readsE 11 = .ok (.iconst 0, 1) := by decide +kernel
theorem dX12_readsE_12 : decode cX12_readsE 12 = .ok (.putfield 343, 3) := by decide +kernel
theorem dX12_readsE_15 : decode cX12_readsE 15 = .ok (.aload_n 0, 1) := by decide +kernel
theorem dX12_readsE_16 : decode cX12_readsE 16 = .ok (.getfield 68, 3) := by decide +kernel
theorem dX12_readsE_19 : decode cX12_readsE 19 = .ok (.iload_n 1, 1) := by decide +kernel
theorem dX12_readsE_20 : decode cX12_readsE 20 = .ok (.aload_n 0, 1) := by decide +kernel
theorem dX12_readsE_21 : decode cX12_readsE 21 = .ok (.getfield 290, 3) := by decide +kernel
theorem dX12_readsE_24 : decode cX12_readsE 24 = .ok (.iastore, 1) := by decide +kernel
theorem dX12_readsE_25 : decode cX12_readsE 25 = .ok (.aload_n 0, 1) := by decide +kernel
theorem dX12_readsE_26 : decode cX12_readsE 26 = .ok (.invokevirtual 380, 3) := by decide +kernel
theorem dX12_readsE_29 : decode cX12_readsE 29 = .ok (.ifCond .ne 5, 3) := by decide +kernel
theorem dX12_readsE_32 : decode cX12_readsE 32 = .ok (.iconst 0, 1) := by decide +kernel
theorem dX12_readsE_33 : decode cX12_readsE 33 = .ok (.ireturn, 1) := by decide +kernel
theorem dX12_readsE_34 : decode cX12_readsE 34 = .ok (.aload_n 0, 1) := by decide +kernel
theorem dX12_readsE_35 : decode cX12_readsE 35 = .ok (.getfield 71, 3) := by decide +kernel
theorem dX12_readsE_38 : decode cX12_readsE 38 = .ok (.iload_n 1, 1) := by decide +kernel
theorem dX12_readsE_39 : decode cX12_readsE 39 = .ok (.aload_n 0, 1) := by decide +kernel
theorem dX12_readsE_40 : decode cX12_readsE 40 = .ok (.getfield 290, 3) := by decide +kernel
theorem dX12_readsE_43 : decode cX12_readsE 43 = .ok (.iastore, 1) := by decide +kernel
theorem dX12_readsE_44 : decode cX12_readsE 44 = .ok (.aload_n 0, 1) := by decide +kernel
theorem dX12_readsE_45 : decode cX12_readsE 45 = .ok (.getfield 65, 3) := by decide +kernel
theorem dX12_readsE_48 : decode cX12_readsE 48 = .ok (.iload_n 1, 1) := by decide +kernel
theorem dX12_readsE_49 : decode cX12_readsE 49 = .ok (.iconst 1, 1) := by decide +kernel
theorem dX12_readsE_50 : decode cX12_readsE 50 = .ok (.bastore, 1) := by decide +kernel
theorem dX12_readsE_51 : decode cX12_readsE 51 = .ok (.iconst 1, 1) := by decide +kernel
theorem dX12_readsE_52 : decode cX12_readsE 52 = .ok (.ireturn, 1) := by decide +kernel
theorem dX12_readsNumber_0 : decode cX12_readsNumber 0 = .ok (.aload_n 0, 1) := by decide +kernel
theorem dX12_readsNumber_1 : decode cX12_readsNumber 1 = .ok (.getfield 277, 3) := by decide +kernel
theorem dX12_readsNumber_4 : decode cX12_readsNumber 4 = .ok (.iconst 2, 1) := by decide +kernel
theorem dX12_readsNumber_5 : decode cX12_readsNumber 5 = .ok (.if_icmp .eq 9, 3) := by decide +kernel
theorem dX12_readsNumber_8 : decode cX12_readsNumber 8 = .ok (.aload_n 0, 1) := by decide +kernel
theorem dX12_readsNumber_9 : decode cX12_readsNumber 9 = .ok (.iconst 1, 1) := by decide +kernel
theorem dX12_readsNumber_10 : decode cX12_readsNumber 10 = .ok (.invokevirtual 366, 3) := by decide +kernel
theorem dX12_readsNumber_13 : decode cX12_readsNumber 13 = .ok (.ireturn, 1) := by decide +kernel
theorem dX12_readsNumber_14 : decode cX12_readsNumber 14 = .ok (.aload_n 0, 1) := by decide +kernel
theorem dX12_readsNumber_15 : decode cX12_readsNumber 15 = .ok (.getfield 274, 3) := by decide +kernel
theorem dX12_readsNumber_18 : decode cX12_readsNumber 18 = .ok (.iload_n 1, 1) := by decide +kernel
theorem dX12_readsNumber_19 : decode cX12_readsNumber 19 = .ok (.ifCond .eq 8, 3) := by decide +kernel
theorem dX12_readsNumber_22 : decode cX12_readsNumber 22 = .ok (.bipush 9, 2) := by decide +kernel
theorem dX12_readsNumber_24 : decode cX12_readsNumber 24 = .ok (.goto 6, 3) := by decide +kernel
theorem dX12_readsNumber_27 : decode cX12_readsNumber 27 = .ok (.sipush 999, 3) := by decide +kernel
theorem dX12_readsNumber_30 : decode cX12_readsNumber 30 = .ok (.if_icmp .le 9, 3) := by decide +kernel
theorem dX12_readsNumber_33 : decode cX12_readsNumber 33 = .ok (.aload_n 0, 1) := by decide +kernel
theorem dX12_readsNumber_34 : decode cX12_readsNumber 34 = .ok (.iconst 4, 1) := by decide +kernel
theorem dX12_readsNumber_35 : decode cX12_readsNumber 35 = .ok (.invokevirtual 366, 3) := by decide +kernel
theorem dX12_readsNumber_38 : decode cX12_readsNumber 38 = .ok (.ireturn, 1) := by decide +kernel
theorem dX12_readsNumber_39 : decode cX12_readsNumber 39 = .ok (.iload_n 1, 1) := by decide +kernel
theorem dX12_readsNumber_40 : decode cX12_readsNumber 40 = .ok (.ifCond .eq 14, 3) := by decide +kernel
theorem dX12_readsNumber_43 : decode cX12_readsNumber 43 = .ok (.aload_n 0, 1) := by decide +kernel
theorem dX12_readsNumber_44 : decode cX12_readsNumber 44 = .ok (.aload_n 0, 1) := by decide +kernel
theorem dX12_readsNumber_45 : decode cX12_readsNumber 45 = .ok (.getfield 274, 3) := by decide +kernel
theorem dX12_readsNumber_48 : decode cX12_readsNumber 48 = .ok (.putfield 391, 3) := by decide +kernel
theorem dX12_readsNumber_51 : decode cX12_readsNumber 51 = .ok (.goto 11, 3) := by decide +kernel
theorem dX12_readsNumber_54 : decode cX12_readsNumber 54 = .ok (.aload_n 0, 1) := by decide +kernel
theorem dX12_readsNumber_55 : decode cX12_readsNumber 55 = .ok (.aload_n 0, 1) := by decide +kernel
theorem dX12_readsNumber_56 : decode cX12_readsNumber 56 = .ok (.getfield 274, 3) := by decide +kernel
theorem dX12_readsNumber_59 : decode cX12_readsNumber 59 = .ok (.putfield 394, 3) := by decide +kernel
theorem dX12_readsNumber_62 : decode cX12_readsNumber 62 = .ok (.aload_n 0, 1) := by decide +kernel
theorem dX12_readsNumber_63 : decode cX12_readsNumber 63 = .ok (.invokevirtual 373, 3) := by decide +kernel
theorem dX12_readsNumber_66 : decode cX12_readsNumber 66 = .ok (.aload_n 0, 1) := by decide +kernel
theorem dX12_readsNumber_67 : decode cX12_readsNumber 67 = .ok (.bipush 59, 2) := by decide +kernel
theorem dX12_readsNumber_69 : decode cX12_readsNumber 69 = .ok (.invokevirtual 363, 3) := by decide +kernel
theorem dX12_readsNumber_72 : decode cX12_readsNumber 72 = .ok (.ifCond .ne 9, 3) := by decide +kernel
theorem dX12_readsNumber_75 : decode cX12_readsNumber 75 = .ok (.aload_n 0, 1) := by decide +kernel
theorem dX12_readsNumber_76 : decode cX12_readsNumber 76 = .ok (.iconst 1, 1) := by decide +kernel
theorem dX12_readsNumber_77 : decode cX12_readsNumber 77 = .ok (.invokevirtual 366, 3) := by decide +kernel
theorem dX12_readsNumber_80 : decode cX12_readsNumber 80 = .ok (.ireturn, 1) := by decide +kernel
theorem dX12_readsNumber_81 : decode cX12_readsNumber 81 = .ok (.aload_n 0, 1) := by decide +kernel
theorem dX12_readsNumber_82 : decode cX12_readsNumber 82 = .ok (.invokevirtual 373, 3) := by decide +kernel
theorem dX12_readsNumber_85 : decode cX12_readsNumber 85 = .ok (.iconst 1, 1) := by decide +kernel
theorem dX12_readsNumber_86 : decode cX12_readsNumber 86 = .ok (.ireturn, 1) := by decide +kernel
theorem dX12_readsRule_0 : decode cX12_readsRule 0 = .ok (.aload_n 0, 1) := by decide +kernel
theorem dX12_readsRule_1 : decode cX12_readsRule 1 = .ok (.getfield 277, 3) := by decide +kernel
theorem dX12_readsRule_4 : decode cX12_readsRule 4 = .ok (.iconst 2, 1) := by decide +kernel
theorem dX12_readsRule_5 : decode cX12_readsRule 5 = .ok (.if_icmp .eq 9, 3) := by decide +kernel
theorem dX12_readsRule_8 : decode cX12_readsRule 8 = .ok (.aload_n 0, 1) := by decide +kernel
theorem dX12_readsRule_9 : decode cX12_readsRule 9 = .ok (.iconst 1, 1) := by decide +kernel
theorem dX12_readsRule_10 : decode cX12_readsRule 10 = .ok (.invokevirtual 366, 3) := by decide +kernel
theorem dX12_readsRule_13 : decode cX12_readsRule 13 = .ok (.ireturn, 1) := by decide +kernel
theorem dX12_readsRule_14 : decode cX12_readsRule 14 = .ok (.aload_n 0, 1) := by decide +kernel
theorem dX12_readsRule_15 : decode cX12_readsRule 15 = .ok (.getfield 274, 3) := by decide +kernel
theorem dX12_readsRule_18 : decode cX12_readsRule 18 = .ok (.bipush 7, 2) := by decide +kernel
theorem dX12_readsRule_20 : decode cX12_readsRule 20 = .ok (.if_icmp .le 9, 3) := by decide +kernel
theorem dX12_readsRule_23 : decode cX12_readsRule 23 = .ok (.aload_n 0, 1) := by decide +kernel
theorem dX12_readsRule_24 : decode cX12_readsRule 24 = .ok (.iconst 4, 1) := by decide +kernel
theorem dX12_readsRule_25 : decode cX12_readsRule 25 = .ok (.invokevirtual 366, 3) := by decide +kernel
theorem dX12_readsRule_28 : decode cX12_readsRule 28 = .ok (.ireturn, 1) := by decide +kernel
theorem dX12_readsRule_29 : decode cX12_readsRule 29 = .ok (.aload_n 0, 1) := by decide +kernel
theorem dX12_readsRule_30 : decode cX12_readsRule 30 = .ok (.getfield 65, 3) := by decide +kernel
theorem dX12_readsRule_33 : decode cX12_readsRule 33 = .ok (.bipush 12, 2) := by decide +kernel
theorem dX12_readsRule_35 : decode cX12_readsRule 35 = .ok (.aload_n 0, 1) := by decide +kernel
theorem dX12_readsRule_36 : decode cX12_readsRule 36 = .ok (.getfield 274, 3) := by decide +kernel
theorem dX12_readsRule_39 : decode cX12_readsRule 39 = .ok (.iadd, 1) := by decide +kernel
theorem dX12_readsRule_40 : decode cX12_readsRule 40 = .ok (.baload, 1) := by decide +kernel
theorem dX12_readsRule_41 : decode cX12_readsRule 41 = .ok (.ifCond .eq 9, 3) := by decide +kernel
theorem dX12_readsRule_44 : decode cX12_readsRule 44 = .ok (.aload_n 0, 1) := by decide +kernel
theorem dX12_readsRule_45 : decode cX12_readsRule 45 = .ok (.iconst 3, 1) := by decide +kernel
theorem dX12_readsRule_46 : decode cX12_readsRule 46 = .ok (.invokevirtual 366, 3) := by decide +kernel
theorem dX12_readsRule_49 : decode cX12_readsRule 49 = .ok (.ireturn, 1) := by decide +kernel
theorem dX12_readsRule_50 : decode cX12_readsRule 50 = .ok (.bipush 12, 2) := by decide +kernel
theorem dX12_readsRule_52 : decode cX12_readsRule 52 = .ok (.aload_n 0, 1) := by decide +kernel
theorem dX12_readsRule_53 : decode cX12_readsRule 53 = .ok (.getfield 274, 3) := by decide +kernel
theorem dX12_readsRule_56 : decode cX12_readsRule 56 = .ok (.iadd, 1) := by decide +kernel
theorem dX12_readsRule_57 : decode cX12_readsRule 57 = .ok (.istore_n 1, 1) := by decide +kernel
theorem dX12_readsRule_58 : decode cX12_readsRule 58 = .ok (.aload_n 0, 1) := by decide +kernel
theorem dX12_readsRule_59 : decode cX12_readsRule 59 = .ok (.invokevirtual 373, 3) := by decide +kernel
theorem dX12_readsRule_62 : decode cX12_readsRule 62 = .ok (.aload_n 0, 1) := by decide +kernel
theorem dX12_readsRule_63 : decode cX12_readsRule 63 = .ok (.ldc2_w 389, 3) := by decide +kernel
theorem dX12_readsRule_66 : decode cX12_readsRule 66 = .ok (.invokevirtual 359, 3) := by decide +kernel
theorem dX12_readsRule_69 : decode cX12_readsRule 69 = .ok (.ifCond .ne 9, 3) := by decide +kernel
theorem dX12_readsRule_72 : decode cX12_readsRule 72 = .ok (.aload_n 0, 1) := by decide +kernel
theorem dX12_readsRule_73 : decode cX12_readsRule 73 = .ok (.iconst 1, 1) := by decide +kernel
theorem dX12_readsRule_74 : decode cX12_readsRule 74 = .ok (.invokevirtual 366, 3) := by decide +kernel
theorem dX12_readsRule_77 : decode cX12_readsRule 77 = .ok (.ireturn, 1) := by decide +kernel
theorem dX12_readsRule_78 : decode cX12_readsRule 78 = .ok (.aload_n 0, 1) := by decide +kernel
theorem dX12_readsRule_79 : decode cX12_readsRule 79 = .ok (.invokevirtual 373, 3) := by decide +kernel
theorem dX12_readsRule_82 : decode cX12_readsRule 82 = .ok (.aload_n 0, 1) := by decide +kernel
theorem dX12_readsRule_83 : decode cX12_readsRule 83 = .ok (.iload_n 1, 1) := by decide +kernel
theorem dX12_readsRule_84 : decode cX12_readsRule 84 = .ok (.invokevirtual 386, 3) := by decide +kernel
theorem dX12_readsRule_87 : decode cX12_readsRule 87 = .ok (.ireturn, 1) := by decide +kernel
theorem dX12_readsWhen_0 : decode cX12_readsWhen 0 = .ok (.aload_n 0, 1) := by decide +kernel
theorem dX12_readsWhen_1 : decode cX12_readsWhen 1 = .ok (.ldc2_w 384, 3) := by decide +kernel
theorem dX12_readsWhen_4 : decode cX12_readsWhen 4 = .ok (.invokevirtual 359, 3) := by decide +kernel
theorem dX12_readsWhen_7 : decode cX12_readsWhen 7 = .ok (.ifCond .ne 9, 3) := by decide +kernel
theorem dX12_readsWhen_10 : decode cX12_readsWhen 10 = .ok (.aload_n 0, 1) := by decide +kernel
theorem dX12_readsWhen_11 : decode cX12_readsWhen 11 = .ok (.iconst 1, 1) := by decide +kernel
theorem dX12_readsWhen_12 : decode cX12_readsWhen 12 = .ok (.invokevirtual 366, 3) := by decide +kernel
theorem dX12_readsWhen_15 : decode cX12_readsWhen 15 = .ok (.ireturn, 1) := by decide +kernel
theorem dX12_readsWhen_16 : decode cX12_readsWhen 16 = .ok (.aload_n 0, 1) := by decide +kernel
theorem dX12_readsWhen_17 : decode cX12_readsWhen 17 = .ok (.invokevirtual 373, 3) := by decide +kernel
theorem dX12_readsWhen_20 : decode cX12_readsWhen 20 = .ok (.aload_n 0, 1) := by decide +kernel
theorem dX12_readsWhen_21 : decode cX12_readsWhen 21 = .ok (.iload_n 1, 1) := by decide +kernel
theorem dX12_readsWhen_22 : decode cX12_readsWhen 22 = .ok (.invokevirtual 386, 3) := by decide +kernel
theorem dX12_readsWhen_25 : decode cX12_readsWhen 25 = .ok (.ireturn, 1) := by decide +kernel
theorem dX12_row_0 : decode cX12_row 0 = .ok (.aload_n 0, 1) := by decide +kernel
theorem dX12_row_1 : decode cX12_row 1 = .ok (.iconst 0, 1) := by decide +kernel
theorem dX12_row_2 : decode cX12_row 2 = .ok (.putfield 214, 3) := by decide +kernel
theorem dX12_row_5 : decode cX12_row 5 = .ok (.iload_n 1, 1) := by decide +kernel
theorem dX12_row_6 : decode cX12_row 6 = .ok (.invokestatic 225, 3) := by decide +kernel
theorem dX12_row_9 : decode cX12_row 9 = .ok (.ifCond .eq 21, 3) := by decide +kernel
theorem dX12_row_12 : decode cX12_row 12 = .ok (.iload_n 2, 1) := by decide +kernel
theorem dX12_row_13 : decode cX12_row 13 = .ok (.iconst 0, 1) := by decide +kernel
theorem dX12_row_14 : decode cX12_row 14 = .ok (.iconst 2, 1) := by decide +kernel
theorem dX12_row_15 : decode cX12_row 15 = .ok (.invokestatic 221, 3) := by decide +kernel
theorem dX12_row_18 : decode cX12_row 18 = .ok (.ifCond .eq 12, 3) := by decide +kernel
theorem dX12_row_21 : decode cX12_row 21 = .ok (.iload_n 3, 1) := by decide +kernel
theorem dX12_row_22 : decode cX12_row 22 = .ok (.iconst 0, 1) := by decide +kernel
theorem dX12_row_23 : decode cX12_row 23 = .ok (.iconst 3, 1) := by decide +kernel
theorem dX12_row_24 : decode cX12_row 24 = .ok (.invokestatic 221, 3) := by decide +kernel
theorem dX12_row_27 : decode cX12_row 27 = .ok (.ifCond .ne 5, 3) := by decide +kernel
theorem dX12_row_30 : decode cX12_row 30 = .ok (.iconst (-1), 1) := by decide +kernel
theorem dX12_row_31 : decode cX12_row 31 = .ok (.ireturn, 1) := by decide +kernel
theorem dX12_row_32 : decode cX12_row 32 = .ok (.aload_n 0, 1) := by decide +kernel
theorem dX12_row_33 : decode cX12_row 33 = .ok (.iload_n 1, 1) := by decide +kernel
theorem dX12_row_34 : decode cX12_row 34 = .ok (.iload_n 2, 1) := by decide +kernel
theorem dX12_row_35 : decode cX12_row 35 = .ok (.invokevirtual 456, 3) := by decide +kernel
theorem dX12_row_38 : decode cX12_row 38 = .ok (.iload_n 3, 1) := by decide +kernel
theorem dX12_row_39 : decode cX12_row 39 = .ok (.ifCond .ne 10, 3) := by decide +kernel
theorem dX12_row_42 : decode cX12_row 42 = .ok (.aload_n 0, 1) := by decide +kernel
theorem dX12_row_43 : decode cX12_row 43 = .ok (.getfield 444, 3) := by decide +kernel
theorem dX12_row_46 : decode cX12_row 46 = .ok (.goto 31, 3) := by decide +kernel
theorem dX12_row_49 : decode cX12_row 49 = .ok (.iload_n 3, 1) := by decide +kernel
theorem dX12_row_50 : decode cX12_row 50 = .ok (.iconst 1, 1) := by decide +kernel
theorem dX12_row_51 : decode cX12_row 51 = .ok (.if_icmp .ne 10, 3) := by decide +kernel
theorem dX12_row_54 : decode cX12_row 54 = .ok (.aload_n 0, 1) := by decide +kernel
theorem dX12_row_55 : decode cX12_row 55 = .ok (.getfield 447, 3) := by decide +kernel
theorem dX12_row_58 : decode cX12_row 58 = .ok (.goto 19, 3) := by decide +kernel
theorem dX12_row_61 : decode cX12_row 61 = .ok (.iload_n 3, 1) := by decide +kernel
theorem dX12_row_62 : decode cX12_row 62 = .ok (.iconst 2, 1) := by decide +kernel
theorem dX12_row_63 : decode cX12_row 63 = .ok (.if_icmp .ne 10, 3) := by decide +kernel
theorem dX12_row_66 : decode cX12_row 66 = .ok (.aload_n 0, 1) := by decide +kernel
theorem dX12_row_67 : decode cX12_row 67 = .ok (.getfield 450, 3) := by decide +kernel
theorem dX12_row_70 : decode cX12_row 70 = .ok (.goto 7, 3) := by decide +kernel
theorem dX12_row_73 : decode cX12_row 73 = .ok (.aload_n 0, 1) := by decide +kernel
theorem dX12_row_74 : decode cX12_row 74 = .ok (.getfield 453, 3) := by decide +kernel
theorem dX12_row_77 : decode cX12_row 77 = .ok (.ireturn, 1) := by decide +kernel
theorem dX12_ruled_0 : decode cX12_ruled 0 = .ok (.iconst 0, 1) := by decide +kernel
theorem dX12_ruled_1 : decode cX12_ruled 1 = .ok (.istore_n 1, 1) := by decide +kernel
theorem dX12_ruled_2 : decode cX12_ruled 2 = .ok (.iconst 0, 1) := by decide +kernel
theorem dX12_ruled_3 : decode cX12_ruled 3 = .ok (.istore_n 2, 1) := by decide +kernel
theorem dX12_ruled_4 : decode cX12_ruled 4 = .ok (.iload_n 2, 1) := by decide +kernel
theorem dX12_ruled_5 : decode cX12_ruled 5 = .ok (.bipush 8, 2) := by decide +kernel
theorem dX12_ruled_7 : decode cX12_ruled 7 = .ok (.if_icmp .ge 31, 3) := by decide +kernel
theorem dX12_ruled_10 : decode cX12_ruled 10 = .ok (.iload_n 1, 1) := by decide +kernel
theorem dX12_ruled_11 : decode cX12_ruled 11 = .ok (.aload_n 0, 1) := by decide +kernel
theorem dX12_ruled_12 : decode cX12_ruled 12 = .ok (.getfield 55, 3) := by decide +kernel
theorem dX12_ruled_15 : decode cX12_ruled 15 = .ok (.bipush 12, 2) := by decide +kernel
theorem dX12_ruled_17 : decode cX12_ruled 17 = .ok (.iload_n 2, 1) := by decide +kernel
theorem dX12_ruled_18 : decode cX12_ruled 18 = .ok (.iadd, 1) := by decide +kernel
theorem dX12_ruled_19 : decode cX12_ruled 19 = .ok (.baload, 1) := by decide +kernel
theorem dX12_ruled_20 : decode cX12_ruled 20 = .ok (.ifCond .eq 9, 3) := by decide +kernel
theorem dX12_ruled_23 : decode cX12_ruled 23 = .ok (.iconst 1, 1) := by decide +kernel
theorem dX12_ruled_24 : decode cX12_ruled 24 = .ok (.iload_n 2, 1) := by decide +kernel
theorem dX12_ruled_25 : decode cX12_ruled 25 = .ok (.ishl, 1) := by decide +kernel
theorem dX12_ruled_26 : decode cX12_ruled 26 = .ok (.goto 4, 3) := by decide +kernel
theorem dX12_ruled_29 : decode cX12_ruled 29 = .ok (.iconst 0, 1) := by decide +kernel
theorem dX12_ruled_30 : decode cX12_ruled 30 = .ok (.ior, 1) := by decide +kernel
theorem dX12_ruled_31 : decode cX12_ruled 31 = .ok (.istore_n 1, 1) := by decide +kernel
theorem dX12_ruled_32 : decode cX12_ruled 32 = .ok (.iinc 2 1, 3) := by decide +kernel
theorem dX12_ruled_35 : decode cX12_ruled 35 = .ok (.goto (-31), 3) := by decide +kernel
theorem dX12_ruled_38 : decode cX12_ruled 38 = .ok (.iload_n 1, 1) := by decide +kernel
theorem dX12_ruled_39 : decode cX12_ruled 39 = .ok (.ireturn, 1) := by decide +kernel
theorem dX12_rules_0 : decode cX12_rules 0 = .ok (.aload_n 0, 1) := by decide +kernel
theorem dX12_rules_1 : decode cX12_rules 1 = .ok (.iconst 0, 1) := by decide +kernel
theorem dX12_rules_2 : decode cX12_rules 2 = .ok (.putfield 214, 3) := by decide +kernel
theorem dX12_rules_5 : decode cX12_rules 5 = .ok (.iload_n 1, 1) := by decide +kernel
theorem dX12_rules_6 : decode cX12_rules 6 = .ok (.iconst 0, 1) := by decide +kernel
theorem dX12_rules_7 : decode cX12_rules 7 = .ok (.iconst 1, 1) := by decide +kernel
theorem dX12_rules_8 : decode cX12_rules 8 = .ok (.invokestatic 221, 3) := by decide +kernel
theorem dX12_rules_11 : decode cX12_rules 11 = .ok (.ifCond .ne 5, 3) := by decide +kernel
theorem dX12_rules_14 : decode cX12_rules 14 = .ok (.iconst (-1), 1) := by decide +kernel
theorem dX12_rules_15 : decode cX12_rules 15 = .ok (.ireturn, 1) := by decide +kernel
theorem dX12_rules_16 : decode cX12_rules 16 = .ok (.aload_n 0, 1) := by decide +kernel
theorem dX12_rules_17 : decode cX12_rules 17 = .ok (.invokevirtual 505, 3) := by decide +kernel
theorem dX12_rules_20 : decode cX12_rules 20 = .ok (.iconst (-1), 1) := by decide +kernel
theorem dX12_rules_21 : decode cX12_rules 21 = .ok (.istore_n 2, 1) := by decide +kernel
theorem dX12_rules_22 : decode cX12_rules 22 = .ok (.iconst 0, 1) := by decide +kernel
theorem dX12_rules_23 : decode cX12_rules 23 = .ok (.istore_n 3, 1) := by decide +kernel
theorem dX12_rules_24 : decode cX12_rules 24 = .ok (.iload_n 3, 1) := by decide +kernel
theorem dX12_rules_25 : decode cX12_rules 25 = .ok (.sipush 256, 3) := by decide +kernel
theorem dX12_rules_28 : decode cX12_rules 28 = .ok (.if_icmp .ge 45, 3) := by decide +kernel
theorem dX12_rules_31 : decode cX12_rules 31 = .ok (.iload_n 3, 1) := by decide +kernel
theorem dX12_rules_32 : decode cX12_rules 32 = .ok (.aload_n 0, 1) := by decide +kernel
theorem dX12_rules_33 : decode cX12_rules 33 = .ok (.invokevirtual 539, 3) := by decide +kernel
theorem dX12_rules_36 : decode cX12_rules 36 = .ok (.iconst (-1), 1) := by decide +kernel
theorem dX12_rules_37 : decode cX12_rules 37 = .ok (.ixor, 1) := by decide +kernel
theorem dX12_rules_38 : decode cX12_rules 38 = .ok (.iand, 1) := by decide +kernel
theorem dX12_rules_39 : decode cX12_rules 39 = .ok (.ifCond .ne 28, 3) := by decide +kernel
theorem dX12_rules_42 : decode cX12_rules 42 = .ok (.iload_n 2, 1) := by decide +kernel
theorem dX12_rules_43 : decode cX12_rules 43 = .ok (.ifCond .lt 14, 3) := by decide +kernel
theorem dX12_rules_46 : decode cX12_rules 46 = .ok (.iload_n 3, 1) := by decide +kernel
theorem dX12_rules_47 : decode cX12_rules 47 = .ok (.invokestatic 242, 3) := by decide +kernel
theorem dX12_rules_50 : decode cX12_rules 50 = .ok (.iload_n 2, 1) := by decide +kernel
theorem dX12_rules_51 : decode cX12_rules 51 = .ok (.invokestatic 242, 3) := by decide +kernel
theorem dX12_rules_54 : decode cX12_rules 54 = .ok (.if_icmp .ge 13, 3) := by decide +kernel
theorem dX12_rules_57 : decode cX12_rules 57 = .ok (.aload_n 0, 1) := by decide +kernel
theorem dX12_rules_58 : decode cX12_rules 58 = .ok (.iload_n 3, 1) := by decide +kernel
theorem dX12_rules_59 : decode cX12_rules 59 = .ok (.invokevirtual 542, 3) := by decide +kernel
theorem dX12_rules_62 : decode cX12_rules 62 = .ok (.ifCond .eq 5, 3) := by decide +kernel
theorem dX12_rules_65 : decode cX12_rules 65 = .ok (.iload_n 3, 1) := by decide +kernel
theorem dX12_rules_66 : decode cX12_rules 66 = .ok (.istore_n 2, 1) := by decide +kernel
theorem dX12_rules_67 : decode cX12_rules 67 = .ok (.iinc 3 1, 3) := by decide +kernel
theorem dX12_rules_70 : decode cX12_rules 70 = .ok (.goto (-46), 3) := by decide +kernel
theorem dX12_rules_73 : decode cX12_rules 73 = .ok (.iload_n 2, 1) := by decide +kernel
theorem dX12_rules_74 : decode cX12_rules 74 = .ok (.ifCond .ge 7, 3) := by decide +kernel
theorem dX12_rules_77 : decode cX12_rules 77 = .ok (.iconst (-1), 1) := by decide +kernel
theorem dX12_rules_78 : decode cX12_rules 78 = .ok (.goto 15, 3) := by decide +kernel
theorem dX12_rules_81 : decode cX12_rules 81 = .ok (.iload_n 1, 1) := by decide +kernel
theorem dX12_rules_82 : decode cX12_rules 82 = .ok (.ifCond .ne 10, 3) := by decide +kernel
theorem dX12_rules_85 : decode cX12_rules 85 = .ok (.iload_n 2, 1) := by decide +kernel
theorem dX12_rules_86 : decode cX12_rules 86 = .ok (.invokestatic 242, 3) := by decide +kernel
theorem dX12_rules_89 : decode cX12_rules 89 = .ok (.goto 4, 3) := by decide +kernel
theorem dX12_rules_92 : decode cX12_rules 92 = .ok (.iload_n 2, 1) := by decide +kernel
theorem dX12_rules_93 : decode cX12_rules 93 = .ok (.ireturn, 1) := by decide +kernel
theorem dX12_runs_0 : decode cX12_runs 0 = .ok (.aload_n 0, 1) := by decide +kernel
theorem dX12_runs_1 : decode cX12_runs 1 = .ok (.iload_n 1, 1) := by decide +kernel
theorem dX12_runs_2 : decode cX12_runs 2 = .ok (.i2l, 1) := by decide +kernel
theorem dX12_runs_3 : decode cX12_runs 3 = .ok (.putfield 551, 3) := by decide +kernel
theorem dX12_runs_6 : decode cX12_runs 6 = .ok (.aload_n 0, 1) := by decide +kernel
theorem dX12_runs_7 : decode cX12_runs 7 = .ok (.iconst 0, 1) := by decide +kernel
theorem dX12_runs_8 : decode cX12_runs 8 = .ok (.putfield 568, 3) := by decide +kernel
theorem dX12_runs_11 : decode cX12_runs 11 = .ok (.iconst 0, 1) := by decide +kernel
theorem dX12_runs_12 : decode cX12_runs 12 = .ok (.istore_n 2, 1) := by decide +kernel
theorem dX12_runs_13 : decode cX12_runs 13 = .ok (.iload_n 2, 1) := by decide +kernel
theorem dX12_runs_14 : decode cX12_runs 14 = .ok (.bipush 8, 2) := by decide +kernel
theorem dX12_runs_16 : decode cX12_runs 16 = .ok (.if_icmp .ge 16, 3) := by decide +kernel
theorem dX12_runs_19 : decode cX12_runs 19 = .ok (.aload_n 0, 1) := by decide +kernel
theorem dX12_runs_20 : decode cX12_runs 20 = .ok (.getfield 174, 3) := by decide +kernel
theorem dX12_runs_23 : decode cX12_runs 23 = .ok (.iload_n 2, 1) := by decide +kernel
theorem dX12_runs_24 : decode cX12_runs 24 = .ok (.iconst 0, 1) := by decide +kernel
theorem dX12_runs_25 : decode cX12_runs 25 = .ok (.iastore, 1) := by decide +kernel
theorem dX12_runs_26 : decode cX12_runs 26 = .ok (.iinc 2 1, 3) := by decide +kernel
theorem dX12_runs_29 : decode cX12_runs 29 = .ok (.goto (-16), 3) := by decide +kernel
theorem dX12_runs_32 : decode cX12_runs 32 = .ok (.iconst 0, 1) := by decide +kernel
theorem dX12_runs_33 : decode cX12_runs 33 = .ok (.istore_n 2, 1) := by decide +kernel
theorem dX12_runs_34 : decode cX12_runs 34 = .ok (.iload_n 2, 1) := by decide +kernel
theorem dX12_runs_35 : decode cX12_runs 35 = .ok (.aload_n 0, 1) := by decide +kernel
theorem dX12_runs_36 : decode cX12_runs 36 = .ok (.getfield 228, 3) := by decide +kernel
theorem dX12_runs_39 : decode cX12_runs 39 = .ok (.if_icmp .ge 44, 3) := by decide +kernel
theorem dX12_runs_42 : decode cX12_runs 42 = .ok (.aload_n 0, 1) := by decide +kernel
theorem dX12_runs_43 : decode cX12_runs 43 = .ok (.getfield 25, 3) := by decide +kernel
theorem dX12_runs_46 : decode cX12_runs 46 = .ok (.iload_n 2, 1) := by decide +kernel
theorem dX12_runs_47 : decode cX12_runs 47 = .ok (.iaload, 1) := by decide +kernel
theorem dX12_runs_48 : decode cX12_runs 48 = .ok (.istore_n 3, 1) := by decide +kernel
theorem dX12_runs_49 : decode cX12_runs 49 = .ok (.iload_n 3, 1) := by decide +kernel
theorem dX12_runs_50 : decode cX12_runs 50 = .ok (.aload_n 0, 1) := by decide +kernel
theorem dX12_runs_51 : decode cX12_runs 51 = .ok (.getfield 28, 3) := by decide +kernel
theorem dX12_runs_54 : decode cX12_runs 54 = .ok (.iload_n 2, 1) := by decide +kernel
theorem dX12_runs_55 : decode cX12_runs 55 = .ok (.iaload, 1) := by decide +kernel
theorem dX12_runs_56 : decode cX12_runs 56 = .ok (.if_icmp .gt 21, 3) := by decide +kernel
theorem dX12_runs_59 : decode cX12_runs 59 = .ok (.aload_n 0, 1) := by decide +kernel
theorem dX12_runs_60 : decode cX12_runs 60 = .ok (.iload_n 2, 1) := by decide +kernel
theorem dX12_runs_61 : decode cX12_runs 61 = .ok (.iload_n 3, 1) := by decide +kernel
theorem dX12_runs_62 : decode cX12_runs 62 = .ok (.invokevirtual 578, 3) := by decide +kernel
theorem dX12_runs_65 : decode cX12_runs 65 = .ok (.aload_n 0, 1) := by decide +kernel
theorem dX12_runs_66 : decode cX12_runs 66 = .ok (.iload_n 2, 1) := by decide +kernel
theorem dX12_runs_67 : decode cX12_runs 67 = .ok (.iload_n 3, 1) := by decide +kernel
theorem dX12_runs_68 : decode cX12_runs 68 = .ok (.invokevirtual 581, 3) := by decide +kernel
theorem dX12_runs_71 : decode cX12_runs 71 = .ok (.iinc 3 1, 3) := by decide +kernel
theorem dX12_runs_74 : decode cX12_runs 74 = .ok (.goto (-25), 3) := by decide +kernel
theorem dX12_runs_77 : decode cX12_runs 77 = .ok (.iinc 2 1, 3) := by decide +kernel
theorem dX12_runs_80 : decode cX12_runs 80 = .ok (.goto (-46), 3) := by decide +kernel
theorem dX12_runs_83 : decode cX12_runs 83 = .ok (.return_, 1) := by decide +kernel
theorem dX12_seen_0 : decode cX12_seen 0 = .ok (.aload_n 0, 1) := by decide +kernel
theorem dX12_seen_1 : decode cX12_seen 1 = .ok (.iconst 0, 1) := by decide +kernel
theorem dX12_seen_2 : decode cX12_seen 2 = .ok (.putfield 214, 3) := by decide +kernel
theorem dX12_seen_5 : decode cX12_seen 5 = .ok (.iload_n 1, 1) := by decide +kernel
theorem dX12_seen_6 : decode cX12_seen 6 = .ok (.invokestatic 225, 3) := by decide +kernel
theorem dX12_seen_9 : decode cX12_seen 9 = .ok (.ifCond .eq 30, 3) := by decide +kernel
theorem dX12_seen_12 : decode cX12_seen 12 = .ok (.iload_n 2, 1) := by decide +kernel
theorem dX12_seen_13 : decode cX12_seen 13 = .ok (.invokestatic 217, 3) := by decide +kernel
theorem dX12_seen_16 : decode cX12_seen 16 = .ok (.ifCond .eq 23, 3) := by decide +kernel
theorem dX12_seen_19 : decode cX12_seen 19 = .ok (.iload_n 3, 1) := by decide +kernel
theorem dX12_seen_20 : decode cX12_seen 20 = .ok (.iconst 0, 1) := by decide +kernel
theorem dX12_seen_21 : decode cX12_seen 21 = .ok (.sipush 999, 3) := by decide +kernel
theorem dX12_seen_24 : decode cX12_seen 24 = .ok (.invokestatic 221, 3) := by decide +kernel
theorem dX12_seen_27 : decode cX12_seen 27 = .ok (.ifCond .eq 12, 3) := by decide +kernel
theorem dX12_seen_30 : decode cX12_seen 30 = .ok (.aload_n 0, 1) := by decide +kernel
theorem dX12_seen_31 : decode cX12_seen 31 = .ok (.getfield 475, 3) := by decide +kernel
theorem dX12_seen_34 : decode cX12_seen 34 = .ok (.bipush 20, 2) := by decide +kernel
theorem dX12_seen_36 : decode cX12_seen 36 = .ok (.if_icmp .ne 5, 3) := by decide +kernel
theorem dX12_seen_39 : decode cX12_seen 39 = .ok (.iconst 0, 1) := by decide +kernel
theorem dX12_seen_40 : decode cX12_seen 40 = .ok (.ireturn, 1) := by decide +kernel
theorem dX12_seen_41 : decode cX12_seen 41 = .ok (.aload_n 0, 1) := by decide +kernel
theorem dX12_seen_42 : decode cX12_seen 42 = .ok (.getfield 113, 3) := by decide +kernel
theorem dX12_seen_45 : decode cX12_seen 45 = .ok (.aload_n 0, 1) := by decide +kernel
theorem dX12_seen_46 : decode cX12_seen 46 = .ok (.getfield 475, 3) := by decide +kernel
theorem dX12_seen_49 : decode cX12_seen 49 = .ok (.iload_n 1, 1) := by decide +kernel
theorem dX12_seen_50 : decode cX12_seen 50 = .ok (.iastore, 1) := by decide +kernel
theorem dX12_seen_51 : decode cX12_seen 51 = .ok (.aload_n 0, 1) := by decide +kernel
theorem dX12_seen_52 : decode cX12_seen 52 = .ok (.getfield 116, 3) := by decide +kernel
theorem dX12_seen_55 : decode cX12_seen 55 = .ok (.aload_n 0, 1) := by decide +kernel
theorem dX12_seen_56 : decode cX12_seen 56 = .ok (.getfield 475, 3) := by decide +kernel
theorem dX12_seen_59 : decode cX12_seen 59 = .ok (.iload_n 2, 1) := by decide +kernel
theorem dX12_seen_60 : decode cX12_seen 60 = .ok (.iastore, 1) := by decide +kernel
theorem dX12_seen_61 : decode cX12_seen 61 = .ok (.aload_n 0, 1) := by decide +kernel
theorem dX12_seen_62 : decode cX12_seen 62 = .ok (.getfield 119, 3) := by decide +kernel
theorem dX12_seen_65 : decode cX12_seen 65 = .ok (.aload_n 0, 1) := by decide +kernel
theorem dX12_seen_66 : decode cX12_seen 66 = .ok (.getfield 475, 3) := by decide +kernel
theorem dX12_seen_69 : decode cX12_seen 69 = .ok (.iload_n 3, 1) := by decide +kernel
theorem dX12_seen_70 : decode cX12_seen 70 = .ok (.iastore, 1) := by decide +kernel
theorem dX12_seen_71 : decode cX12_seen 71 = .ok (.aload_n 0, 1) := by decide +kernel
theorem dX12_seen_72 : decode cX12_seen 72 = .ok (.dup, 1) := by decide +kernel
theorem dX12_seen_73 : decode cX12_seen 73 = .ok (.getfield 475, 3) := by decide +kernel
theorem dX12_seen_76 : decode cX12_seen 76 = .ok (.iconst 1, 1) := by decide +kernel
theorem dX12_seen_77 : decode cX12_seen 77 = .ok (.iadd, 1) := by decide +kernel
theorem dX12_seen_78 : decode cX12_seen 78 = .ok (.putfield 475, 3) := by decide +kernel
theorem dX12_seen_81 : decode cX12_seen 81 = .ok (.iconst 1, 1) := by decide +kernel
theorem dX12_seen_82 : decode cX12_seen 82 = .ok (.ireturn, 1) := by decide +kernel
theorem dX12_seenOf_0 : decode cX12_seenOf 0 = .ok (.iconst 0, 1) := by decide +kernel
theorem dX12_seenOf_1 : decode cX12_seenOf 1 = .ok (.istore_n 3, 1) := by decide +kernel
theorem dX12_seenOf_2 : decode cX12_seenOf 2 = .ok (.iconst 0, 1) := by decide +kernel
theorem dX12_seenOf_3 : decode cX12_seenOf 3 = .ok (.istore 4, 2) := by decide +kernel
theorem dX12_seenOf_5 : decode cX12_seenOf 5 = .ok (.iload 4, 2) := by decide +kernel
theorem dX12_seenOf_7 : decode cX12_seenOf 7 = .ok (.aload_n 0, 1) := by decide +kernel
theorem dX12_seenOf_8 : decode cX12_seenOf 8 = .ok (.getfield 475, 3) := by decide +kernel
theorem dX12_seenOf_11 : decode cX12_seenOf 11 = .ok (.if_icmp .ge 76, 3) := by decide +kernel
theorem dX12_seenOf_14 : decode cX12_seenOf 14 = .ok (.aload_n 0, 1) := by decide +kernel
theorem dX12_seenOf_15 : decode cX12_seenOf 15 = .ok (.getfield 116, 3) := by decide +kernel
theorem dX12_seenOf_18 : decode cX12_seenOf 18 = .ok (.iload 4, 2) := by decide +kernel
theorem dX12_seenOf_20 : decode cX12_seenOf 20 = .ok (.iaload, 1) := by decide +kernel
theorem dX12_seenOf_21 : decode cX12_seenOf 21 = .ok (.aload_n 0, 1) := by decide +kernel
theorem dX12_seenOf_22 : decode cX12_seenOf 22 = .ok (.getfield 31, 3) := by decide +kernel
theorem dX12_seenOf_25 : decode cX12_seenOf 25 = .ok (.iload_n 1, 1) := by decide +kernel
theorem dX12_seenOf_26 : decode cX12_seenOf 26 = .ok (.iaload, 1) := by decide +kernel
theorem dX12_seenOf_27 : decode cX12_seenOf 27 = .ok (.if_icmp .ne 54, 3) := by decide +kernel
theorem dX12_seenOf_30 : decode cX12_seenOf 30 = .ok (.aload_n 0, 1) := by decide +kernel
theorem dX12_seenOf_31 : decode cX12_seenOf 31 = .ok (.getfield 119, 3) := by decide +kernel
theorem dX12_seenOf_34 : decode cX12_seenOf 34 = .ok (.iload 4, 2) := by decide +kernel
theorem dX12_seenOf_36 : decode cX12_seenOf 36 = .ok (.iaload, 1) := by decide +kernel
theorem dX12_seenOf_37 : decode cX12_seenOf 37 = .ok (.aload_n 0, 1) := by decide +kernel
theorem dX12_seenOf_38 : decode cX12_seenOf 38 = .ok (.getfield 37, 3) := by decide +kernel
theorem dX12_seenOf_41 : decode cX12_seenOf 41 = .ok (.iload_n 1, 1) := by decide +kernel
theorem dX12_seenOf_42 : decode cX12_seenOf 42 = .ok (.iaload, 1) := by decide +kernel
theorem dX12_seenOf_43 : decode cX12_seenOf 43 = .ok (.if_icmp .gt 38, 3) := by decide +kernel
theorem dX12_seenOf_46 : decode cX12_seenOf 46 = .ok (.aload_n 0, 1) := by decide +kernel
theorem dX12_seenOf_47 : decode cX12_seenOf 47 = .ok (.getfield 119, 3) := by decide +kernel
theorem dX12_seenOf_50 : decode cX12_seenOf 50 = .ok (.iload 4, 2) := by decide +kernel
theorem dX12_seenOf_52 : decode cX12_seenOf 52 = .ok (.iaload, 1) := by decide +kernel
theorem dX12_seenOf_53 : decode cX12_seenOf 53 = .ok (.aload_n 0, 1) := by decide +kernel
theorem dX12_seenOf_54 : decode cX12_seenOf 54 = .ok (.getfield 207, 3) := by decide +kernel
theorem dX12_seenOf_57 : decode cX12_seenOf 57 = .ok (.iadd, 1) := by decide +kernel
theorem dX12_seenOf_58 : decode cX12_seenOf 58 = .ok (.aload_n 0, 1) := by decide +kernel
theorem dX12_seenOf_59 : decode cX12_seenOf 59 = .ok (.getfield 37, 3) := by decide +kernel
theorem dX12_seenOf_62 : decode cX12_seenOf 62 = .ok (.iload_n 1, 1) := by decide +kernel
theorem dX12_seenOf_63 : decode cX12_seenOf 63 = .ok (.iaload, 1) := by decide +kernel
theorem dX12_seenOf_64 : decode cX12_seenOf 64 = .ok (.if_icmp .lt 17, 3) := by decide +kernel
theorem dX12_seenOf_67 : decode cX12_seenOf 67 = .ok (.iload_n 3, 1) := by decide +kernel
theorem dX12_seenOf_68 : decode cX12_seenOf 68 = .ok (.iload_n 2, 1) := by decide +kernel
theorem dX12_seenOf_69 : decode cX12_seenOf 69 = .ok (.iconst 1, 1) := by decide +kernel
theorem dX12_seenOf_70 : decode cX12_seenOf 70 = .ok (.aload_n 0, 1) := by decide +kernel
theorem dX12_seenOf_71 : decode cX12_seenOf 71 = .ok (.getfield 113, 3) := by decide +kernel
theorem dX12_seenOf_74 : decode cX12_seenOf 74 = .ok (.iload 4, 2) := by decide +kernel
theorem dX12_seenOf_76 : decode cX12_seenOf 76 = .ok (.iaload, 1) := by decide +kernel
theorem dX12_seenOf_77 : decode cX12_seenOf 77 = .ok (.ishl, 1) := by decide +kernel
theorem dX12_seenOf_78 : decode cX12_seenOf 78 = .ok (.iand, 1) := by decide +kernel
theorem dX12_seenOf_79 : decode cX12_seenOf 79 = .ok (.ior, 1) := by decide +kernel
theorem dX12_seenOf_80 : decode cX12_seenOf 80 = .ok (.istore_n 3, 1) := by decide +kernel
theorem dX12_seenOf_81 : decode cX12_seenOf 81 = .ok (.iinc 4 1, 3) := by decide +kernel
theorem dX12_seenOf_84 : decode cX12_seenOf 84 = .ok (.goto (-79), 3) := by decide +kernel
theorem dX12_seenOf_87 : decode cX12_seenOf 87 = .ok (.iload_n 3, 1) := by decide +kernel
theorem dX12_seenOf_88 : decode cX12_seenOf 88 = .ok (.ireturn, 1) := by decide +kernel
theorem dX12_settled_0 : decode cX12_settled 0 = .ok (.aload_n 0, 1) := by decide +kernel
theorem dX12_settled_1 : decode cX12_settled 1 = .ok (.iconst 0, 1) := by decide +kernel
theorem dX12_settled_2 : decode cX12_settled 2 = .ok (.putfield 214, 3) := by decide +kernel
theorem dX12_settled_5 : decode cX12_settled 5 = .ok (.aload_n 0, 1) := by decide +kernel
theorem dX12_settled_6 : decode cX12_settled 6 = .ok (.invokevirtual 505, 3) := by decide +kernel
theorem dX12_settled_9 : decode cX12_settled 9 = .ok (.aload_n 0, 1) := by decide +kernel
theorem dX12_settled_10 : decode cX12_settled 10 = .ok (.aload_n 0, 1) := by decide +kernel
theorem dX12_settled_11 : decode cX12_settled 11 = .ok (.getfield 502, 3) := by decide +kernel
theorem dX12_settled_14 : decode cX12_settled 14 = .ok (.lconst 0, 1) := by decide +kernel
theorem dX12_settled_15 : decode cX12_settled 15 = .ok (.invokevirtual 529, 3) := by decide +kernel
theorem dX12_settled_18 : decode cX12_settled 18 = .ok (.ireturn, 1) := by decide +kernel
theorem dX12_settledBy_0 : decode cX12_settledBy 0 = .ok (.aload_n 0, 1) := by decide +kernel
theorem dX12_settledBy_1 : decode cX12_settledBy 1 = .ok (.lload_n 1, 1) := by decide +kernel
theorem dX12_settledBy_2 : decode cX12_settledBy 2 = .ok (.lload_n 3, 1) := by decide +kernel
theorem dX12_settledBy_3 : decode cX12_settledBy 3 = .ok (.lor, 1) := by decide +kernel
theorem dX12_settledBy_4 : decode cX12_settledBy 4 = .ok (.invokevirtual 515, 3) := by decide +kernel
theorem dX12_settledBy_7 : decode cX12_settledBy 7 = .ok (.aload_n 0, 1) := by decide +kernel
theorem dX12_settledBy_8 : decode cX12_settledBy 8 = .ok (.lload_n 3, 1) := by decide +kernel
theorem dX12_settledBy_9 : decode cX12_settledBy 9 = .ok (.invokevirtual 515, 3) := by decide +kernel
theorem dX12_settledBy_12 : decode cX12_settledBy 12 = .ok (.iconst (-1), 1) := by decide +kernel
theorem dX12_settledBy_13 : decode cX12_settledBy 13 = .ok (.ixor, 1) := by decide +kernel
theorem dX12_settledBy_14 : decode cX12_settledBy 14 = .ok (.sipush 4095, 3) := by decide +kernel
theorem dX12_settledBy_17 : decode cX12_settledBy 17 = .ok (.iand, 1) := by decide +kernel
theorem dX12_settledBy_18 : decode cX12_settledBy 18 = .ok (.ior, 1) := by decide +kernel
theorem dX12_settledBy_19 : decode cX12_settledBy 19 = .ok (.ireturn, 1) := by decide +kernel
theorem dX12_shows_0 : decode cX12_shows 0 = .ok (.aload_n 0, 1) := by decide +kernel
theorem dX12_shows_1 : decode cX12_shows 1 = .ok (.iconst 0, 1) := by decide +kernel
theorem dX12_shows_2 : decode cX12_shows 2 = .ok (.putfield 214, 3) := by decide +kernel
theorem dX12_shows_5 : decode cX12_shows 5 = .ok (.iload_n 1, 1) := by decide +kernel
theorem dX12_shows_6 : decode cX12_shows 6 = .ok (.iconst 0, 1) := by decide +kernel
theorem dX12_shows_7 : decode cX12_shows 7 = .ok (.bipush 7, 2) := by decide +kernel
theorem dX12_shows_9 : decode cX12_shows 9 = .ok (.invokestatic 221, 3) := by decide +kernel
theorem dX12_shows_12 : decode cX12_shows 12 = .ok (.ifCond .eq 23, 3) := by decide +kernel
theorem dX12_shows_15 : decode cX12_shows 15 = .ok (.iload_n 2, 1) := by decide +kernel
theorem dX12_shows_16 : decode cX12_shows 16 = .ok (.iconst 0, 1) := by decide +kernel
theorem dX12_shows_17 : decode cX12_shows 17 = .ok (.bipush 9, 2) := by decide +kernel
theorem dX12_shows_19 : decode cX12_shows 19 = .ok (.invokestatic 221, 3) := by decide +kernel
theorem dX12_shows_22 : decode cX12_shows 22 = .ok (.ifCond .eq 13, 3) := by decide +kernel
theorem dX12_shows_25 : decode cX12_shows 25 = .ok (.iload_n 3, 1) := by decide +kernel
theorem dX12_shows_26 : decode cX12_shows 26 = .ok (.iconst 0, 1) := by decide +kernel
theorem dX12_shows_27 : decode cX12_shows 27 = .ok (.bipush 9, 2) := by decide +kernel
theorem dX12_shows_29 : decode cX12_shows 29 = .ok (.invokestatic 221, 3) := by decide +kernel
theorem dX12_shows_32 : decode cX12_shows 32 = .ok (.ifCond .ne 5, 3) := by decide +kernel
theorem dX12_shows_35 : decode cX12_shows 35 = .ok (.iconst 0, 1) := by decide +kernel
theorem dX12_shows_36 : decode cX12_shows 36 = .ok (.ireturn, 1) := by decide +kernel
theorem dX12_shows_37 : decode cX12_shows 37 = .ok (.aload_n 0, 1) := by decide +kernel
theorem dX12_shows_38 : decode cX12_shows 38 = .ok (.getfield 165, 3) := by decide +kernel
theorem dX12_shows_41 : decode cX12_shows 41 = .ok (.iload_n 1, 1) := by decide +kernel
theorem dX12_shows_42 : decode cX12_shows 42 = .ok (.iload_n 2, 1) := by decide +kernel
theorem dX12_shows_43 : decode cX12_shows 43 = .ok (.iastore, 1) := by decide +kernel
theorem dX12_shows_44 : decode cX12_shows 44 = .ok (.aload_n 0, 1) := by decide +kernel
theorem dX12_shows_45 : decode cX12_shows 45 = .ok (.getfield 168, 3) := by decide +kernel
theorem dX12_shows_48 : decode cX12_shows 48 = .ok (.iload_n 1, 1) := by decide +kernel
theorem dX12_shows_49 : decode cX12_shows 49 = .ok (.iload_n 3, 1) := by decide +kernel
theorem dX12_shows_50 : decode cX12_shows 50 = .ok (.iastore, 1) := by decide +kernel
theorem dX12_shows_51 : decode cX12_shows 51 = .ok (.iconst 1, 1) := by decide +kernel
theorem dX12_shows_52 : decode cX12_shows 52 = .ok (.ireturn, 1) := by decide +kernel
theorem dX12_signAt_0 : decode cX12_signAt 0 = .ok (.iload_n 1, 1) := by decide +kernel
theorem dX12_signAt_1 : decode cX12_signAt 1 = .ok (.aload_n 0, 1) := by decide +kernel
theorem dX12_signAt_2 : decode cX12_signAt 2 = .ok (.getfield 261, 3) := by decide +kernel
theorem dX12_signAt_5 : decode cX12_signAt 5 = .ok (.if_icmp .ge 12, 3) := by decide +kernel
theorem dX12_signAt_8 : decode cX12_signAt 8 = .ok (.aload_n 0, 1) := by decide +kernel
theorem dX12_signAt_9 : decode cX12_signAt 9 = .ok (.getfield 52, 3) := by decide +kernel
theorem dX12_signAt_12 : decode cX12_signAt 12 = .ok (.iload_n 1, 1) := by decide +kernel
theorem dX12_signAt_13 : decode cX12_signAt 13 = .ok (.iaload, 1) := by decide +kernel
theorem dX12_signAt_14 : decode cX12_signAt 14 = .ok (.goto 4, 3) := by decide +kernel
theorem dX12_signAt_17 : decode cX12_signAt 17 = .ok (.iconst 0, 1) := by decide +kernel
theorem dX12_signAt_18 : decode cX12_signAt 18 = .ok (.ireturn, 1) := by decide +kernel
theorem dX12_skill_0 : decode cX12_skill 0 = .ok (.aload_n 0, 1) := by decide +kernel
theorem dX12_skill_1 : decode cX12_skill 1 = .ok (.iconst 0, 1) := by decide +kernel
theorem dX12_skill_2 : decode cX12_skill 2 = .ok (.putfield 214, 3) := by decide +kernel
theorem dX12_skill_5 : decode cX12_skill 5 = .ok (.iload_n 1, 1) := by decide +kernel
theorem dX12_skill_6 : decode cX12_skill 6 = .ok (.invokestatic 225, 3) := by decide +kernel
theorem dX12_skill_9 : decode cX12_skill 9 = .ok (.ifCond .eq 23, 3) := by decide +kernel
theorem dX12_skill_12 : decode cX12_skill 12 = .ok (.iload_n 2, 1) := by decide +kernel
theorem dX12_skill_13 : decode cX12_skill 13 = .ok (.iconst 0, 1) := by decide +kernel
theorem dX12_skill_14 : decode cX12_skill 14 = .ok (.bipush 9, 2) := by decide +kernel
theorem dX12_skill_16 : decode cX12_skill 16 = .ok (.invokestatic 221, 3) := by decide +kernel
theorem dX12_skill_19 : decode cX12_skill 19 = .ok (.ifCond .eq 13, 3) := by decide +kernel
theorem dX12_skill_22 : decode cX12_skill 22 = .ok (.iload_n 3, 1) := by decide +kernel
theorem dX12_skill_23 : decode cX12_skill 23 = .ok (.iconst 0, 1) := by decide +kernel
theorem dX12_skill_24 : decode cX12_skill 24 = .ok (.bipush 9, 2) := by decide +kernel
theorem dX12_skill_26 : decode cX12_skill 26 = .ok (.invokestatic 221, 3) := by decide +kernel
theorem dX12_skill_29 : decode cX12_skill 29 = .ok (.ifCond .ne 5, 3) := by decide +kernel
theorem dX12_skill_32 : decode cX12_skill 32 = .ok (.iconst 0, 1) := by decide +kernel
theorem dX12_skill_33 : decode cX12_skill 33 = .ok (.ireturn, 1) := by decide +kernel
theorem dX12_skill_34 : decode cX12_skill 34 = .ok (.aload_n 0, 1) := by decide +kernel
theorem dX12_skill_35 : decode cX12_skill 35 = .ok (.getfield 156, 3) := by decide +kernel
theorem dX12_skill_38 : decode cX12_skill 38 = .ok (.iload_n 1, 1) := by decide +kernel
theorem dX12_skill_39 : decode cX12_skill 39 = .ok (.iload_n 2, 1) := by decide +kernel
theorem dX12_skill_40 : decode cX12_skill 40 = .ok (.iastore, 1) := by decide +kernel
theorem dX12_skill_41 : decode cX12_skill 41 = .ok (.aload_n 0, 1) := by decide +kernel
theorem dX12_skill_42 : decode cX12_skill 42 = .ok (.getfield 159, 3) := by decide +kernel
theorem dX12_skill_45 : decode cX12_skill 45 = .ok (.iload_n 1, 1) := by decide +kernel
theorem dX12_skill_46 : decode cX12_skill 46 = .ok (.iload_n 3, 1) := by decide +kernel
theorem dX12_skill_47 : decode cX12_skill 47 = .ok (.iastore, 1) := by decide +kernel
theorem dX12_skill_48 : decode cX12_skill 48 = .ok (.iconst 1, 1) := by decide +kernel
theorem dX12_skill_49 : decode cX12_skill 49 = .ok (.ireturn, 1) := by decide +kernel
theorem dX12_standing_0 : decode cX12_standing 0 = .ok (.aload_n 0, 1) := by decide +kernel
theorem dX12_standing_1 : decode cX12_standing 1 = .ok (.iconst 0, 1) := by decide +kernel
theorem dX12_standing_2 : decode cX12_standing 2 = .ok (.putfield 214, 3) := by decide +kernel
theorem dX12_standing_5 : decode cX12_standing 5 = .ok (.iload_n 1, 1) := by decide +kernel
theorem dX12_standing_6 : decode cX12_standing 6 = .ok (.iconst (-1), 1) := by decide +kernel
theorem dX12_standing_7 : decode cX12_standing 7 = .ok (.if_icmp .eq 10, 3) := by decide +kernel
theorem dX12_standing_10 : decode cX12_standing 10 = .ok (.iload_n 1, 1) := by decide +kernel
theorem dX12_standing_11 : decode cX12_standing 11 = .ok (.invokestatic 225, 3) := by decide +kernel
theorem dX12_standing_14 : decode cX12_standing 14 = .ok (.ifCond .eq 15, 3) := by decide +kernel
theorem dX12_standing_17 : decode cX12_standing 17 = .ok (.aload_n 0, 1) := by decide +kernel
theorem dX12_standing_18 : decode cX12_standing 18 = .ok (.aload_n 0, 1) := by decide +kernel
theorem dX12_standing_19 : decode cX12_standing 19 = .ok (.iload_n 1, 1) := by decide +kernel
theorem dX12_standing_20 : decode cX12_standing 20 = .ok (.invokevirtual 511, 3) := by decide +kernel
theorem dX12_standing_23 : decode cX12_standing 23 = .ok (.invokevirtual 515, 3) := by decide +kernel
theorem dX12_standing_26 : decode cX12_standing 26 = .ok (.goto 4, 3) := by decide +kernel
theorem dX12_standing_29 : decode cX12_standing 29 = .ok (.iconst (-1), 1) := by decide +kernel
theorem dX12_standing_30 : decode cX12_standing 30 = .ok (.ireturn, 1) := by decide +kernel
theorem dX12_standsWithout_0 : decode cX12_standsWithout 0 = .ok (.iconst 0, 1) := by decide +kernel
theorem dX12_standsWithout_1 : decode cX12_standsWithout 1 = .ok (.istore_n 3, 1) := by decide +kernel
theorem dX12_standsWithout_2 : decode cX12_standsWithout 2 = .ok (.iconst 1, 1) := by decide +kernel
theorem dX12_standsWithout_3 : decode cX12_standsWithout 3 = .ok (.istore 4, 2) := by decide +kernel
theorem dX12_standsWithout_5 : decode cX12_standsWithout 5 = .ok (.iload 4, 2) := by decide +kernel
theorem dX12_standsWithout_7 : decode cX12_standsWithout 7 = .ok (.ifCond .eq 88, 3) := by decide +kernel
theorem dX12_standsWithout_10 : decode cX12_standsWithout 10 = .ok (.iconst 0, 1) := by decide +kernel
theorem dX12_standsWithout_11 : decode cX12_standsWithout 11 = .ok (.istore 4, 2) := by decide +kernel
theorem dX12_standsWithout_13 : decode cX12_standsWithout 13 = .ok (.iconst 0, 1) := by decide +kernel
theorem dX12_standsWithout_14 : decode cX12_standsWithout 14 = .ok (.istore 5, 2) := by decide +kernel
theorem dX12_standsWithout_16 : decode cX12_standsWithout 16 = .ok (.iload 5, 2) := by decide +kernel
theorem dX12_standsWithout_18 : decode cX12_standsWithout 18 = .ok (.aload_n 0, 1) := by decide +kernel
theorem dX12_standsWithout_19 : decode cX12_standsWithout 19 = .ok (.getfield 508, 3) := by decide +kernel
theorem dX12_standsWithout_22 : decode cX12_standsWithout 22 = .ok (.if_icmp .ge 70, 3) := by decide +kernel
theorem dX12_standsWithout_25 : decode cX12_standsWithout 25 = .ok (.iload_n 3, 1) := by decide +kernel
theorem dX12_standsWithout_26 : decode cX12_standsWithout 26 = .ok (.aload_n 0, 1) := by decide +kernel
theorem dX12_standsWithout_27 : decode cX12_standsWithout 27 = .ok (.getfield 134, 3) := by decide +kernel
theorem dX12_standsWithout_30 : decode cX12_standsWithout 30 = .ok (.iload 5, 2) := by decide +kernel
theorem dX12_standsWithout_32 : decode cX12_standsWithout 32 = .ok (.iaload, 1) := by decide +kernel
theorem dX12_standsWithout_33 : decode cX12_standsWithout 33 = .ok (.ishr, 1) := by decide +kernel
theorem dX12_standsWithout_34 : decode cX12_standsWithout 34 = .ok (.iconst 1, 1) := by decide +kernel
theorem dX12_standsWithout_35 : decode cX12_standsWithout 35 = .ok (.iand, 1) := by decide +kernel
theorem dX12_standsWithout_36 : decode cX12_standsWithout 36 = .ok (.iconst 1, 1) := by decide +kernel
theorem dX12_standsWithout_37 : decode cX12_standsWithout 37 = .ok (.if_icmp .eq 49, 3) := by decide +kernel
theorem dX12_standsWithout_40 : decode cX12_standsWithout 40 = .ok (.aload_n 0, 1) := by decide +kernel
theorem dX12_standsWithout_41 : decode cX12_standsWithout 41 = .ok (.getfield 137, 3) := by decide +kernel
theorem dX12_standsWithout_44 : decode cX12_standsWithout 44 = .ok (.iload 5, 2) := by decide +kernel
theorem dX12_standsWithout_46 : decode cX12_standsWithout 46 = .ok (.laload, 1) := by decide +kernel
theorem dX12_standsWithout_47 : decode cX12_standsWithout 47 = .ok (.lload_n 1, 1) := by decide +kernel
theorem dX12_standsWithout_48 : decode cX12_standsWithout 48 = .ok (.land, 1) := by decide +kernel
theorem dX12_standsWithout_49 : decode cX12_standsWithout 49 = .ok (.lconst 0, 1) := by decide +kernel
theorem dX12_standsWithout_50 : decode cX12_standsWithout 50 = .ok (.lcmp, 1) := by decide +kernel
theorem dX12_standsWithout_51 : decode cX12_standsWithout 51 = .ok (.ifCond .ne 35, 3) := by decide +kernel
theorem dX12_standsWithout_54 : decode cX12_standsWithout 54 = .ok (.aload_n 0, 1) := by decide +kernel
theorem dX12_standsWithout_55 : decode cX12_standsWithout 55 = .ok (.getfield 141, 3) := by decide +kernel
theorem dX12_standsWithout_58 : decode cX12_standsWithout 58 = .ok (.iload 5, 2) := by decide +kernel
theorem dX12_standsWithout_60 : decode cX12_standsWithout 60 = .ok (.iaload, 1) := by decide +kernel
theorem dX12_standsWithout_61 : decode cX12_standsWithout 61 = .ok (.iload_n 3, 1) := by decide +kernel
theorem dX12_standsWithout_62 : decode cX12_standsWithout 62 = .ok (.iconst (-1), 1) := by decide +kernel
theorem dX12_standsWithout_63 : decode cX12_standsWithout 63 = .ok (.ixor, 1) := by decide +kernel
theorem dX12_standsWithout_64 : decode cX12_standsWithout 64 = .ok (.iand, 1) := by decide +kernel
theorem dX12_standsWithout_65 : decode cX12_standsWithout 65 = .ok (.ifCond .eq 6, 3) := by decide +kernel
theorem dX12_standsWithout_68 : decode cX12_standsWithout 68 = .ok (.goto 18, 3) := by decide +kernel
theorem dX12_standsWithout_71 : decode cX12_standsWithout 71 = .ok (.iload_n 3, 1) := by decide +kernel
theorem dX12_standsWithout_72 : decode cX12_standsWithout 72 = .ok (.iconst 1, 1) := by decide +kernel
theorem dX12_standsWithout_73 : decode cX12_standsWithout 73 = .ok (.aload_n 0, 1) := by decide +kernel
theorem dX12_standsWithout_74 : decode cX12_standsWithout 74 = .ok (.getfield 134, 3) := by decide +kernel
theorem dX12_standsWithout_77 : decode cX12_standsWithout 77 = .ok (.iload 5, 2) := by decide +kernel
theorem dX12_standsWithout_79 : decode cX12_standsWithout 79 = .ok (.iaload, 1) := by decide +kernel
theorem dX12_standsWithout_80 : decode cX12_standsWithout 80 = .ok (.ishl, 1) := by decide +kernel
theorem dX12_standsWithout_81 : decode cX12_standsWithout 81 = .ok (.ior, 1) := by decide +kernel
theorem dX12_standsWithout_82 : decode cX12_standsWithout 82 = .ok (.istore_n 3, 1) := by decide +kernel
theorem dX12_standsWithout_83 : decode cX12_standsWithout 83 = .ok (.iconst 1, 1) := by decide +kernel
theorem dX12_standsWithout_84 : decode cX12_standsWithout 84 = .ok (.istore 4, 2) := by decide +kernel
theorem dX12_standsWithout_86 : decode cX12_standsWithout 86 = .ok (.iinc 5 1, 3) := by decide +kernel
theorem dX12_standsWithout_89 : decode cX12_standsWithout 89 = .ok (.goto (-73), 3) := by decide +kernel
theorem dX12_standsWithout_92 : decode cX12_standsWithout 92 = .ok (.goto (-87), 3) := by decide +kernel
theorem dX12_standsWithout_95 : decode cX12_standsWithout 95 = .ok (.iload_n 3, 1) := by decide +kernel
theorem dX12_standsWithout_96 : decode cX12_standsWithout 96 = .ok (.ireturn, 1) := by decide +kernel
theorem dX12_stops_0 : decode cX12_stops 0 = .ok (.aload_n 0, 1) := by decide +kernel
theorem dX12_stops_1 : decode cX12_stops 1 = .ok (.iconst 0, 1) := by decide +kernel
theorem dX12_stops_2 : decode cX12_stops 2 = .ok (.putfield 214, 3) := by decide +kernel
theorem dX12_stops_5 : decode cX12_stops 5 = .ok (.aload_n 0, 1) := by decide +kernel
theorem dX12_stops_6 : decode cX12_stops 6 = .ok (.iload_n 2, 1) := by decide +kernel
theorem dX12_stops_7 : decode cX12_stops 7 = .ok (.invokevirtual 249, 3) := by decide +kernel
theorem dX12_stops_10 : decode cX12_stops 10 = .ok (.ifCond .eq 25, 3) := by decide +kernel
theorem dX12_stops_13 : decode cX12_stops 13 = .ok (.iload_n 1, 1) := by decide +kernel
theorem dX12_stops_14 : decode cX12_stops 14 = .ok (.iconst 0, 1) := by decide +kernel
theorem dX12_stops_15 : decode cX12_stops 15 = .ok (.bipush 7, 2) := by decide +kernel
theorem dX12_stops_17 : decode cX12_stops 17 = .ok (.invokestatic 221, 3) := by decide +kernel
theorem dX12_stops_20 : decode cX12_stops 20 = .ok (.ifCond .eq 15, 3) := by decide +kernel
theorem dX12_stops_23 : decode cX12_stops 23 = .ok (.aload_n 0, 1) := by decide +kernel
theorem dX12_stops_24 : decode cX12_stops 24 = .ok (.getfield 55, 3) := by decide +kernel
theorem dX12_stops_27 : decode cX12_stops 27 = .ok (.bipush 12, 2) := by decide +kernel
theorem dX12_stops_29 : decode cX12_stops 29 = .ok (.iload_n 1, 1) := by decide +kernel
theorem dX12_stops_30 : decode cX12_stops 30 = .ok (.iadd, 1) := by decide +kernel
theorem dX12_stops_31 : decode cX12_stops 31 = .ok (.baload, 1) := by decide +kernel
theorem dX12_stops_32 : decode cX12_stops 32 = .ok (.ifCond .ne 5, 3) := by decide +kernel
theorem dX12_stops_35 : decode cX12_stops 35 = .ok (.iconst (-1), 1) := by decide +kernel
theorem dX12_stops_36 : decode cX12_stops 36 = .ok (.ireturn, 1) := by decide +kernel
theorem dX12_stops_37 : decode cX12_stops 37 = .ok (.aload_n 0, 1) := by decide +kernel
theorem dX12_stops_38 : decode cX12_stops 38 = .ok (.iload_n 1, 1) := by decide +kernel
theorem dX12_stops_39 : decode cX12_stops 39 = .ok (.iload_n 2, 1) := by decide +kernel
theorem dX12_stops_40 : decode cX12_stops 40 = .ok (.invokevirtual 441, 3) := by decide +kernel
theorem dX12_stops_43 : decode cX12_stops 43 = .ok (.ifCond .eq 7, 3) := by decide +kernel
theorem dX12_stops_46 : decode cX12_stops 46 = .ok (.iconst 1, 1) := by decide +kernel
theorem dX12_stops_47 : decode cX12_stops 47 = .ok (.goto 4, 3) := by decide +kernel
theorem dX12_stops_50 : decode cX12_stops 50 = .ok (.iconst 0, 1) := by decide +kernel
theorem dX12_stops_51 : decode cX12_stops 51 = .ok (.ireturn, 1) := by decide +kernel
theorem dX12_stopsAll_0 : decode cX12_stopsAll 0 = .ok (.iconst 0, 1) := by decide +kernel
theorem dX12_stopsAll_1 : decode cX12_stopsAll 1 = .ok (.istore_n 2, 1) := by decide +kernel
theorem dX12_stopsAll_2 : decode cX12_stopsAll 2 = .ok (.iload_n 2, 1) := by decide +kernel
theorem dX12_stopsAll_3 : decode cX12_stopsAll 3 = .ok (.aload_n 0, 1) := by decide +kernel
theorem dX12_stopsAll_4 : decode cX12_stopsAll 4 = .ok (.getfield 235, 3) := by decide +kernel
theorem dX12_stopsAll_7 : decode cX12_stopsAll 7 = .ok (.if_icmp .ge 88, 3) := by decide +kernel
theorem dX12_stopsAll_10 : decode cX12_stopsAll 10 = .ok (.aload_n 0, 1) := by decide +kernel
theorem dX12_stopsAll_11 : decode cX12_stopsAll 11 = .ok (.getfield 502, 3) := by decide +kernel
theorem dX12_stopsAll_14 : decode cX12_stopsAll 14 = .ok (.iload_n 2, 1) := by decide +kernel
theorem dX12_stopsAll_15 : decode cX12_stopsAll 15 = .ok (.lshr, 1) := by decide +kernel
theorem dX12_stopsAll_16 : decode cX12_stopsAll 16 = .ok (.lconst 1, 1) := by decide +kernel
theorem dX12_stopsAll_17 : decode cX12_stopsAll 17 = .ok (.land, 1) := by decide +kernel
theorem dX12_stopsAll_18 : decode cX12_stopsAll 18 = .ok (.lconst 0, 1) := by decide +kernel
theorem dX12_stopsAll_19 : decode cX12_stopsAll 19 = .ok (.lcmp, 1) := by decide +kernel
theorem dX12_stopsAll_20 : decode cX12_stopsAll 20 = .ok (.ifCond .eq 69, 3) := by decide +kernel
theorem dX12_stopsAll_23 : decode cX12_stopsAll 23 = .ok (.aload_n 0, 1) := by decide +kernel
theorem dX12_stopsAll_24 : decode cX12_stopsAll 24 = .ok (.getfield 125, 3) := by decide +kernel
theorem dX12_stopsAll_27 : decode cX12_stopsAll 27 = .ok (.iload_n 2, 1) := by decide +kernel
theorem dX12_stopsAll_28 : decode cX12_stopsAll 28 = .ok (.iaload, 1) := by decide +kernel
theorem dX12_stopsAll_29 : decode cX12_stopsAll 29 = .ok (.ifCond .ne 6, 3) := by decide +kernel
theorem dX12_stopsAll_32 : decode cX12_stopsAll 32 = .ok (.goto 57, 3) := by decide +kernel
theorem dX12_stopsAll_35 : decode cX12_stopsAll 35 = .ok (.iconst 0, 1) := by decide +kernel
theorem dX12_stopsAll_36 : decode cX12_stopsAll 36 = .ok (.istore_n 3, 1) := by decide +kernel
theorem dX12_stopsAll_37 : decode cX12_stopsAll 37 = .ok (.iconst 0, 1) := by decide +kernel
theorem dX12_stopsAll_38 : decode cX12_stopsAll 38 = .ok (.istore 4, 2) := by decide +kernel
theorem dX12_stopsAll_40 : decode cX12_stopsAll 40 = .ok (.iload 4, 2) := by decide +kernel
theorem dX12_stopsAll_42 : decode cX12_stopsAll 42 = .ok (.bipush 8, 2) := by decide +kernel
theorem dX12_stopsAll_44 : decode cX12_stopsAll 44 = .ok (.if_icmp .ge 39, 3) := by decide +kernel
theorem dX12_stopsAll_47 : decode cX12_stopsAll 47 = .ok (.iload_n 3, 1) := by decide +kernel
theorem dX12_stopsAll_48 : decode cX12_stopsAll 48 = .ok (.ifCond .ne 23, 3) := by decide +kernel
theorem dX12_stopsAll_51 : decode cX12_stopsAll 51 = .ok (.iload_n 1, 1) := by decide +kernel
theorem dX12_stopsAll_52 : decode cX12_stopsAll 52 = .ok (.iload 4, 2) := by decide +kernel
theorem dX12_stopsAll_54 : decode cX12_stopsAll 54 = .ok (.ishr, 1) := by decide +kernel
theorem dX12_stopsAll_55 : decode cX12_stopsAll 55 = .ok (.iconst 1, 1) := by decide +kernel
theorem dX12_stopsAll_56 : decode cX12_stopsAll 56 = .ok (.iand, 1) := by decide +kernel
theorem dX12_stopsAll_57 : decode cX12_stopsAll 57 = .ok (.iconst 1, 1) := by decide +kernel
theorem dX12_stopsAll_58 : decode cX12_stopsAll 58 = .ok (.if_icmp .ne 17, 3) := by decide +kernel
theorem dX12_stopsAll_61 : decode cX12_stopsAll 61 = .ok (.aload_n 0, 1) := by decide +kernel
theorem dX12_stopsAll_62 : decode cX12_stopsAll 62 = .ok (.iload 4, 2) := by decide +kernel
theorem dX12_stopsAll_64 : decode cX12_stopsAll 64 = .ok (.iload_n 2, 1) := by decide +kernel
theorem dX12_stopsAll_65 : decode cX12_stopsAll 65 = .ok (.invokevirtual 441, 3) := by decide +kernel
theorem dX12_stopsAll_68 : decode cX12_stopsAll 68 = .ok (.ifCond .eq 7, 3) := by decide +kernel
theorem dX12_stopsAll_71 : decode cX12_stopsAll 71 = .ok (.iconst 1, 1) := by decide +kernel
theorem dX12_stopsAll_72 : decode cX12_stopsAll 72 = .ok (.goto 4, 3) := by decide +kernel
theorem dX12_stopsAll_75 : decode cX12_stopsAll 75 = .ok (.iconst 0, 1) := by decide +kernel
theorem dX12_stopsAll_76 : decode cX12_stopsAll 76 = .ok (.istore_n 3, 1) := by decide +kernel
theorem dX12_stopsAll_77 : decode cX12_stopsAll 77 = .ok (.iinc 4 1, 3) := by decide +kernel
theorem dX12_stopsAll_80 : decode cX12_stopsAll 80 = .ok (.goto (-40), 3) := by decide +kernel
theorem dX12_stopsAll_83 : decode cX12_stopsAll 83 = .ok (.iload_n 3, 1) := by decide +kernel
theorem dX12_stopsAll_84 : decode cX12_stopsAll 84 = .ok (.ifCond .ne 5, 3) := by decide +kernel
theorem dX12_stopsAll_87 : decode cX12_stopsAll 87 = .ok (.iconst 0, 1) := by decide +kernel
theorem dX12_stopsAll_88 : decode cX12_stopsAll 88 = .ok (.ireturn, 1) := by decide +kernel
theorem dX12_stopsAll_89 : decode cX12_stopsAll 89 = .ok (.iinc 2 1, 3) := by decide +kernel
theorem dX12_stopsAll_92 : decode cX12_stopsAll 92 = .ok (.goto (-90), 3) := by decide +kernel
theorem dX12_stopsAll_95 : decode cX12_stopsAll 95 = .ok (.iconst 1, 1) := by decide +kernel
theorem dX12_stopsAll_96 : decode cX12_stopsAll 96 = .ok (.ireturn, 1) := by decide +kernel
theorem dX12_stories_0 : decode cX12_stories 0 = .ok (.aload_n 0, 1) := by decide +kernel
theorem dX12_stories_1 : decode cX12_stories 1 = .ok (.iconst 0, 1) := by decide +kernel
theorem dX12_stories_2 : decode cX12_stories 2 = .ok (.putfield 214, 3) := by decide +kernel
theorem dX12_stories_5 : decode cX12_stories 5 = .ok (.iload_n 1, 1) := by decide +kernel
theorem dX12_stories_6 : decode cX12_stories 6 = .ok (.iconst 0, 1) := by decide +kernel
theorem dX12_stories_7 : decode cX12_stories 7 = .ok (.iconst 4, 1) := by decide +kernel
theorem dX12_stories_8 : decode cX12_stories 8 = .ok (.invokestatic 221, 3) := by decide +kernel
theorem dX12_stories_11 : decode cX12_stories 11 = .ok (.ifCond .ne 5, 3) := by decide +kernel
theorem dX12_stories_14 : decode cX12_stories 14 = .ok (.iconst (-1), 1) := by decide +kernel
theorem dX12_stories_15 : decode cX12_stories 15 = .ok (.ireturn, 1) := by decide +kernel
theorem dX12_stories_16 : decode cX12_stories 16 = .ok (.aload_n 0, 1) := by decide +kernel
theorem dX12_stories_17 : decode cX12_stories 17 = .ok (.invokevirtual 505, 3) := by decide +kernel
theorem dX12_stories_20 : decode cX12_stories 20 = .ok (.iload_n 1, 1) := by decide +kernel
theorem dX12_stories_21 : decode cX12_stories 21 = .ok (.ifCond .ne 8, 3) := by decide +kernel
theorem dX12_stories_24 : decode cX12_stories 24 = .ok (.aload_n 0, 1) := by decide +kernel
theorem dX12_stories_25 : decode cX12_stories 25 = .ok (.getfield 484, 3) := by decide +kernel
theorem dX12_stories_28 : decode cX12_stories 28 = .ok (.ireturn, 1) := by decide +kernel
theorem dX12_stories_29 : decode cX12_stories 29 = .ok (.aload_n 0, 1) := by decide +kernel
theorem dX12_stories_30 : decode cX12_stories 30 = .ok (.getfield 484, 3) := by decide +kernel
theorem dX12_stories_33 : decode cX12_stories 33 = .ok (.ifCond .ne 5, 3) := by decide +kernel
theorem dX12_stories_36 : decode cX12_stories 36 = .ok (.iconst (-1), 1) := by decide +kernel
theorem dX12_stories_37 : decode cX12_stories 37 = .ok (.ireturn, 1) := by decide +kernel
theorem dX12_stories_38 : decode cX12_stories 38 = .ok (.iload_n 1, 1) := by decide +kernel
theorem dX12_stories_39 : decode cX12_stories 39 = .ok (.iconst 1, 1) := by decide +kernel
theorem dX12_stories_40 : decode cX12_stories 40 = .ok (.if_icmp .ne 10, 3) := by decide +kernel
theorem dX12_stories_43 : decode cX12_stories 43 = .ok (.aload_n 0, 1) := by decide +kernel
theorem dX12_stories_44 : decode cX12_stories 44 = .ok (.getfield 487, 3) := by decide +kernel
theorem dX12_stories_47 : decode cX12_stories 47 = .ok (.goto 31, 3) := by decide +kernel
theorem dX12_stories_50 : decode cX12_stories 50 = .ok (.iload_n 1, 1) := by decide +kernel
theorem dX12_stories_51 : decode cX12_stories 51 = .ok (.iconst 2, 1) := by decide +kernel
theorem dX12_stories_52 : decode cX12_stories 52 = .ok (.if_icmp .ne 10, 3) := by decide +kernel
theorem dX12_stories_55 : decode cX12_stories 55 = .ok (.aload_n 0, 1) := by decide +kernel
theorem dX12_stories_56 : decode cX12_stories 56 = .ok (.getfield 490, 3) := by decide +kernel
theorem dX12_stories_59 : decode cX12_stories 59 = .ok (.goto 19, 3) := by decide +kernel
theorem dX12_stories_62 : decode cX12_stories 62 = .ok (.iload_n 1, 1) := by decide +kernel
theorem dX12_stories_63 : decode cX12_stories 63 = .ok (.iconst 3, 1) := by decide +kernel
theorem dX12_stories_64 : decode cX12_stories 64 = .ok (.if_icmp .ne 10, 3) := by decide +kernel
theorem dX12_stories_67 : decode cX12_stories 67 = .ok (.aload_n 0, 1) := by decide +kernel
theorem dX12_stories_68 : decode cX12_stories 68 = .ok (.getfield 493, 3) := by decide +kernel
theorem dX12_stories_71 : decode cX12_stories 71 = .ok (.goto 7, 3) := by decide +kernel
theorem dX12_stories_74 : decode cX12_stories 74 = .ok (.aload_n 0, 1) := by decide +kernel
theorem dX12_stories_75 : decode cX12_stories 75 = .ok (.getfield 496, 3) := by decide +kernel
theorem dX12_stories_78 : decode cX12_stories 78 = .ok (.ireturn, 1) := by decide +kernel
theorem dX12_sums_0 : decode cX12_sums 0 = .ok (.aload_n 0, 1) := by decide +kernel
theorem dX12_sums_1 : decode cX12_sums 1 = .ok (.getfield 95, 3) := by decide +kernel
theorem dX12_sums_4 : decode cX12_sums 4 = .ok (.iload_n 1, 1) := by decide +kernel
theorem dX12_sums_5 : decode cX12_sums 5 = .ok (.aload_n 0, 1) := by decide +kernel
theorem dX12_sums_6 : decode cX12_sums 6 = .ok (.getfield 98, 3) := by decide +kernel
theorem dX12_sums_9 : decode cX12_sums 9 = .ok (.iload_n 1, 1) := by decide +kernel
theorem dX12_sums_10 : decode cX12_sums 10 = .ok (.iaload, 1) := by decide +kernel
theorem dX12_sums_11 : decode cX12_sums 11 = .ok (.bipush 21, 2) := by decide +kernel
theorem dX12_sums_13 : decode cX12_sums 13 = .ok (.if_icmp .ne 19, 3) := by decide +kernel
theorem dX12_sums_16 : decode cX12_sums 16 = .ok (.aload_n 0, 1) := by decide +kernel
theorem dX12_sums_17 : decode cX12_sums 17 = .ok (.getfield 95, 3) := by decide +kernel
theorem dX12_sums_20 : decode cX12_sums 20 = .ok (.iload_n 1, 1) := by decide +kernel
theorem dX12_sums_21 : decode cX12_sums 21 = .ok (.iaload, 1) := by decide +kernel
theorem dX12_sums_22 : decode cX12_sums 22 = .ok (.aload_n 0, 1) := by decide +kernel
theorem dX12_sums_23 : decode cX12_sums 23 = .ok (.getfield 101, 3) := by decide +kernel
theorem dX12_sums_26 : decode cX12_sums 26 = .ok (.iload_n 1, 1) := by decide +kernel
theorem dX12_sums_27 : decode cX12_sums 27 = .ok (.iaload, 1) := by decide +kernel
theorem dX12_sums_28 : decode cX12_sums 28 = .ok (.isub, 1) := by decide +kernel
theorem dX12_sums_29 : decode cX12_sums 29 = .ok (.goto 16, 3) := by decide +kernel
theorem dX12_sums_32 : decode cX12_sums 32 = .ok (.aload_n 0, 1) := by decide +kernel
theorem dX12_sums_33 : decode cX12_sums 33 = .ok (.getfield 95, 3) := by decide +kernel
theorem dX12_sums_36 : decode cX12_sums 36 = .ok (.iload_n 1, 1) := by decide +kernel
theorem dX12_sums_37 : decode cX12_sums 37 = .ok (.iaload, 1) := by decide +kernel
theorem dX12_sums_38 : decode cX12_sums 38 = .ok (.aload_n 0, 1) := by decide +kernel
theorem dX12_sums_39 : decode cX12_sums 39 = .ok (.getfield 101, 3) := by decide +kernel
theorem dX12_sums_42 : decode cX12_sums 42 = .ok (.iload_n 1, 1) := by decide +kernel
theorem dX12_sums_43 : decode cX12_sums 43 = .ok (.iaload, 1) := by decide +kernel
theorem dX12_sums_44 : decode cX12_sums 44 = .ok (.iadd, 1) := by decide +kernel
theorem dX12_sums_45 : decode cX12_sums 45 = .ok (.iastore, 1) := by decide +kernel
theorem dX12_sums_46 : decode cX12_sums 46 = .ok (.aload_n 0, 1) := by decide +kernel
theorem dX12_sums_47 : decode cX12_sums 47 = .ok (.getfield 104, 3) := by decide +kernel
theorem dX12_sums_50 : decode cX12_sums 50 = .ok (.iload_n 1, 1) := by decide +kernel
theorem dX12_sums_51 : decode cX12_sums 51 = .ok (.iconst 0, 1) := by decide +kernel
theorem dX12_sums_52 : decode cX12_sums 52 = .ok (.iastore, 1) := by decide +kernel
theorem dX12_sums_53 : decode cX12_sums 53 = .ok (.return_, 1) := by decide +kernel
theorem dX12_takes_0 : decode cX12_takes 0 = .ok (.aload_n 0, 1) := by decide +kernel
theorem dX12_takes_1 : decode cX12_takes 1 = .ok (.getfield 19, 3) := by decide +kernel
theorem dX12_takes_4 : decode cX12_takes 4 = .ok (.iload_n 1, 1) := by decide +kernel
theorem dX12_takes_5 : decode cX12_takes 5 = .ok (.iaload, 1) := by decide +kernel
theorem dX12_takes_6 : decode cX12_takes 6 = .ok (.istore 5, 2) := by decide +kernel
theorem dX12_takes_8 : decode cX12_takes 8 = .ok (.aload_n 0, 1) := by decide +kernel
theorem dX12_takes_9 : decode cX12_takes 9 = .ok (.getfield 16, 3) := by decide +kernel
theorem dX12_takes_12 : decode cX12_takes 12 = .ok (.iload_n 1, 1) := by decide +kernel
theorem dX12_takes_13 : decode cX12_takes 13 = .ok (.iaload, 1) := by decide +kernel
theorem dX12_takes_14 : decode cX12_takes 14 = .ok (.istore 6, 2) := by decide +kernel
theorem dX12_takes_16 : decode cX12_takes 16 = .ok (.aload_n 0, 1) := by decide +kernel
theorem dX12_takes_17 : decode cX12_takes 17 = .ok (.iload 5, 2) := by decide +kernel
theorem dX12_takes_19 : decode cX12_takes 19 = .ok (.aload_n 0, 1) := by decide +kernel
theorem dX12_takes_20 : decode cX12_takes 20 = .ok (.getfield 22, 3) := by decide +kernel
theorem dX12_takes_23 : decode cX12_takes 23 = .ok (.iload_n 1, 1) := by decide +kernel
theorem dX12_takes_24 : decode cX12_takes 24 = .ok (.iaload, 1) := by decide +kernel
theorem dX12_takes_25 : decode cX12_takes 25 = .ok (.iload_n 2, 1) := by decide +kernel
theorem dX12_takes_26 : decode cX12_takes 26 = .ok (.invokevirtual 231, 3) := by decide +kernel
theorem dX12_takes_29 : decode cX12_takes 29 = .ok (.istore 7, 2) := by decide +kernel
theorem dX12_takes_31 : decode cX12_takes 31 = .ok (.iconst 0, 1) := by decide +kernel
theorem dX12_takes_32 : decode cX12_takes 32 = .ok (.istore 8, 2) := by decide +kernel
theorem dX12_takes_34 : decode cX12_takes 34 = .ok (.iconst 0, 1) := by decide +kernel
theorem dX12_takes_35 : decode cX12_takes 35 = .ok (.istore 9, 2) := by decide +kernel
theorem dX12_takes_37 : decode cX12_takes 37 = .ok (.iload 9, 2) := by decide +kernel
theorem dX12_takes_39 : decode cX12_takes 39 = .ok (.bipush 8, 2) := by decide +kernel
theorem dX12_takes_41 : decode cX12_takes 41 = .ok (.if_icmp .ge 51, 3) := by decide +kernel
theorem dX12_takes_44 : decode cX12_takes 44 = .ok (.iload 8, 2) := by decide +kernel
theorem dX12_takes_46 : decode cX12_takes 46 = .ok (.aload_n 0, 1) := by decide +kernel
theorem dX12_takes_47 : decode cX12_takes 47 = .ok (.invokevirtual 562, 3) := by decide +kernel
theorem dX12_takes_50 : decode cX12_takes 50 = .ok (.iload 4, 2) := by decide +kernel
theorem dX12_takes_52 : decode cX12_takes 52 = .ok (.ifCond .eq 13, 3) := by decide +kernel
theorem dX12_takes_55 : decode cX12_takes 55 = .ok (.aload_n 0, 1) := by decide +kernel
theorem dX12_takes_56 : decode cX12_takes 56 = .ok (.getfield 168, 3) := by decide +kernel
theorem dX12_takes_59 : decode cX12_takes 59 = .ok (.iload 9, 2) := by decide +kernel
theorem dX12_takes_61 : decode cX12_takes 61 = .ok (.iaload, 1) := by decide +kernel
theorem dX12_takes_62 : decode cX12_takes 62 = .ok (.goto 10, 3) := by decide +kernel
theorem dX12_takes_65 : decode cX12_takes 65 = .ok (.aload_n 0, 1) := by decide +kernel
theorem dX12_takes_66 : decode cX12_takes 66 = .ok (.getfield 165, 3) := by decide +kernel
theorem dX12_takes_69 : decode cX12_takes 69 = .ok (.iload 9, 2) := by decide +kernel
theorem dX12_takes_71 : decode cX12_takes 71 = .ok (.iaload, 1) := by decide +kernel
theorem dX12_takes_72 : decode cX12_takes 72 = .ok (.if_icmp .ge 10, 3) := by decide +kernel
theorem dX12_takes_75 : decode cX12_takes 75 = .ok (.iconst 1, 1) := by decide +kernel
theorem dX12_takes_76 : decode cX12_takes 76 = .ok (.iload 9, 2) := by decide +kernel
theorem dX12_takes_78 : decode cX12_takes 78 = .ok (.ishl, 1) := by decide +kernel
theorem dX12_takes_79 : decode cX12_takes 79 = .ok (.goto 4, 3) := by decide +kernel
theorem dX12_takes_82 : decode cX12_takes 82 = .ok (.iconst 0, 1) := by decide +kernel
theorem dX12_takes_83 : decode cX12_takes 83 = .ok (.ior, 1) := by decide +kernel
theorem dX12_takes_84 : decode cX12_takes 84 = .ok (.istore 8, 2) := by decide +kernel
theorem dX12_takes_86 : decode cX12_takes 86 = .ok (.iinc 9 1, 3) := by decide +kernel
theorem dX12_takes_89 : decode cX12_takes 89 = .ok (.goto (-52), 3) := by decide +kernel
theorem dX12_takes_92 : decode cX12_takes 92 = .ok (.aload_n 0, 1) := by decide +kernel
theorem dX12_takes_93 : decode cX12_takes 93 = .ok (.invokevirtual 562, 3) := by decide +kernel
theorem dX12_takes_96 : decode cX12_takes 96 = .ok (.bipush 10, 2) := by decide +kernel
theorem dX12_takes_98 : decode cX12_takes 98 = .ok (.imul, 1) := by decide +kernel
theorem dX12_takes_99 : decode cX12_takes 99 = .ok (.istore 9, 2) := by decide +kernel
theorem dX12_takes_101 : decode cX12_takes 101 = .ok (.iload 9, 2) := by decide +kernel
theorem dX12_takes_103 : decode cX12_takes 103 = .ok (.aload_n 0, 1) := by decide +kernel
theorem dX12_takes_104 : decode cX12_takes 104 = .ok (.invokevirtual 562, 3) := by decide +kernel
theorem dX12_takes_107 : decode cX12_takes 107 = .ok (.iadd, 1) := by decide +kernel
theorem dX12_takes_108 : decode cX12_takes 108 = .ok (.istore 9, 2) := by decide +kernel
theorem dX12_takes_110 : decode cX12_takes 110 = .ok (.iconst 0, 1) := by decide +kernel
theorem dX12_takes_111 : decode cX12_takes 111 = .ok (.istore 10, 2) := by decide +kernel
theorem dX12_takes_113 : decode cX12_takes 113 = .ok (.iconst 0, 1) := by decide +kernel
theorem dX12_takes_114 : decode cX12_takes 114 = .ok (.istore 11, 2) := by decide +kernel
theorem dX12_takes_116 : decode cX12_takes 116 = .ok (.iload 11, 2) := by decide +kernel
theorem dX12_takes_118 : decode cX12_takes 118 = .ok (.aload_n 0, 1) := by decide +kernel
theorem dX12_takes_119 : decode cX12_takes 119 = .ok (.getfield 568, 3) := by decide +kernel
theorem dX12_takes_122 : decode cX12_takes 122 = .ok (.if_icmp .ge 41, 3) := by decide +kernel
theorem dX12_takes_125 : decode cX12_takes 125 = .ok (.iload 10, 2) := by decide +kernel
theorem dX12_takes_127 : decode cX12_takes 127 = .ok (.aload_n 0, 1) := by decide +kernel
theorem dX12_takes_128 : decode cX12_takes 128 = .ok (.getfield 192, 3) := by decide +kernel
theorem dX12_takes_131 : decode cX12_takes 131 = .ok (.iload 11, 2) := by decide +kernel
theorem dX12_takes_133 : decode cX12_takes 133 = .ok (.iaload, 1) := by decide +kernel
theorem dX12_takes_134 : decode cX12_takes 134 = .ok (.aload_n 0, 1) := by decide +kernel
theorem dX12_takes_135 : decode cX12_takes 135 = .ok (.getfield 7, 3) := by decide +kernel
theorem dX12_takes_138 : decode cX12_takes 138 = .ok (.bipush 10, 2) := by decide +kernel
theorem dX12_takes_140 : decode cX12_takes 140 = .ok (.iload 5, 2) := by decide +kernel
theorem dX12_takes_142 : decode cX12_takes 142 = .ok (.imul, 1) := by decide +kernel
theorem dX12_takes_143 : decode cX12_takes 143 = .ok (.iload_n 3, 1) := by decide +kernel
theorem dX12_takes_144 : decode cX12_takes 144 = .ok (.iadd, 1) := by decide +kernel
theorem dX12_takes_145 : decode cX12_takes 145 = .ok (.iaload, 1) := by decide +kernel
theorem dX12_takes_146 : decode cX12_takes 146 = .ok (.if_icmp .lt 7, 3) := by decide +kernel
theorem dX12_takes_149 : decode cX12_takes 149 = .ok (.iconst 1, 1) := by decide +kernel
theorem dX12_takes_150 : decode cX12_takes 150 = .ok (.goto 4, 3) := by decide +kernel
theorem dX12_takes_153 : decode cX12_takes 153 = .ok (.iconst 0, 1) := by decide +kernel
theorem dX12_takes_154 : decode cX12_takes 154 = .ok (.iadd, 1) := by decide +kernel
theorem dX12_takes_155 : decode cX12_takes 155 = .ok (.istore 10, 2) := by decide +kernel
theorem dX12_takes_157 : decode cX12_takes 157 = .ok (.iinc 11 1, 3) := by decide +kernel
theorem dX12_takes_160 : decode cX12_takes 160 = .ok (.goto (-44), 3) := by decide +kernel
theorem dX12_takes_163 : decode cX12_takes 163 = .ok (.iconst 0, 1) := by decide +kernel
theorem dX12_takes_164 : decode cX12_takes 164 = .ok (.istore 11, 2) := by decide +kernel
theorem dX12_takes_166 : decode cX12_takes 166 = .ok (.iconst 0, 1) := by decide +kernel
theorem dX12_takes_167 : decode cX12_takes 167 = .ok (.istore 12, 2) := by decide +kernel
theorem dX12_takes_169 : decode cX12_takes 169 = .ok (.iload 12, 2) := by decide +kernel
theorem dX12_takes_171 : decode cX12_takes 171 = .ok (.iload_n 2, 1) := by decide +kernel
theorem dX12_takes_172 : decode cX12_takes 172 = .ok (.if_icmp .ge 40, 3) := by decide +kernel
theorem dX12_takes_175 : decode cX12_takes 175 = .ok (.iload 11, 2) := by decide +kernel
theorem dX12_takes_177 : decode cX12_takes 177 = .ok (.aload_n 0, 1) := by decide +kernel
theorem dX12_takes_178 : decode cX12_takes 178 = .ok (.iload 5, 2) := by decide +kernel
theorem dX12_takes_180 : decode cX12_takes 180 = .ok (.aload_n 0, 1) := by decide +kernel
theorem dX12_takes_181 : decode cX12_takes 181 = .ok (.getfield 22, 3) := by decide +kernel
theorem dX12_takes_184 : decode cX12_takes 184 = .ok (.iload_n 1, 1) := by decide +kernel
theorem dX12_takes_185 : decode cX12_takes 185 = .ok (.iaload, 1) := by decide +kernel
theorem dX12_takes_186 : decode cX12_takes 186 = .ok (.iload 12, 2) := by decide +kernel
theorem dX12_takes_188 : decode cX12_takes 188 = .ok (.invokevirtual 231, 3) := by decide +kernel
theorem dX12_takes_191 : decode cX12_takes 191 = .ok (.iconst 1, 1) := by decide +kernel
theorem dX12_takes_192 : decode cX12_takes 192 = .ok (.iload 6, 2) := by decide +kernel
theorem dX12_takes_194 : decode cX12_takes 194 = .ok (.ishl, 1) := by decide +kernel
theorem dX12_takes_195 : decode cX12_takes 195 = .ok (.if_icmp .ne 7, 3) := by decide +kernel
theorem dX12_takes_198 : decode cX12_takes 198 = .ok (.iconst 1, 1) := by decide +kernel
theorem dX12_takes_199 : decode cX12_takes 199 = .ok (.goto 4, 3) := by decide +kernel
theorem dX12_takes_202 : decode cX12_takes 202 = .ok (.iconst 0, 1) := by decide +kernel
theorem dX12_takes_203 : decode cX12_takes 203 = .ok (.iadd, 1) := by decide +kernel
theorem dX12_takes_204 : decode cX12_takes 204 = .ok (.istore 11, 2) := by decide +kernel
theorem dX12_takes_206 : decode cX12_takes 206 = .ok (.iinc 12 1, 3) := by decide +kernel
theorem dX12_takes_209 : decode cX12_takes 209 = .ok (.goto (-40), 3) := by decide +kernel
theorem dX12_takes_212 : decode cX12_takes 212 = .ok (.iconst 0, 1) := by decide +kernel
theorem dX12_takes_213 : decode cX12_takes 213 = .ok (.istore 12, 2) := by decide +kernel
theorem dX12_takes_215 : decode cX12_takes 215 = .ok (.iload 12, 2) := by decide +kernel
theorem dX12_takes_217 : decode cX12_takes 217 = .ok (.bipush 8, 2) := by decide +kernel
theorem dX12_takes_219 : decode cX12_takes 219 = .ok (.if_icmp .ge 25, 3) := by decide +kernel
theorem dX12_takes_222 : decode cX12_takes 222 = .ok (.aload_n 0, 1) := by decide +kernel
theorem dX12_takes_223 : decode cX12_takes 223 = .ok (.getfield 110, 3) := by decide +kernel
theorem dX12_takes_226 : decode cX12_takes 226 = .ok (.iconst 1, 1) := by decide +kernel
theorem dX12_takes_227 : decode cX12_takes 227 = .ok (.iload 12, 2) := by decide +kernel
theorem dX12_takes_229 : decode cX12_takes 229 = .ok (.iadd, 1) := by decide +kernel
theorem dX12_takes_230 : decode cX12_takes 230 = .ok (.iload 8, 2) := by decide +kernel
theorem dX12_takes_232 : decode cX12_takes 232 = .ok (.iload 12, 2) := by decide +kernel
theorem dX12_takes_234 : decode cX12_takes 234 = .ok (.ishr, 1) := by decide +kernel
theorem dX12_takes_235 : decode cX12_takes 235 = .ok (.iconst 1, 1) := by decide +kernel
theorem dX12_takes_236 : decode cX12_takes 236 = .ok (.iand, 1) := by decide +kernel
theorem dX12_takes_237 : decode cX12_takes 237 = .ok (.iastore, 1) := by decide +kernel
theorem dX12_takes_238 : decode cX12_takes 238 = .ok (.iinc 12 1, 3) := by decide +kernel
theorem dX12_takes_241 : decode cX12_takes 241 = .ok (.goto (-26), 3) := by decide +kernel
theorem dX12_takes_244 : decode cX12_takes 244 = .ok (.aload_n 0, 1) := by decide +kernel
theorem dX12_takes_245 : decode cX12_takes 245 = .ok (.getfield 110, 3) := by decide +kernel
theorem dX12_takes_248 : decode cX12_takes 248 = .ok (.bipush 9, 2) := by decide +kernel
theorem dX12_takes_250 : decode cX12_takes 250 = .ok (.aload_n 0, 1) := by decide +kernel
theorem dX12_takes_251 : decode cX12_takes 251 = .ok (.getfield 7, 3) := by decide +kernel
theorem dX12_takes_254 : decode cX12_takes 254 = .ok (.bipush 10, 2) := by decide +kernel
theorem dX12_takes_256 : decode cX12_takes 256 = .ok (.iload 5, 2) := by decide +kernel
theorem dX12_takes_258 : decode cX12_takes 258 = .ok (.imul, 1) := by decide +kernel
theorem dX12_takes_259 : decode cX12_takes 259 = .ok (.iload_n 3, 1) := by decide +kernel
theorem dX12_takes_260 : decode cX12_takes 260 = .ok (.iadd, 1) := by decide +kernel
theorem dX12_takes_261 : decode cX12_takes 261 = .ok (.iaload, 1) := by decide +kernel
theorem dX12_takes_262 : decode cX12_takes 262 = .ok (.iastore, 1) := by decide +kernel
theorem dX12_takes_263 : decode cX12_takes 263 = .ok (.aload_n 0, 1) := by decide +kernel
theorem dX12_takes_264 : decode cX12_takes 264 = .ok (.getfield 110, 3) := by decide +kernel
theorem dX12_takes_267 : decode cX12_takes 267 = .ok (.bipush 10, 2) := by decide +kernel
theorem dX12_takes_269 : decode cX12_takes 269 = .ok (.iload_n 3, 1) := by decide +kernel
theorem dX12_takes_270 : decode cX12_takes 270 = .ok (.iastore, 1) := by decide +kernel
theorem dX12_takes_271 : decode cX12_takes 271 = .ok (.aload_n 0, 1) := by decide +kernel
theorem dX12_takes_272 : decode cX12_takes 272 = .ok (.getfield 110, 3) := by decide +kernel
theorem dX12_takes_275 : decode cX12_takes 275 = .ok (.bipush 11, 2) := by decide +kernel
theorem dX12_takes_277 : decode cX12_takes 277 = .ok (.iload_n 2, 1) := by decide +kernel
theorem dX12_takes_278 : decode cX12_takes 278 = .ok (.iastore, 1) := by decide +kernel
theorem dX12_takes_279 : decode cX12_takes 279 = .ok (.aload_n 0, 1) := by decide +kernel
theorem dX12_takes_280 : decode cX12_takes 280 = .ok (.getfield 110, 3) := by decide +kernel
theorem dX12_takes_283 : decode cX12_takes 283 = .ok (.bipush 12, 2) := by decide +kernel
theorem dX12_takes_285 : decode cX12_takes 285 = .ok (.iload 9, 2) := by decide +kernel
theorem dX12_takes_287 : decode cX12_takes 287 = .ok (.iastore, 1) := by decide +kernel
theorem dX12_takes_288 : decode cX12_takes 288 = .ok (.aload_n 0, 1) := by decide +kernel
theorem dX12_takes_289 : decode cX12_takes 289 = .ok (.getfield 110, 3) := by decide +kernel
theorem dX12_takes_292 : decode cX12_takes 292 = .ok (.bipush 13, 2) := by decide +kernel
theorem dX12_takes_294 : decode cX12_takes 294 = .ok (.iload 10, 2) := by decide +kernel
theorem dX12_takes_296 : decode cX12_takes 296 = .ok (.ifCond .ne 7, 3) := by decide +kernel
theorem dX12_takes_299 : decode cX12_takes 299 = .ok (.iconst 1, 1) := by decide +kernel
theorem dX12_takes_300 : decode cX12_takes 300 = .ok (.goto 4, 3) := by decide +kernel
theorem dX12_takes_303 : decode cX12_takes 303 = .ok (.iconst 0, 1) := by decide +kernel
theorem dX12_takes_304 : decode cX12_takes 304 = .ok (.iastore, 1) := by decide +kernel
theorem dX12_takes_305 : decode cX12_takes 305 = .ok (.aload_n 0, 1) := by decide +kernel
theorem dX12_takes_306 : decode cX12_takes 306 = .ok (.getfield 110, 3) := by decide +kernel
theorem dX12_takes_309 : decode cX12_takes 309 = .ok (.bipush 14, 2) := by decide +kernel
theorem dX12_takes_311 : decode cX12_takes 311 = .ok (.iload 7, 2) := by decide +kernel
theorem dX12_takes_313 : decode cX12_takes 313 = .ok (.iconst 1, 1) := by decide +kernel
theorem dX12_takes_314 : decode cX12_takes 314 = .ok (.iload 6, 2) := by decide +kernel
theorem dX12_takes_316 : decode cX12_takes 316 = .ok (.ishl, 1) := by decide +kernel
theorem dX12_takes_317 : decode cX12_takes 317 = .ok (.if_icmp .ne 7, 3) := by decide +kernel
theorem dX12_takes_320 : decode cX12_takes 320 = .ok (.iconst 1, 1) := by decide +kernel
theorem dX12_takes_321 : decode cX12_takes 321 = .ok (.goto 4, 3) := by decide +kernel
theorem dX12_takes_324 : decode cX12_takes 324 = .ok (.iconst 0, 1) := by decide +kernel
theorem dX12_takes_325 : decode cX12_takes 325 = .ok (.iastore, 1) := by decide +kernel
theorem dX12_takes_326 : decode cX12_takes 326 = .ok (.aload_n 0, 1) := by decide +kernel
theorem dX12_takes_327 : decode cX12_takes 327 = .ok (.getfield 110, 3) := by decide +kernel
theorem dX12_takes_330 : decode cX12_takes 330 = .ok (.bipush 15, 2) := by decide +kernel
theorem dX12_takes_332 : decode cX12_takes 332 = .ok (.iload 11, 2) := by decide +kernel
theorem dX12_takes_334 : decode cX12_takes 334 = .ok (.iastore, 1) := by decide +kernel
theorem dX12_takes_335 : decode cX12_takes 335 = .ok (.aload_n 0, 1) := by decide +kernel
theorem dX12_takes_336 : decode cX12_takes 336 = .ok (.getfield 110, 3) := by decide +kernel
theorem dX12_takes_339 : decode cX12_takes 339 = .ok (.bipush 16, 2) := by decide +kernel
theorem dX12_takes_341 : decode cX12_takes 341 = .ok (.iload 7, 2) := by decide +kernel
theorem dX12_takes_343 : decode cX12_takes 343 = .ok (.invokestatic 242, 3) := by decide +kernel
theorem dX12_takes_346 : decode cX12_takes 346 = .ok (.iconst 1, 1) := by decide +kernel
theorem dX12_takes_347 : decode cX12_takes 347 = .ok (.isub, 1) := by decide +kernel
theorem dX12_takes_348 : decode cX12_takes 348 = .ok (.iastore, 1) := by decide +kernel
theorem dX12_takes_349 : decode cX12_takes 349 = .ok (.aload_n 0, 1) := by decide +kernel
theorem dX12_takes_350 : decode cX12_takes 350 = .ok (.getfield 110, 3) := by decide +kernel
theorem dX12_takes_353 : decode cX12_takes 353 = .ok (.bipush 17, 2) := by decide +kernel
theorem dX12_takes_355 : decode cX12_takes 355 = .ok (.iconst 0, 1) := by decide +kernel
theorem dX12_takes_356 : decode cX12_takes 356 = .ok (.iastore, 1) := by decide +kernel
theorem dX12_takes_357 : decode cX12_takes 357 = .ok (.aload_n 0, 1) := by decide +kernel
theorem dX12_takes_358 : decode cX12_takes 358 = .ok (.getfield 177, 3) := by decide +kernel
theorem dX12_takes_361 : decode cX12_takes 361 = .ok (.aload_n 0, 1) := by decide +kernel
theorem dX12_takes_362 : decode cX12_takes 362 = .ok (.getfield 568, 3) := by decide +kernel
theorem dX12_takes_365 : decode cX12_takes 365 = .ok (.iload 4, 2) := by decide +kernel
theorem dX12_takes_367 : decode cX12_takes 367 = .ok (.bastore, 1) := by decide +kernel
theorem dX12_takes_368 : decode cX12_takes 368 = .ok (.aload_n 0, 1) := by decide +kernel
theorem dX12_takes_369 : decode cX12_takes 369 = .ok (.getfield 180, 3) := by decide +kernel
theorem dX12_takes_372 : decode cX12_takes 372 = .ok (.aload_n 0, 1) := by decide +kernel
theorem dX12_takes_373 : decode cX12_takes 373 = .ok (.getfield 568, 3) := by decide +kernel
theorem dX12_takes_376 : decode cX12_takes 376 = .ok (.iload 8, 2) := by decide +kernel
theorem dX12_takes_378 : decode cX12_takes 378 = .ok (.iastore, 1) := by decide +kernel
theorem dX12_takes_379 : decode cX12_takes 379 = .ok (.aload_n 0, 1) := by decide +kernel
theorem dX12_takes_380 : decode cX12_takes 380 = .ok (.getfield 183, 3) := by decide +kernel
theorem dX12_takes_383 : decode cX12_takes 383 = .ok (.aload_n 0, 1) := by decide +kernel
theorem dX12_takes_384 : decode cX12_takes 384 = .ok (.getfield 568, 3) := by decide +kernel
theorem dX12_takes_387 : decode cX12_takes 387 = .ok (.iload_n 3, 1) := by decide +kernel
theorem dX12_takes_388 : decode cX12_takes 388 = .ok (.iastore, 1) := by decide +kernel
theorem dX12_takes_389 : decode cX12_takes 389 = .ok (.aload_n 0, 1) := by decide +kernel
theorem dX12_takes_390 : decode cX12_takes 390 = .ok (.getfield 186, 3) := by decide +kernel
theorem dX12_takes_393 : decode cX12_takes 393 = .ok (.aload_n 0, 1) := by decide +kernel
theorem dX12_takes_394 : decode cX12_takes 394 = .ok (.getfield 568, 3) := by decide +kernel
theorem dX12_takes_397 : decode cX12_takes 397 = .ok (.iload 6, 2) := by decide +kernel
theorem dX12_takes_399 : decode cX12_takes 399 = .ok (.iastore, 1) := by decide +kernel
theorem dX12_takes_400 : decode cX12_takes 400 = .ok (.aload_n 0, 1) := by decide +kernel
theorem dX12_takes_401 : decode cX12_takes 401 = .ok (.getfield 189, 3) := by decide +kernel
theorem dX12_takes_404 : decode cX12_takes 404 = .ok (.aload_n 0, 1) := by decide +kernel
theorem dX12_takes_405 : decode cX12_takes 405 = .ok (.getfield 568, 3) := by decide +kernel
theorem dX12_takes_408 : decode cX12_takes 408 = .ok (.iload 9, 2) := by decide +kernel
theorem dX12_takes_410 : decode cX12_takes 410 = .ok (.iastore, 1) := by decide +kernel
theorem dX12_takes_411 : decode cX12_takes 411 = .ok (.aload_n 0, 1) := by decide +kernel
theorem dX12_takes_412 : decode cX12_takes 412 = .ok (.getfield 192, 3) := by decide +kernel
theorem dX12_takes_415 : decode cX12_takes 415 = .ok (.aload_n 0, 1) := by decide +kernel
theorem dX12_takes_416 : decode cX12_takes 416 = .ok (.getfield 568, 3) := by decide +kernel
theorem dX12_takes_419 : decode cX12_takes 419 = .ok (.aload_n 0, 1) := by decide +kernel
theorem dX12_takes_420 : decode cX12_takes 420 = .ok (.getfield 7, 3) := by decide +kernel
theorem dX12_takes_423 : decode cX12_takes 423 = .ok (.bipush 10, 2) := by decide +kernel
theorem dX12_takes_425 : decode cX12_takes 425 = .ok (.iload 5, 2) := by decide +kernel
theorem dX12_takes_427 : decode cX12_takes 427 = .ok (.imul, 1) := by decide +kernel
theorem dX12_takes_428 : decode cX12_takes 428 = .ok (.iload_n 3, 1) := by decide +kernel
theorem dX12_takes_429 : decode cX12_takes 429 = .ok (.iadd, 1) := by decide +kernel
theorem dX12_takes_430 : decode cX12_takes 430 = .ok (.iaload, 1) := by decide +kernel
theorem dX12_takes_431 : decode cX12_takes 431 = .ok (.iastore, 1) := by decide +kernel
theorem dX12_takes_432 : decode cX12_takes 432 = .ok (.aload_n 0, 1) := by decide +kernel
theorem dX12_takes_433 : decode cX12_takes 433 = .ok (.getfield 195, 3) := by decide +kernel
theorem dX12_takes_436 : decode cX12_takes 436 = .ok (.aload_n 0, 1) := by decide +kernel
theorem dX12_takes_437 : decode cX12_takes 437 = .ok (.getfield 568, 3) := by decide +kernel
theorem dX12_takes_440 : decode cX12_takes 440 = .ok (.aload_n 0, 1) := by decide +kernel
theorem dX12_takes_441 : decode cX12_takes 441 = .ok (.invokevirtual 432, 3) := by decide +kernel
theorem dX12_takes_444 : decode cX12_takes 444 = .ok (.iastore, 1) := by decide +kernel
theorem dX12_takes_445 : decode cX12_takes 445 = .ok (.aload_n 0, 1) := by decide +kernel
theorem dX12_takes_446 : decode cX12_takes 446 = .ok (.dup, 1) := by decide +kernel
theorem dX12_takes_447 : decode cX12_takes 447 = .ok (.getfield 568, 3) := by decide +kernel
theorem dX12_takes_450 : decode cX12_takes 450 = .ok (.iconst 1, 1) := by decide +kernel
theorem dX12_takes_451 : decode cX12_takes 451 = .ok (.iadd, 1) := by decide +kernel
theorem dX12_takes_452 : decode cX12_takes 452 = .ok (.putfield 568, 3) := by decide +kernel
theorem dX12_takes_455 : decode cX12_takes 455 = .ok (.return_, 1) := by decide +kernel
theorem dX12_tests_0 : decode cX12_tests 0 = .ok (.aload_n 0, 1) := by decide +kernel
theorem dX12_tests_1 : decode cX12_tests 1 = .ok (.iload_n 1, 1) := by decide +kernel
theorem dX12_tests_2 : decode cX12_tests 2 = .ok (.invokevirtual 420, 3) := by decide +kernel
theorem dX12_tests_5 : decode cX12_tests 5 = .ok (.aload_n 0, 1) := by decide +kernel
theorem dX12_tests_6 : decode cX12_tests 6 = .ok (.getfield 95, 3) := by decide +kernel
theorem dX12_tests_9 : decode cX12_tests 9 = .ok (.iload_n 1, 1) := by decide +kernel
theorem dX12_tests_10 : decode cX12_tests 10 = .ok (.iaload, 1) := by decide +kernel
theorem dX12_tests_11 : decode cX12_tests 11 = .ok (.istore_n 2, 1) := by decide +kernel
theorem dX12_tests_12 : decode cX12_tests 12 = .ok (.aload_n 0, 1) := by decide +kernel
theorem dX12_tests_13 : decode cX12_tests 13 = .ok (.getfield 92, 3) := by decide +kernel
theorem dX12_tests_16 : decode cX12_tests 16 = .ok (.iload_n 1, 1) := by decide +kernel
theorem dX12_tests_17 : decode cX12_tests 17 = .ok (.iaload, 1) := by decide +kernel
theorem dX12_tests_18 : decode cX12_tests 18 = .ok (.bipush 24, 2) := by decide +kernel
theorem dX12_tests_20 : decode cX12_tests 20 = .ok (.if_icmp .ne 24, 3) := by decide +kernel
theorem dX12_tests_23 : decode cX12_tests 23 = .ok (.aload_n 0, 1) := by decide +kernel
theorem dX12_tests_24 : decode cX12_tests 24 = .ok (.getfield 89, 3) := by decide +kernel
theorem dX12_tests_27 : decode cX12_tests 27 = .ok (.iload_n 1, 1) := by decide +kernel
theorem dX12_tests_28 : decode cX12_tests 28 = .ok (.iaload, 1) := by decide +kernel
theorem dX12_tests_29 : decode cX12_tests 29 = .ok (.aload_n 0, 1) := by decide +kernel
theorem dX12_tests_30 : decode cX12_tests 30 = .ok (.getfield 95, 3) := by decide +kernel
theorem dX12_tests_33 : decode cX12_tests 33 = .ok (.iload_n 1, 1) := by decide +kernel
theorem dX12_tests_34 : decode cX12_tests 34 = .ok (.iaload, 1) := by decide +kernel
theorem dX12_tests_35 : decode cX12_tests 35 = .ok (.if_icmp .ge 7, 3) := by decide +kernel
theorem dX12_tests_38 : decode cX12_tests 38 = .ok (.iconst 1, 1) := by decide +kernel
theorem dX12_tests_39 : decode cX12_tests 39 = .ok (.goto 4, 3) := by decide +kernel
theorem dX12_tests_42 : decode cX12_tests 42 = .ok (.iconst 0, 1) := by decide +kernel
theorem dX12_tests_43 : decode cX12_tests 43 = .ok (.istore_n 2, 1) := by decide +kernel
theorem dX12_tests_44 : decode cX12_tests 44 = .ok (.aload_n 0, 1) := by decide +kernel
theorem dX12_tests_45 : decode cX12_tests 45 = .ok (.getfield 92, 3) := by decide +kernel
theorem dX12_tests_48 : decode cX12_tests 48 = .ok (.iload_n 1, 1) := by decide +kernel
theorem dX12_tests_49 : decode cX12_tests 49 = .ok (.iaload, 1) := by decide +kernel
theorem dX12_tests_50 : decode cX12_tests 50 = .ok (.bipush 25, 2) := by decide +kernel
theorem dX12_tests_52 : decode cX12_tests 52 = .ok (.if_icmp .ne 24, 3) := by decide +kernel
theorem dX12_tests_55 : decode cX12_tests 55 = .ok (.aload_n 0, 1) := by decide +kernel
theorem dX12_tests_56 : decode cX12_tests 56 = .ok (.getfield 89, 3) := by decide +kernel
theorem dX12_tests_59 : decode cX12_tests 59 = .ok (.iload_n 1, 1) := by decide +kernel
theorem dX12_tests_60 : decode cX12_tests 60 = .ok (.iaload, 1) := by decide +kernel
theorem dX12_tests_61 : decode cX12_tests 61 = .ok (.aload_n 0, 1) := by decide +kernel
theorem dX12_tests_62 : decode cX12_tests 62 = .ok (.getfield 95, 3) := by decide +kernel
theorem dX12_tests_65 : decode cX12_tests 65 = .ok (.iload_n 1, 1) := by decide +kernel
theorem dX12_tests_66 : decode cX12_tests 66 = .ok (.iaload, 1) := by decide +kernel
theorem dX12_tests_67 : decode cX12_tests 67 = .ok (.if_icmp .ne 7, 3) := by decide +kernel
theorem dX12_tests_70 : decode cX12_tests 70 = .ok (.iconst 1, 1) := by decide +kernel
theorem dX12_tests_71 : decode cX12_tests 71 = .ok (.goto 4, 3) := by decide +kernel
theorem dX12_tests_74 : decode cX12_tests 74 = .ok (.iconst 0, 1) := by decide +kernel
theorem dX12_tests_75 : decode cX12_tests 75 = .ok (.istore_n 2, 1) := by decide +kernel
theorem dX12_tests_76 : decode cX12_tests 76 = .ok (.aload_n 0, 1) := by decide +kernel
theorem dX12_tests_77 : decode cX12_tests 77 = .ok (.getfield 86, 3) := by decide +kernel
theorem dX12_tests_80 : decode cX12_tests 80 = .ok (.iload_n 1, 1) := by decide +kernel
theorem dX12_tests_81 : decode cX12_tests 81 = .ok (.iaload, 1) := by decide +kernel
theorem dX12_tests_82 : decode cX12_tests 82 = .ok (.bipush 26, 2) := by decide +kernel
theorem dX12_tests_84 : decode cX12_tests 84 = .ok (.if_icmp .ne 22, 3) := by decide +kernel
theorem dX12_tests_87 : decode cX12_tests 87 = .ok (.aload_n 0, 1) := by decide +kernel
theorem dX12_tests_88 : decode cX12_tests 88 = .ok (.getfield 83, 3) := by decide +kernel
theorem dX12_tests_91 : decode cX12_tests 91 = .ok (.iload_n 1, 1) := by decide +kernel
theorem dX12_tests_92 : decode cX12_tests 92 = .ok (.iaload, 1) := by decide +kernel
theorem dX12_tests_93 : decode cX12_tests 93 = .ok (.ifCond .eq 11, 3) := by decide +kernel
theorem dX12_tests_96 : decode cX12_tests 96 = .ok (.iload_n 2, 1) := by decide +kernel
theorem dX12_tests_97 : decode cX12_tests 97 = .ok (.ifCond .eq 7, 3) := by decide +kernel
theorem dX12_tests_100 : decode cX12_tests 100 = .ok (.iconst 1, 1) := by decide +kernel
theorem dX12_tests_101 : decode cX12_tests 101 = .ok (.goto 4, 3) := by decide +kernel
theorem dX12_tests_104 : decode cX12_tests 104 = .ok (.iconst 0, 1) := by decide +kernel
theorem dX12_tests_105 : decode cX12_tests 105 = .ok (.istore_n 2, 1) := by decide +kernel
theorem dX12_tests_106 : decode cX12_tests 106 = .ok (.aload_n 0, 1) := by decide +kernel
theorem dX12_tests_107 : decode cX12_tests 107 = .ok (.getfield 86, 3) := by decide +kernel
theorem dX12_tests_110 : decode cX12_tests 110 = .ok (.iload_n 1, 1) := by decide +kernel
theorem dX12_tests_111 : decode cX12_tests 111 = .ok (.iaload, 1) := by decide +kernel
theorem dX12_tests_112 : decode cX12_tests 112 = .ok (.bipush 27, 2) := by decide +kernel
theorem dX12_tests_114 : decode cX12_tests 114 = .ok (.if_icmp .ne 22, 3) := by decide +kernel
theorem dX12_tests_117 : decode cX12_tests 117 = .ok (.aload_n 0, 1) := by decide +kernel
theorem dX12_tests_118 : decode cX12_tests 118 = .ok (.getfield 83, 3) := by decide +kernel
theorem dX12_tests_121 : decode cX12_tests 121 = .ok (.iload_n 1, 1) := by decide +kernel
theorem dX12_tests_122 : decode cX12_tests 122 = .ok (.iaload, 1) := by decide +kernel
theorem dX12_tests_123 : decode cX12_tests 123 = .ok (.ifCond .ne 7, 3) := by decide +kernel
theorem dX12_tests_126 : decode cX12_tests 126 = .ok (.iload_n 2, 1) := by decide +kernel
theorem dX12_tests_127 : decode cX12_tests 127 = .ok (.ifCond .eq 7, 3) := by decide +kernel
theorem dX12_tests_130 : decode cX12_tests 130 = .ok (.iconst 1, 1) := by decide +kernel
theorem dX12_tests_131 : decode cX12_tests 131 = .ok (.goto 4, 3) := by decide +kernel
theorem dX12_tests_134 : decode cX12_tests 134 = .ok (.iconst 0, 1) := by decide +kernel
theorem dX12_tests_135 : decode cX12_tests 135 = .ok (.istore_n 2, 1) := by decide +kernel
theorem dX12_tests_136 : decode cX12_tests 136 = .ok (.aload_n 0, 1) := by decide +kernel
theorem dX12_tests_137 : decode cX12_tests 137 = .ok (.getfield 83, 3) := by decide +kernel
theorem dX12_tests_140 : decode cX12_tests 140 = .ok (.iload_n 1, 1) := by decide +kernel
theorem dX12_tests_141 : decode cX12_tests 141 = .ok (.iload_n 2, 1) := by decide +kernel
theorem dX12_tests_142 : decode cX12_tests 142 = .ok (.iastore, 1) := by decide +kernel
theorem dX12_tests_143 : decode cX12_tests 143 = .ok (.aload_n 0, 1) := by decide +kernel
theorem dX12_tests_144 : decode cX12_tests 144 = .ok (.getfield 92, 3) := by decide +kernel
theorem dX12_tests_147 : decode cX12_tests 147 = .ok (.iload_n 1, 1) := by decide +kernel
theorem dX12_tests_148 : decode cX12_tests 148 = .ok (.iconst 0, 1) := by decide +kernel
theorem dX12_tests_149 : decode cX12_tests 149 = .ok (.iastore, 1) := by decide +kernel
theorem dX12_tests_150 : decode cX12_tests 150 = .ok (.aload_n 0, 1) := by decide +kernel
theorem dX12_tests_151 : decode cX12_tests 151 = .ok (.getfield 95, 3) := by decide +kernel
theorem dX12_tests_154 : decode cX12_tests 154 = .ok (.iload_n 1, 1) := by decide +kernel
theorem dX12_tests_155 : decode cX12_tests 155 = .ok (.iconst 0, 1) := by decide +kernel
theorem dX12_tests_156 : decode cX12_tests 156 = .ok (.iastore, 1) := by decide +kernel
theorem dX12_tests_157 : decode cX12_tests 157 = .ok (.aload_n 0, 1) := by decide +kernel
theorem dX12_tests_158 : decode cX12_tests 158 = .ok (.getfield 98, 3) := by decide +kernel
theorem dX12_tests_161 : decode cX12_tests 161 = .ok (.iload_n 1, 1) := by decide +kernel
theorem dX12_tests_162 : decode cX12_tests 162 = .ok (.bipush 20, 2) := by decide +kernel
theorem dX12_tests_164 : decode cX12_tests 164 = .ok (.iastore, 1) := by decide +kernel
theorem dX12_tests_165 : decode cX12_tests 165 = .ok (.return_, 1) := by decide +kernel
theorem dX12_thrown_0 : decode cX12_thrown 0 = .ok (.aload_n 0, 1) := by decide +kernel
theorem dX12_thrown_1 : decode cX12_thrown 1 = .ok (.getfield 214, 3) := by decide +kernel
theorem dX12_thrown_4 : decode cX12_thrown 4 = .ok (.ireturn, 1) := by decide +kernel
theorem dX12_way_0 : decode cX12_way 0 = .ok (.aload_n 0, 1) := by decide +kernel
theorem dX12_way_1 : decode cX12_way 1 = .ok (.iconst 0, 1) := by decide +kernel
theorem dX12_way_2 : decode cX12_way 2 = .ok (.putfield 214, 3) := by decide +kernel
theorem dX12_way_5 : decode cX12_way 5 = .ok (.iload_n 1, 1) := by decide +kernel
theorem dX12_way_6 : decode cX12_way 6 = .ok (.invokestatic 217, 3) := by decide +kernel
theorem dX12_way_9 : decode cX12_way 9 = .ok (.ifCond .eq 26, 3) := by decide +kernel
theorem dX12_way_12 : decode cX12_way 12 = .ok (.iload_n 2, 1) := by decide +kernel
theorem dX12_way_13 : decode cX12_way 13 = .ok (.invokestatic 217, 3) := by decide +kernel
theorem dX12_way_16 : decode cX12_way 16 = .ok (.ifCond .eq 19, 3) := by decide +kernel
theorem dX12_way_19 : decode cX12_way 19 = .ok (.iload_n 1, 1) := by decide +kernel
theorem dX12_way_20 : decode cX12_way 20 = .ok (.iload_n 2, 1) := by decide +kernel
theorem dX12_way_21 : decode cX12_way 21 = .ok (.if_icmp .eq 14, 3) := by decide +kernel
theorem dX12_way_24 : decode cX12_way 24 = .ok (.iload_n 3, 1) := by decide +kernel
theorem dX12_way_25 : decode cX12_way 25 = .ok (.iconst 0, 1) := by decide +kernel
theorem dX12_way_26 : decode cX12_way 26 = .ok (.sipush 999, 3) := by decide +kernel
theorem dX12_way_29 : decode cX12_way 29 = .ok (.invokestatic 221, 3) := by decide +kernel
theorem dX12_way_32 : decode cX12_way 32 = .ok (.ifCond .ne 5, 3) := by decide +kernel
theorem dX12_way_35 : decode cX12_way 35 = .ok (.iconst 0, 1) := by decide +kernel
theorem dX12_way_36 : decode cX12_way 36 = .ok (.ireturn, 1) := by decide +kernel
theorem dX12_way_37 : decode cX12_way 37 = .ok (.aload_n 0, 1) := by decide +kernel
theorem dX12_way_38 : decode cX12_way 38 = .ok (.getfield 13, 3) := by decide +kernel
theorem dX12_way_41 : decode cX12_way 41 = .ok (.bipush 8, 2) := by decide +kernel
theorem dX12_way_43 : decode cX12_way 43 = .ok (.iload_n 1, 1) := by decide +kernel
theorem dX12_way_44 : decode cX12_way 44 = .ok (.imul, 1) := by decide +kernel
theorem dX12_way_45 : decode cX12_way 45 = .ok (.iload_n 2, 1) := by decide +kernel
theorem dX12_way_46 : decode cX12_way 46 = .ok (.iadd, 1) := by decide +kernel
theorem dX12_way_47 : decode cX12_way 47 = .ok (.iload_n 3, 1) := by decide +kernel
theorem dX12_way_48 : decode cX12_way 48 = .ok (.iastore, 1) := by decide +kernel
theorem dX12_way_49 : decode cX12_way 49 = .ok (.aload_n 0, 1) := by decide +kernel
theorem dX12_way_50 : decode cX12_way 50 = .ok (.getfield 13, 3) := by decide +kernel
theorem dX12_way_53 : decode cX12_way 53 = .ok (.bipush 8, 2) := by decide +kernel
theorem dX12_way_55 : decode cX12_way 55 = .ok (.iload_n 2, 1) := by decide +kernel
theorem dX12_way_56 : decode cX12_way 56 = .ok (.imul, 1) := by decide +kernel
theorem dX12_way_57 : decode cX12_way 57 = .ok (.iload_n 1, 1) := by decide +kernel
theorem dX12_way_58 : decode cX12_way 58 = .ok (.iadd, 1) := by decide +kernel
theorem dX12_way_59 : decode cX12_way 59 = .ok (.iload_n 3, 1) := by decide +kernel
theorem dX12_way_60 : decode cX12_way 60 = .ok (.iastore, 1) := by decide +kernel
theorem dX12_way_61 : decode cX12_way 61 = .ok (.iconst 1, 1) := by decide +kernel
theorem dX12_way_62 : decode cX12_way 62 = .ok (.ireturn, 1) := by decide +kernel
theorem dX12_ways_0 : decode cX12_ways 0 = .ok (.iload_n 1, 1) := by decide +kernel
theorem dX12_ways_1 : decode cX12_ways 1 = .ok (.ifCond .lt 8, 3) := by decide +kernel
theorem dX12_ways_4 : decode cX12_ways 4 = .ok (.iload_n 1, 1) := by decide +kernel
theorem dX12_ways_5 : decode cX12_ways 5 = .ok (.iload_n 0, 1) := by decide +kernel
theorem dX12_ways_6 : decode cX12_ways 6 = .ok (.if_icmp .le 5, 3) := by decide +kernel
theorem dX12_ways_9 : decode cX12_ways 9 = .ok (.lconst 0, 1) := by decide +kernel
theorem dX12_ways_10 : decode cX12_ways 10 = .ok (.lreturn, 1) := by decide +kernel
theorem dX12_ways_11 : decode cX12_ways 11 = .ok (.lconst 1, 1) := by decide +kernel
theorem dX12_ways_12 : decode cX12_ways 12 = .ok (.lstore_n 2, 1) := by decide +kernel
theorem dX12_ways_13 : decode cX12_ways 13 = .ok (.iconst 1, 1) := by decide +kernel
theorem dX12_ways_14 : decode cX12_ways 14 = .ok (.istore 4, 2) := by decide +kernel
theorem dX12_ways_16 : decode cX12_ways 16 = .ok (.iload 4, 2) := by decide +kernel
theorem dX12_ways_18 : decode cX12_ways 18 = .ok (.iload_n 1, 1) := by decide +kernel
theorem dX12_ways_19 : decode cX12_ways 19 = .ok (.if_icmp .gt 23, 3) := by decide +kernel
theorem dX12_ways_22 : decode cX12_ways 22 = .ok (.lload_n 2, 1) := by decide +kernel
theorem dX12_ways_23 : decode cX12_ways 23 = .ok (.iload_n 0, 1) := by decide +kernel
theorem dX12_ways_24 : decode cX12_ways 24 = .ok (.iload_n 1, 1) := by decide +kernel
theorem dX12_ways_25 : decode cX12_ways 25 = .ok (.isub, 1) := by decide +kernel
theorem dX12_ways_26 : decode cX12_ways 26 = .ok (.iload 4, 2) := by decide +kernel
theorem dX12_ways_28 : decode cX12_ways 28 = .ok (.iadd, 1) := by decide +kernel
theorem dX12_ways_29 : decode cX12_ways 29 = .ok (.i2l, 1) := by decide +kernel
theorem dX12_ways_30 : decode cX12_ways 30 = .ok (.lmul, 1) := by decide +kernel
theorem dX12_ways_31 : decode cX12_ways 31 = .ok (.iload 4, 2) := by decide +kernel
theorem dX12_ways_33 : decode cX12_ways 33 = .ok (.i2l, 1) := by decide +kernel
theorem dX12_ways_34 : decode cX12_ways 34 = .ok (.ldiv, 1) := by decide +kernel
theorem dX12_ways_35 : decode cX12_ways 35 = .ok (.lstore_n 2, 1) := by decide +kernel
theorem dX12_ways_36 : decode cX12_ways 36 = .ok (.iinc 4 1, 3) := by decide +kernel
theorem dX12_ways_39 : decode cX12_ways 39 = .ok (.goto (-23), 3) := by decide +kernel
theorem dX12_ways_42 : decode cX12_ways 42 = .ok (.lload_n 2, 1) := by decide +kernel
theorem dX12_ways_43 : decode cX12_ways 43 = .ok (.lreturn, 1) := by decide +kernel
theorem dX12_wealth_0 : decode cX12_wealth 0 = .ok (.aload_n 0, 1) := by decide +kernel
theorem dX12_wealth_1 : decode cX12_wealth 1 = .ok (.iconst 0, 1) := by decide +kernel
theorem dX12_wealth_2 : decode cX12_wealth 2 = .ok (.putfield 214, 3) := by decide +kernel
theorem dX12_wealth_5 : decode cX12_wealth 5 = .ok (.iload_n 1, 1) := by decide +kernel
theorem dX12_wealth_6 : decode cX12_wealth 6 = .ok (.invokestatic 217, 3) := by decide +kernel
theorem dX12_wealth_9 : decode cX12_wealth 9 = .ok (.ifCond .eq 37, 3) := by decide +kernel
theorem dX12_wealth_12 : decode cX12_wealth 12 = .ok (.iload_n 2, 1) := by decide +kernel
theorem dX12_wealth_13 : decode cX12_wealth 13 = .ok (.iconst 0, 1) := by decide +kernel
theorem dX12_wealth_14 : decode cX12_wealth 14 = .ok (.bipush 9, 2) := by decide +kernel
theorem dX12_wealth_16 : decode cX12_wealth 16 = .ok (.invokestatic 221, 3) := by decide +kernel
theorem dX12_wealth_19 : decode cX12_wealth 19 = .ok (.ifCond .eq 27, 3) := by decide +kernel
theorem dX12_wealth_22 : decode cX12_wealth 22 = .ok (.aload_n 0, 1) := by decide +kernel
theorem dX12_wealth_23 : decode cX12_wealth 23 = .ok (.getfield 7, 3) := by decide +kernel
theorem dX12_wealth_26 : decode cX12_wealth 26 = .ok (.bipush 10, 2) := by decide +kernel
theorem dX12_wealth_28 : decode cX12_wealth 28 = .ok (.iload_n 1, 1) := by decide +kernel
theorem dX12_wealth_29 : decode cX12_wealth 29 = .ok (.imul, 1) := by decide +kernel
theorem dX12_wealth_30 : decode cX12_wealth 30 = .ok (.iload_n 2, 1) := by decide +kernel
theorem dX12_wealth_31 : decode cX12_wealth 31 = .ok (.iadd, 1) := by decide +kernel
theorem dX12_wealth_32 : decode cX12_wealth 32 = .ok (.iaload, 1) := by decide +kernel
theorem dX12_wealth_33 : decode cX12_wealth 33 = .ok (.ifCond .lt 13, 3) := by decide +kernel
theorem dX12_wealth_36 : decode cX12_wealth 36 = .ok (.iload_n 3, 1) := by decide +kernel
theorem dX12_wealth_37 : decode cX12_wealth 37 = .ok (.iconst 0, 1) := by decide +kernel
theorem dX12_wealth_38 : decode cX12_wealth 38 = .ok (.bipush 9, 2) := by decide +kernel
theorem dX12_wealth_40 : decode cX12_wealth 40 = .ok (.invokestatic 221, 3) := by decide +kernel
theorem dX12_wealth_43 : decode cX12_wealth 43 = .ok (.ifCond .ne 5, 3) := by decide +kernel
theorem dX12_wealth_46 : decode cX12_wealth 46 = .ok (.iconst 0, 1) := by decide +kernel
theorem dX12_wealth_47 : decode cX12_wealth 47 = .ok (.ireturn, 1) := by decide +kernel
theorem dX12_wealth_48 : decode cX12_wealth 48 = .ok (.aload_n 0, 1) := by decide +kernel
theorem dX12_wealth_49 : decode cX12_wealth 49 = .ok (.getfield 162, 3) := by decide +kernel
theorem dX12_wealth_52 : decode cX12_wealth 52 = .ok (.bipush 10, 2) := by decide +kernel
theorem dX12_wealth_54 : decode cX12_wealth 54 = .ok (.iload_n 1, 1) := by decide +kernel
theorem dX12_wealth_55 : decode cX12_wealth 55 = .ok (.imul, 1) := by decide +kernel
theorem dX12_wealth_56 : decode cX12_wealth 56 = .ok (.iload_n 2, 1) := by decide +kernel
theorem dX12_wealth_57 : decode cX12_wealth 57 = .ok (.iadd, 1) := by decide +kernel
theorem dX12_wealth_58 : decode cX12_wealth 58 = .ok (.iload_n 3, 1) := by decide +kernel
theorem dX12_wealth_59 : decode cX12_wealth 59 = .ok (.iastore, 1) := by decide +kernel
theorem dX12_wealth_60 : decode cX12_wealth 60 = .ok (.iconst 1, 1) := by decide +kernel
theorem dX12_wealth_61 : decode cX12_wealth 61 = .ok (.ireturn, 1) := by decide +kernel
theorem dX12_where_0 : decode cX12_where 0 = .ok (.aload_n 0, 1) := by decide +kernel
theorem dX12_where_1 : decode cX12_where 1 = .ok (.iconst 0, 1) := by decide +kernel
theorem dX12_where_2 : decode cX12_where 2 = .ok (.putfield 214, 3) := by decide +kernel
theorem dX12_where_5 : decode cX12_where 5 = .ok (.iload_n 1, 1) := by decide +kernel
theorem dX12_where_6 : decode cX12_where 6 = .ok (.iconst 1, 1) := by decide +kernel
theorem dX12_where_7 : decode cX12_where 7 = .ok (.iconst 2, 1) := by decide +kernel
theorem dX12_where_8 : decode cX12_where 8 = .ok (.invokestatic 221, 3) := by decide +kernel
theorem dX12_where_11 : decode cX12_where 11 = .ok (.ifCond .eq 12, 3) := by decide +kernel
theorem dX12_where_14 : decode cX12_where 14 = .ok (.iload_n 2, 1) := by decide +kernel
theorem dX12_where_15 : decode cX12_where 15 = .ok (.iconst 0, 1) := by decide +kernel
theorem dX12_where_16 : decode cX12_where 16 = .ok (.iload_n 1, 1) := by decide +kernel
theorem dX12_where_17 : decode cX12_where 17 = .ok (.invokestatic 221, 3) := by decide +kernel
theorem dX12_where_20 : decode cX12_where 20 = .ok (.ifCond .ne 5, 3) := by decide +kernel
theorem dX12_where_23 : decode cX12_where 23 = .ok (.iconst (-1), 1) := by decide +kernel
theorem dX12_where_24 : decode cX12_where 24 = .ok (.ireturn, 1) := by decide +kernel
theorem dX12_where_25 : decode cX12_where 25 = .ok (.aload_n 0, 1) := by decide +kernel
theorem dX12_where_26 : decode cX12_where 26 = .ok (.invokevirtual 505, 3) := by decide +kernel
theorem dX12_where_29 : decode cX12_where 29 = .ok (.iconst (-1), 1) := by decide +kernel
theorem dX12_where_30 : decode cX12_where 30 = .ok (.istore_n 3, 1) := by decide +kernel
theorem dX12_where_31 : decode cX12_where 31 = .ok (.iconst (-1), 1) := by decide +kernel
theorem dX12_where_32 : decode cX12_where 32 = .ok (.istore 4, 2) := by decide +kernel
theorem dX12_where_34 : decode cX12_where 34 = .ok (.iconst (-1), 1) := by decide +kernel
theorem dX12_where_35 : decode cX12_where 35 = .ok (.istore 5, 2) := by decide +kernel
theorem dX12_where_37 : decode cX12_where 37 = .ok (.iconst 0, 1) := by decide +kernel
theorem dX12_where_38 : decode cX12_where 38 = .ok (.istore 6, 2) := by decide +kernel
theorem dX12_where_40 : decode cX12_where 40 = .ok (.iload 6, 2) := by decide +kernel
theorem dX12_where_42 : decode cX12_where 42 = .ok (.bipush 8, 2) := by decide +kernel
theorem dX12_where_44 : decode cX12_where 44 = .ok (.if_icmp .ge 84, 3) := by decide +kernel
theorem dX12_where_47 : decode cX12_where 47 = .ok (.iload 6, 2) := by decide +kernel
theorem dX12_where_49 : decode cX12_where 49 = .ok (.istore 7, 2) := by decide +kernel
theorem dX12_where_51 : decode cX12_where 51 = .ok (.iload 7, 2) := by decide +kernel
theorem dX12_where_53 : decode cX12_where 53 = .ok (.bipush 8, 2) := by decide +kernel
theorem dX12_where_55 : decode cX12_where 55 = .ok (.if_icmp .ge 67, 3) := by decide +kernel
theorem dX12_where_58 : decode cX12_where 58 = .ok (.iload 6, 2) := by decide +kernel
theorem dX12_where_60 : decode cX12_where 60 = .ok (.iload 7, 2) := by decide +kernel
theorem dX12_where_62 : decode cX12_where 62 = .ok (.if_icmp .ne 7, 3) := by decide +kernel
theorem dX12_where_65 : decode cX12_where 65 = .ok (.iconst 1, 1) := by decide +kernel
theorem dX12_where_66 : decode cX12_where 66 = .ok (.goto 4, 3) := by decide +kernel
theorem dX12_where_69 : decode cX12_where 69 = .ok (.iconst 0, 1) := by decide +kernel
theorem dX12_where_70 : decode cX12_where 70 = .ok (.iload_n 1, 1) := by decide +kernel
theorem dX12_where_71 : decode cX12_where 71 = .ok (.iconst 1, 1) := by decide +kernel
theorem dX12_where_72 : decode cX12_where 72 = .ok (.if_icmp .ne 7, 3) := by decide +kernel
theorem dX12_where_75 : decode cX12_where 75 = .ok (.iconst 1, 1) := by decide +kernel
theorem dX12_where_76 : decode cX12_where 76 = .ok (.goto 4, 3) := by decide +kernel
theorem dX12_where_79 : decode cX12_where 79 = .ok (.iconst 0, 1) := by decide +kernel
theorem dX12_where_80 : decode cX12_where 80 = .ok (.if_icmp .eq 6, 3) := by decide +kernel
theorem dX12_where_83 : decode cX12_where 83 = .ok (.goto 33, 3) := by decide +kernel
theorem dX12_where_86 : decode cX12_where 86 = .ok (.aload_n 0, 1) := by decide +kernel
theorem dX12_where_87 : decode cX12_where 87 = .ok (.iload 6, 2) := by decide +kernel
theorem dX12_where_89 : decode cX12_where 89 = .ok (.iload 7, 2) := by decide +kernel
theorem dX12_where_91 : decode cX12_where 91 = .ok (.invokevirtual 536, 3) := by decide +kernel
theorem dX12_where_94 : decode cX12_where 94 = .ok (.istore 8, 2) := by decide +kernel
theorem dX12_where_96 : decode cX12_where 96 = .ok (.iload 8, 2) := by decide +kernel
theorem dX12_where_98 : decode cX12_where 98 = .ok (.iload_n 3, 1) := by decide +kernel
theorem dX12_where_99 : decode cX12_where 99 = .ok (.if_icmp .gt 6, 3) := by decide +kernel
theorem dX12_where_102 : decode cX12_where 102 = .ok (.goto 14, 3) := by decide +kernel
theorem dX12_where_105 : decode cX12_where 105 = .ok (.iload 8, 2) := by decide +kernel
theorem dX12_where_107 : decode cX12_where 107 = .ok (.istore_n 3, 1) := by decide +kernel
theorem dX12_where_108 : decode cX12_where 108 = .ok (.iload 6, 2) := by decide +kernel
theorem dX12_where_110 : decode cX12_where 110 = .ok (.istore 4, 2) := by decide +kernel
theorem dX12_where_112 : decode cX12_where 112 = .ok (.iload 7, 2) := by decide +kernel
theorem dX12_where_114 : decode cX12_where 114 = .ok (.istore 5, 2) := by decide +kernel
theorem dX12_where_116 : decode cX12_where 116 = .ok (.iinc 7 1, 3) := by decide +kernel
theorem dX12_where_119 : decode cX12_where 119 = .ok (.goto (-68), 3) := by decide +kernel
theorem dX12_where_122 : decode cX12_where 122 = .ok (.iinc 6 1, 3) := by decide +kernel
theorem dX12_where_125 : decode cX12_where 125 = .ok (.goto (-85), 3) := by decide +kernel
theorem dX12_where_128 : decode cX12_where 128 = .ok (.iload_n 2, 1) := by decide +kernel
theorem dX12_where_129 : decode cX12_where 129 = .ok (.ifCond .ne 7, 3) := by decide +kernel
theorem dX12_where_132 : decode cX12_where 132 = .ok (.iload_n 3, 1) := by decide +kernel
theorem dX12_where_133 : decode cX12_where 133 = .ok (.goto 15, 3) := by decide +kernel
theorem dX12_where_136 : decode cX12_where 136 = .ok (.iload_n 2, 1) := by decide +kernel
theorem dX12_where_137 : decode cX12_where 137 = .ok (.iconst 1, 1) := by decide +kernel
theorem dX12_where_138 : decode cX12_where 138 = .ok (.if_icmp .ne 8, 3) := by decide +kernel
theorem dX12_where_141 : decode cX12_where 141 = .ok (.iload 4, 2) := by decide +kernel
theorem dX12_where_143 : decode cX12_where 143 = .ok (.goto 5, 3) := by decide +kernel
theorem dX12_where_146 : decode cX12_where 146 = .ok (.iload 5, 2) := by decide +kernel
theorem dX12_where_148 : decode cX12_where 148 = .ok (.ireturn, 1) := by decide +kernel
theorem dX12_within_0 : decode cX12_within 0 = .ok (.iload_n 0, 1) := by decide +kernel
theorem dX12_within_1 : decode cX12_within 1 = .ok (.iload_n 1, 1) := by decide +kernel
theorem dX12_within_2 : decode cX12_within 2 = .ok (.if_icmp .lt 12, 3) := by decide +kernel
theorem dX12_within_5 : decode cX12_within 5 = .ok (.iload_n 0, 1) := by decide +kernel
theorem dX12_within_6 : decode cX12_within 6 = .ok (.iload_n 2, 1) := by decide +kernel
theorem dX12_within_7 : decode cX12_within 7 = .ok (.if_icmp .gt 7, 3) := by decide +kernel
theorem dX12_within_10 : decode cX12_within 10 = .ok (.iconst 1, 1) := by decide +kernel
theorem dX12_within_11 : decode cX12_within 11 = .ok (.goto 4, 3) := by decide +kernel
theorem dX12_within_14 : decode cX12_within 14 = .ok (.iconst 0, 1) := by decide +kernel
theorem dX12_within_15 : decode cX12_within 15 = .ok (.ireturn, 1) := by decide +kernel
theorem dX12_world_0 : decode cX12_world 0 = .ok (.aload_n 0, 1) := by decide +kernel
theorem dX12_world_1 : decode cX12_world 1 = .ok (.iconst 0, 1) := by decide +kernel
theorem dX12_world_2 : decode cX12_world 2 = .ok (.putfield 214, 3) := by decide +kernel
theorem dX12_world_5 : decode cX12_world 5 = .ok (.iload_n 1, 1) := by decide +kernel
theorem dX12_world_6 : decode cX12_world 6 = .ok (.iconst 0, 1) := by decide +kernel
theorem dX12_world_7 : decode cX12_world 7 = .ok (.sipush 9999, 3) := by decide +kernel
theorem dX12_world_10 : decode cX12_world 10 = .ok (.invokestatic 221, 3) := by decide +kernel
theorem dX12_world_13 : decode cX12_world 13 = .ok (.ifCond .eq 12, 3) := by decide +kernel
theorem dX12_world_16 : decode cX12_world 16 = .ok (.iload_n 2, 1) := by decide +kernel
theorem dX12_world_17 : decode cX12_world 17 = .ok (.iconst 0, 1) := by decide +kernel
theorem dX12_world_18 : decode cX12_world 18 = .ok (.iconst 4, 1) := by decide +kernel
theorem dX12_world_19 : decode cX12_world 19 = .ok (.invokestatic 221, 3) := by decide +kernel
theorem dX12_world_22 : decode cX12_world 22 = .ok (.ifCond .ne 5, 3) := by decide +kernel
theorem dX12_world_25 : decode cX12_world 25 = .ok (.iconst (-1), 1) := by decide +kernel
theorem dX12_world_26 : decode cX12_world 26 = .ok (.ireturn, 1) := by decide +kernel
theorem dX12_world_27 : decode cX12_world 27 = .ok (.aload_n 0, 1) := by decide +kernel
theorem dX12_world_28 : decode cX12_world 28 = .ok (.iload_n 1, 1) := by decide +kernel
theorem dX12_world_29 : decode cX12_world 29 = .ok (.invokevirtual 584, 3) := by decide +kernel
theorem dX12_world_32 : decode cX12_world 32 = .ok (.iload_n 2, 1) := by decide +kernel
theorem dX12_world_33 : decode cX12_world 33 = .ok (.iconst 3, 1) := by decide +kernel
theorem dX12_world_34 : decode cX12_world 34 = .ok (.if_icmp .ne 8, 3) := by decide +kernel
theorem dX12_world_37 : decode cX12_world 37 = .ok (.aload_n 0, 1) := by decide +kernel
theorem dX12_world_38 : decode cX12_world 38 = .ok (.invokevirtual 587, 3) := by decide +kernel
theorem dX12_world_41 : decode cX12_world 41 = .ok (.ireturn, 1) := by decide +kernel
theorem dX12_world_42 : decode cX12_world 42 = .ok (.iconst 0, 1) := by decide +kernel
theorem dX12_world_43 : decode cX12_world 43 = .ok (.istore_n 3, 1) := by decide +kernel
theorem dX12_world_44 : decode cX12_world 44 = .ok (.iconst (-1), 1) := by decide +kernel
theorem dX12_world_45 : decode cX12_world 45 = .ok (.istore 4, 2) := by decide +kernel
theorem dX12_world_47 : decode cX12_world 47 = .ok (.iconst 0, 1) := by decide +kernel
theorem dX12_world_48 : decode cX12_world 48 = .ok (.istore 5, 2) := by decide +kernel
theorem dX12_world_50 : decode cX12_world 50 = .ok (.iconst 0, 1) := by decide +kernel
theorem dX12_world_51 : decode cX12_world 51 = .ok (.istore 6, 2) := by decide +kernel
theorem dX12_world_53 : decode cX12_world 53 = .ok (.iload 6, 2) := by decide +kernel
theorem dX12_world_55 : decode cX12_world 55 = .ok (.aload_n 0, 1) := by decide +kernel
theorem dX12_world_56 : decode cX12_world 56 = .ok (.getfield 568, 3) := by decide +kernel
theorem dX12_world_59 : decode cX12_world 59 = .ok (.if_icmp .ge 53, 3) := by decide +kernel
theorem dX12_world_62 : decode cX12_world 62 = .ok (.iload_n 3, 1) := by decide +kernel
theorem dX12_world_63 : decode cX12_world 63 = .ok (.aload_n 0, 1) := by decide +kernel
theorem dX12_world_64 : decode cX12_world 64 = .ok (.getfield 177, 3) := by decide +kernel
theorem dX12_world_67 : decode cX12_world 67 = .ok (.iload 6, 2) := by decide +kernel
theorem dX12_world_69 : decode cX12_world 69 = .ok (.baload, 1) := by decide +kernel
theorem dX12_world_70 : decode cX12_world 70 = .ok (.ifCond .eq 7, 3) := by decide +kernel
theorem dX12_world_73 : decode cX12_world 73 = .ok (.iconst 0, 1) := by decide +kernel
theorem dX12_world_74 : decode cX12_world 74 = .ok (.goto 4, 3) := by decide +kernel
theorem dX12_world_77 : decode cX12_world 77 = .ok (.iconst 1, 1) := by decide +kernel
theorem dX12_world_78 : decode cX12_world 78 = .ok (.iadd, 1) := by decide +kernel
theorem dX12_world_79 : decode cX12_world 79 = .ok (.istore_n 3, 1) := by decide +kernel
theorem dX12_world_80 : decode cX12_world 80 = .ok (.aload_n 0, 1) := by decide +kernel
theorem dX12_world_81 : decode cX12_world 81 = .ok (.getfield 192, 3) := by decide +kernel
theorem dX12_world_84 : decode cX12_world 84 = .ok (.iload 6, 2) := by decide +kernel
theorem dX12_world_86 : decode cX12_world 86 = .ok (.iaload, 1) := by decide +kernel
theorem dX12_world_87 : decode cX12_world 87 = .ok (.iload 4, 2) := by decide +kernel
theorem dX12_world_89 : decode cX12_world 89 = .ok (.if_icmp .le 13, 3) := by decide +kernel
theorem dX12_world_92 : decode cX12_world 92 = .ok (.aload_n 0, 1) := by decide +kernel
theorem dX12_world_93 : decode cX12_world 93 = .ok (.getfield 192, 3) := by decide +kernel
theorem dX12_world_96 : decode cX12_world 96 = .ok (.iload 6, 2) := by decide +kernel
theorem dX12_world_98 : decode cX12_world 98 = .ok (.iaload, 1) := by decide +kernel
theorem dX12_world_99 : decode cX12_world 99 = .ok (.goto 5, 3) := by decide +kernel
theorem dX12_world_102 : decode cX12_world 102 = .ok (.iload 4, 2) := by decide +kernel
theorem dX12_world_104 : decode cX12_world 104 = .ok (.istore 4, 2) := by decide +kernel
theorem dX12_world_106 : decode cX12_world 106 = .ok (.iinc 6 1, 3) := by decide +kernel
theorem dX12_world_109 : decode cX12_world 109 = .ok (.goto (-56), 3) := by decide +kernel
theorem dX12_world_112 : decode cX12_world 112 = .ok (.iconst 0, 1) := by decide +kernel
theorem dX12_world_113 : decode cX12_world 113 = .ok (.istore 6, 2) := by decide +kernel
theorem dX12_world_115 : decode cX12_world 115 = .ok (.iload 6, 2) := by decide +kernel
theorem dX12_world_117 : decode cX12_world 117 = .ok (.bipush 8, 2) := by decide +kernel
theorem dX12_world_119 : decode cX12_world 119 = .ok (.if_icmp .ge 21, 3) := by decide +kernel
theorem dX12_world_122 : decode cX12_world 122 = .ok (.iload 5, 2) := by decide +kernel
theorem dX12_world_124 : decode cX12_world 124 = .ok (.aload_n 0, 1) := by decide +kernel
theorem dX12_world_125 : decode cX12_world 125 = .ok (.getfield 174, 3) := by decide +kernel
theorem dX12_world_128 : decode cX12_world 128 = .ok (.iload 6, 2) := by decide +kernel
theorem dX12_world_130 : decode cX12_world 130 = .ok (.iaload, 1) := by decide +kernel
theorem dX12_world_131 : decode cX12_world 131 = .ok (.iadd, 1) := by decide +kernel
theorem dX12_world_132 : decode cX12_world 132 = .ok (.istore 5, 2) := by decide +kernel
theorem dX12_world_134 : decode cX12_world 134 = .ok (.iinc 6 1, 3) := by decide +kernel
theorem dX12_world_137 : decode cX12_world 137 = .ok (.goto (-22), 3) := by decide +kernel
theorem dX12_world_140 : decode cX12_world 140 = .ok (.iload_n 2, 1) := by decide +kernel
theorem dX12_world_141 : decode cX12_world 141 = .ok (.ifCond .ne 7, 3) := by decide +kernel
theorem dX12_world_144 : decode cX12_world 144 = .ok (.iload_n 3, 1) := by decide +kernel
theorem dX12_world_145 : decode cX12_world 145 = .ok (.goto 29, 3) := by decide +kernel
theorem dX12_world_148 : decode cX12_world 148 = .ok (.iload_n 2, 1) := by decide +kernel
theorem dX12_world_149 : decode cX12_world 149 = .ok (.iconst 1, 1) := by decide +kernel
theorem dX12_world_150 : decode cX12_world 150 = .ok (.if_icmp .ne 12, 3) := by decide +kernel
theorem dX12_world_153 : decode cX12_world 153 = .ok (.aload_n 0, 1) := by decide +kernel
theorem dX12_world_154 : decode cX12_world 154 = .ok (.getfield 568, 3) := by decide +kernel
theorem dX12_world_157 : decode cX12_world 157 = .ok (.iload_n 3, 1) := by decide +kernel
theorem dX12_world_158 : decode cX12_world 158 = .ok (.isub, 1) := by decide +kernel
theorem dX12_world_159 : decode cX12_world 159 = .ok (.goto 15, 3) := by decide +kernel
theorem dX12_world_162 : decode cX12_world 162 = .ok (.iload_n 2, 1) := by decide +kernel
theorem dX12_world_163 : decode cX12_world 163 = .ok (.iconst 2, 1) := by decide +kernel
theorem dX12_world_164 : decode cX12_world 164 = .ok (.if_icmp .ne 8, 3) := by decide +kernel
theorem dX12_world_167 : decode cX12_world 167 = .ok (.iload 5, 2) := by decide +kernel
theorem dX12_world_169 : decode cX12_world 169 = .ok (.goto 5, 3) := by decide +kernel
theorem dX12_world_172 : decode cX12_world 172 = .ok (.iload 4, 2) := by decide +kernel
theorem dX12_world_174 : decode cX12_world 174 = .ok (.ireturn, 1) := by decide +kernel
theorem dX12_worth_0 : decode cX12_worth 0 = .ok (.iconst 0, 1) := by decide +kernel
theorem dX12_worth_1 : decode cX12_worth 1 = .ok (.istore_n 2, 1) := by decide +kernel
theorem dX12_worth_2 : decode cX12_worth 2 = .ok (.aload_n 0, 1) := by decide +kernel
theorem dX12_worth_3 : decode cX12_worth 3 = .ok (.iconst 0, 1) := by decide +kernel
theorem dX12_worth_4 : decode cX12_worth 4 = .ok (.invokevirtual 423, 3) := by decide +kernel
theorem dX12_worth_7 : decode cX12_worth 7 = .ok (.aload_n 0, 1) := by decide +kernel
theorem dX12_worth_8 : decode cX12_worth 8 = .ok (.getfield 59, 3) := by decide +kernel
theorem dX12_worth_11 : decode cX12_worth 11 = .ok (.iload_n 1, 1) := by decide +kernel
theorem dX12_worth_12 : decode cX12_worth 12 = .ok (.iaload, 1) := by decide +kernel
theorem dX12_worth_13 : decode cX12_worth 13 = .ok (.istore_n 3, 1) := by decide +kernel
theorem dX12_worth_14 : decode cX12_worth 14 = .ok (.iload_n 3, 1) := by decide +kernel
theorem dX12_worth_15 : decode cX12_worth 15 = .ok (.aload_n 0, 1) := by decide +kernel
theorem dX12_worth_16 : decode cX12_worth 16 = .ok (.getfield 62, 3) := by decide +kernel
theorem dX12_worth_19 : decode cX12_worth 19 = .ok (.iload_n 1, 1) := by decide +kernel
theorem dX12_worth_20 : decode cX12_worth 20 = .ok (.iaload, 1) := by decide +kernel
theorem dX12_worth_21 : decode cX12_worth 21 = .ok (.if_icmp .ge 314, 3) := by decide +kernel
theorem dX12_worth_24 : decode cX12_worth 24 = .ok (.aload_n 0, 1) := by decide +kernel
theorem dX12_worth_25 : decode cX12_worth 25 = .ok (.getfield 74, 3) := by decide +kernel
theorem dX12_worth_28 : decode cX12_worth 28 = .ok (.iload_n 3, 1) := by decide +kernel
theorem dX12_worth_29 : decode cX12_worth 29 = .ok (.iaload, 1) := by decide +kernel
theorem dX12_worth_30 : decode cX12_worth 30 = .ok (.istore 4, 2) := by decide +kernel
theorem dX12_worth_32 : decode cX12_worth 32 = .ok (.iload 4, 2) := by decide +kernel
theorem dX12_worth_34 : decode cX12_worth 34 = .ok (.bipush 28, 2) := by decide +kernel
theorem dX12_worth_36 : decode cX12_worth 36 = .ok (.if_icmp .eq 10, 3) := by decide +kernel
theorem dX12_worth_39 : decode cX12_worth 39 = .ok (.iload 4, 2) := by decide +kernel
theorem dX12_worth_41 : decode cX12_worth 41 = .ok (.bipush 30, 2) := by decide +kernel
theorem dX12_worth_43 : decode cX12_worth 43 = .ok (.if_icmp .ne 32, 3) := by decide +kernel
theorem dX12_worth_46 : decode cX12_worth 46 = .ok (.iinc 2 1, 3) := by decide +kernel
theorem dX12_worth_49 : decode cX12_worth 49 = .ok (.aload_n 0, 1) := by decide +kernel
theorem dX12_worth_50 : decode cX12_worth 50 = .ok (.getfield 107, 3) := by decide +kernel
theorem dX12_worth_53 : decode cX12_worth 53 = .ok (.iload_n 2, 1) := by decide +kernel
theorem dX12_worth_54 : decode cX12_worth 54 = .ok (.iload 4, 2) := by decide +kernel
theorem dX12_worth_56 : decode cX12_worth 56 = .ok (.bipush 30, 2) := by decide +kernel
theorem dX12_worth_58 : decode cX12_worth 58 = .ok (.if_icmp .ne 7, 3) := by decide +kernel
theorem dX12_worth_61 : decode cX12_worth 61 = .ok (.iconst 1, 1) := by decide +kernel
theorem dX12_worth_62 : decode cX12_worth 62 = .ok (.goto 4, 3) := by decide +kernel
theorem dX12_worth_65 : decode cX12_worth 65 = .ok (.iconst 0, 1) := by decide +kernel
theorem dX12_worth_66 : decode cX12_worth 66 = .ok (.iastore, 1) := by decide +kernel
theorem dX12_worth_67 : decode cX12_worth 67 = .ok (.aload_n 0, 1) := by decide +kernel
theorem dX12_worth_68 : decode cX12_worth 68 = .ok (.iload_n 2, 1) := by decide +kernel
theorem dX12_worth_69 : decode cX12_worth 69 = .ok (.invokevirtual 423, 3) := by decide +kernel
theorem dX12_worth_72 : decode cX12_worth 72 = .ok (.goto 257, 3) := by decide +kernel
theorem dX12_worth_75 : decode cX12_worth 75 = .ok (.iload 4, 2) := by decide +kernel
theorem dX12_worth_77 : decode cX12_worth 77 = .ok (.bipush 20, 2) := by decide +kernel
theorem dX12_worth_79 : decode cX12_worth 79 = .ok (.if_icmp .eq 10, 3) := by decide +kernel
theorem dX12_worth_82 : decode cX12_worth 82 = .ok (.iload 4, 2) := by decide +kernel
theorem dX12_worth_84 : decode cX12_worth 84 = .ok (.bipush 21, 2) := by decide +kernel
theorem dX12_worth_86 : decode cX12_worth 86 = .ok (.if_icmp .ne 19, 3) := by decide +kernel
theorem dX12_worth_89 : decode cX12_worth 89 = .ok (.aload_n 0, 1) := by decide +kernel
theorem dX12_worth_90 : decode cX12_worth 90 = .ok (.iload_n 2, 1) := by decide +kernel
theorem dX12_worth_91 : decode cX12_worth 91 = .ok (.invokevirtual 420, 3) := by decide +kernel
theorem dX12_worth_94 : decode cX12_worth 94 = .ok (.aload_n 0, 1) := by decide +kernel
theorem dX12_worth_95 : decode cX12_worth 95 = .ok (.getfield 98, 3) := by decide +kernel
theorem dX12_worth_98 : decode cX12_worth 98 = .ok (.iload_n 2, 1) := by decide +kernel
theorem dX12_worth_99 : decode cX12_worth 99 = .ok (.iload 4, 2) := by decide +kernel
theorem dX12_worth_101 : decode cX12_worth 101 = .ok (.iastore, 1) := by decide +kernel
theorem dX12_worth_102 : decode cX12_worth 102 = .ok (.goto 227, 3) := by decide +kernel
theorem dX12_worth_105 : decode cX12_worth 105 = .ok (.iload 4, 2) := by decide +kernel
theorem dX12_worth_107 : decode cX12_worth 107 = .ok (.bipush 22, 2) := by decide +kernel
theorem dX12_worth_109 : decode cX12_worth 109 = .ok (.if_icmp .ne 14, 3) := by decide +kernel
theorem dX12_worth_112 : decode cX12_worth 112 = .ok (.aload_n 0, 1) := by decide +kernel
theorem dX12_worth_113 : decode cX12_worth 113 = .ok (.getfield 104, 3) := by decide +kernel
theorem dX12_worth_116 : decode cX12_worth 116 = .ok (.iload_n 2, 1) := by decide +kernel
theorem dX12_worth_117 : decode cX12_worth 117 = .ok (.iload 4, 2) := by decide +kernel
theorem dX12_worth_119 : decode cX12_worth 119 = .ok (.iastore, 1) := by decide +kernel
theorem dX12_worth_120 : decode cX12_worth 120 = .ok (.goto 209, 3) := by decide +kernel
theorem dX12_worth_123 : decode cX12_worth 123 = .ok (.iload 4, 2) := by decide +kernel
theorem dX12_worth_125 : decode cX12_worth 125 = .ok (.bipush 24, 2) := by decide +kernel
theorem dX12_worth_127 : decode cX12_worth 127 = .ok (.if_icmp .eq 10, 3) := by decide +kernel
theorem dX12_worth_130 : decode cX12_worth 130 = .ok (.iload 4, 2) := by decide +kernel
theorem dX12_worth_132 : decode cX12_worth 132 = .ok (.bipush 25, 2) := by decide +kernel
theorem dX12_worth_134 : decode cX12_worth 134 = .ok (.if_icmp .ne 46, 3) := by decide +kernel
theorem dX12_worth_137 : decode cX12_worth 137 = .ok (.aload_n 0, 1) := by decide +kernel
theorem dX12_worth_138 : decode cX12_worth 138 = .ok (.iload_n 2, 1) := by decide +kernel
theorem dX12_worth_139 : decode cX12_worth 139 = .ok (.invokevirtual 420, 3) := by decide +kernel
theorem dX12_worth_142 : decode cX12_worth 142 = .ok (.aload_n 0, 1) := by decide +kernel
theorem dX12_worth_143 : decode cX12_worth 143 = .ok (.getfield 89, 3) := by decide +kernel
theorem dX12_worth_146 : decode cX12_worth 146 = .ok (.iload_n 2, 1) := by decide +kernel
theorem dX12_worth_147 : decode cX12_worth 147 = .ok (.aload_n 0, 1) := by decide +kernel
theorem dX12_worth_148 : decode cX12_worth 148 = .ok (.getfield 95, 3) := by decide +kernel
theorem dX12_worth_151 : decode cX12_worth 151 = .ok (.iload_n 2, 1) := by decide +kernel
theorem dX12_worth_152 : decode cX12_worth 152 = .ok (.iaload, 1) := by decide +kernel
theorem dX12_worth_153 : decode cX12_worth 153 = .ok (.iastore, 1) := by decide +kernel
theorem dX12_worth_154 : decode cX12_worth 154 = .ok (.aload_n 0, 1) := by decide +kernel
theorem dX12_worth_155 : decode cX12_worth 155 = .ok (.getfield 92, 3) := by decide +kernel
theorem dX12_worth_158 : decode cX12_worth 158 = .ok (.iload_n 2, 1) := by decide +kernel
theorem dX12_worth_159 : decode cX12_worth 159 = .ok (.iload 4, 2) := by decide +kernel
theorem dX12_worth_161 : decode cX12_worth 161 = .ok (.iastore, 1) := by decide +kernel
theorem dX12_worth_162 : decode cX12_worth 162 = .ok (.aload_n 0, 1) := by decide +kernel
theorem dX12_worth_163 : decode cX12_worth 163 = .ok (.getfield 95, 3) := by decide +kernel
theorem dX12_worth_166 : decode cX12_worth 166 = .ok (.iload_n 2, 1) := by decide +kernel
theorem dX12_worth_167 : decode cX12_worth 167 = .ok (.iconst 0, 1) := by decide +kernel
theorem dX12_worth_168 : decode cX12_worth 168 = .ok (.iastore, 1) := by decide +kernel
theorem dX12_worth_169 : decode cX12_worth 169 = .ok (.aload_n 0, 1) := by decide +kernel
theorem dX12_worth_170 : decode cX12_worth 170 = .ok (.getfield 98, 3) := by decide +kernel
theorem dX12_worth_173 : decode cX12_worth 173 = .ok (.iload_n 2, 1) := by decide +kernel
theorem dX12_worth_174 : decode cX12_worth 174 = .ok (.bipush 20, 2) := by decide +kernel
theorem dX12_worth_176 : decode cX12_worth 176 = .ok (.iastore, 1) := by decide +kernel
theorem dX12_worth_177 : decode cX12_worth 177 = .ok (.goto 152, 3) := by decide +kernel
theorem dX12_worth_180 : decode cX12_worth 180 = .ok (.iload 4, 2) := by decide +kernel
theorem dX12_worth_182 : decode cX12_worth 182 = .ok (.bipush 26, 2) := by decide +kernel
theorem dX12_worth_184 : decode cX12_worth 184 = .ok (.if_icmp .eq 10, 3) := by decide +kernel
theorem dX12_worth_187 : decode cX12_worth 187 = .ok (.iload 4, 2) := by decide +kernel
theorem dX12_worth_189 : decode cX12_worth 189 = .ok (.bipush 27, 2) := by decide +kernel
theorem dX12_worth_191 : decode cX12_worth 191 = .ok (.if_icmp .ne 19, 3) := by decide +kernel
theorem dX12_worth_194 : decode cX12_worth 194 = .ok (.aload_n 0, 1) := by decide +kernel
theorem dX12_worth_195 : decode cX12_worth 195 = .ok (.iload_n 2, 1) := by decide +kernel
theorem dX12_worth_196 : decode cX12_worth 196 = .ok (.invokevirtual 426, 3) := by decide +kernel
theorem dX12_worth_199 : decode cX12_worth 199 = .ok (.aload_n 0, 1) := by decide +kernel
theorem dX12_worth_200 : decode cX12_worth 200 = .ok (.getfield 86, 3) := by decide +kernel
theorem dX12_worth_203 : decode cX12_worth 203 = .ok (.iload_n 2, 1) := by decide +kernel
theorem dX12_worth_204 : decode cX12_worth 204 = .ok (.iload 4, 2) := by decide +kernel
theorem dX12_worth_206 : decode cX12_worth 206 = .ok (.iastore, 1) := by decide +kernel
theorem dX12_worth_207 : decode cX12_worth 207 = .ok (.goto 122, 3) := by decide +kernel
theorem dX12_worth_210 : decode cX12_worth 210 = .ok (.iload 4, 2) := by decide +kernel
theorem dX12_worth_212 : decode cX12_worth 212 = .ok (.bipush 100, 2) := by decide +kernel
theorem dX12_worth_214 : decode cX12_worth 214 = .ok (.if_icmp .lt 11, 3) := by decide +kernel
theorem dX12_worth_217 : decode cX12_worth 217 = .ok (.iload 4, 2) := by decide +kernel
theorem dX12_worth_219 : decode cX12_worth 219 = .ok (.bipush 100, 2) := by decide +kernel
theorem dX12_worth_221 : decode cX12_worth 221 = .ok (.isub, 1) := by decide +kernel
theorem dX12_worth_222 : decode cX12_worth 222 = .ok (.goto 21, 3) := by decide +kernel
theorem dX12_worth_225 : decode cX12_worth 225 = .ok (.iload 4, 2) := by decide +kernel
theorem dX12_worth_227 : decode cX12_worth 227 = .ok (.bipush 20, 2) := by decide +kernel
theorem dX12_worth_229 : decode cX12_worth 229 = .ok (.if_icmp .ge 13, 3) := by decide +kernel
theorem dX12_worth_232 : decode cX12_worth 232 = .ok (.aload_n 0, 1) := by decide +kernel
theorem dX12_worth_233 : decode cX12_worth 233 = .ok (.getfield 110, 3) := by decide +kernel
theorem dX12_worth_236 : decode cX12_worth 236 = .ok (.iload 4, 2) := by decide +kernel
theorem dX12_worth_238 : decode cX12_worth 238 = .ok (.iaload, 1) := by decide +kernel
theorem dX12_worth_239 : decode cX12_worth 239 = .ok (.goto 4, 3) := by decide +kernel
theorem dX12_worth_242 : decode cX12_worth 242 = .ok (.iconst 0, 1) := by decide +kernel
theorem dX12_worth_243 : decode cX12_worth 243 = .ok (.istore 5, 2) := by decide +kernel
theorem dX12_worth_245 : decode cX12_worth 245 = .ok (.iload 4, 2) := by decide +kernel
theorem dX12_worth_247 : decode cX12_worth 247 = .ok (.bipush 29, 2) := by decide +kernel
theorem dX12_worth_249 : decode cX12_worth 249 = .ok (.if_icmp .ne 19, 3) := by decide +kernel
theorem dX12_worth_252 : decode cX12_worth 252 = .ok (.aload_n 0, 1) := by decide +kernel
theorem dX12_worth_253 : decode cX12_worth 253 = .ok (.iload_n 2, 1) := by decide +kernel
theorem dX12_worth_254 : decode cX12_worth 254 = .ok (.invokevirtual 426, 3) := by decide +kernel
theorem dX12_worth_257 : decode cX12_worth 257 = .ok (.aload_n 0, 1) := by decide +kernel
theorem dX12_worth_258 : decode cX12_worth 258 = .ok (.getfield 83, 3) := by decide +kernel
theorem dX12_worth_261 : decode cX12_worth 261 = .ok (.iload_n 2, 1) := by decide +kernel
theorem dX12_worth_262 : decode cX12_worth 262 = .ok (.iaload, 1) := by decide +kernel
theorem dX12_worth_263 : decode cX12_worth 263 = .ok (.istore 5, 2) := by decide +kernel
theorem dX12_worth_265 : decode cX12_worth 265 = .ok (.iinc 2 (-1), 3) := by decide +kernel
theorem dX12_worth_268 : decode cX12_worth 268 = .ok (.iload_n 2, 1) := by decide +kernel
theorem dX12_worth_269 : decode cX12_worth 269 = .ok (.ifCond .le 31, 3) := by decide +kernel
theorem dX12_worth_272 : decode cX12_worth 272 = .ok (.aload_n 0, 1) := by decide +kernel
theorem dX12_worth_273 : decode cX12_worth 273 = .ok (.getfield 107, 3) := by decide +kernel
theorem dX12_worth_276 : decode cX12_worth 276 = .ok (.iload_n 2, 1) := by decide +kernel
theorem dX12_worth_277 : decode cX12_worth 277 = .ok (.iaload, 1) := by decide +kernel
theorem dX12_worth_278 : decode cX12_worth 278 = .ok (.iconst 1, 1) := by decide +kernel
theorem dX12_worth_279 : decode cX12_worth 279 = .ok (.if_icmp .ne 21, 3) := by decide +kernel
theorem dX12_worth_282 : decode cX12_worth 282 = .ok (.iload 5, 2) := by decide +kernel
theorem dX12_worth_284 : decode cX12_worth 284 = .ok (.ifCond .ne 7, 3) := by decide +kernel
theorem dX12_worth_287 : decode cX12_worth 287 = .ok (.iconst 1, 1) := by decide +kernel
theorem dX12_worth_288 : decode cX12_worth 288 = .ok (.goto 4, 3) := by decide +kernel
theorem dX12_worth_291 : decode cX12_worth 291 = .ok (.iconst 0, 1) := by decide +kernel
theorem dX12_worth_292 : decode cX12_worth 292 = .ok (.istore 5, 2) := by decide +kernel
theorem dX12_worth_294 : decode cX12_worth 294 = .ok (.iinc 2 (-1), 3) := by decide +kernel
theorem dX12_worth_297 : decode cX12_worth 297 = .ok (.goto (-29), 3) := by decide +kernel
theorem dX12_worth_300 : decode cX12_worth 300 = .ok (.aload_n 0, 1) := by decide +kernel
theorem dX12_worth_301 : decode cX12_worth 301 = .ok (.getfield 101, 3) := by decide +kernel
theorem dX12_worth_304 : decode cX12_worth 304 = .ok (.iload_n 2, 1) := by decide +kernel
theorem dX12_worth_305 : decode cX12_worth 305 = .ok (.aload_n 0, 1) := by decide +kernel
theorem dX12_worth_306 : decode cX12_worth 306 = .ok (.getfield 104, 3) := by decide +kernel
theorem dX12_worth_309 : decode cX12_worth 309 = .ok (.iload_n 2, 1) := by decide +kernel
theorem dX12_worth_310 : decode cX12_worth 310 = .ok (.iaload, 1) := by decide +kernel
theorem dX12_worth_311 : decode cX12_worth 311 = .ok (.ifCond .ne 8, 3) := by decide +kernel
theorem dX12_worth_314 : decode cX12_worth 314 = .ok (.iload 5, 2) := by decide +kernel
theorem dX12_worth_316 : decode cX12_worth 316 = .ok (.goto 12, 3) := by decide +kernel
theorem dX12_worth_319 : decode cX12_worth 319 = .ok (.aload_n 0, 1) := by decide +kernel
theorem dX12_worth_320 : decode cX12_worth 320 = .ok (.getfield 101, 3) := by decide +kernel
theorem dX12_worth_323 : decode cX12_worth 323 = .ok (.iload_n 2, 1) := by decide +kernel
theorem dX12_worth_324 : decode cX12_worth 324 = .ok (.iaload, 1) := by decide +kernel
theorem dX12_worth_325 : decode cX12_worth 325 = .ok (.iload 5, 2) := by decide +kernel
theorem dX12_worth_327 : decode cX12_worth 327 = .ok (.imul, 1) := by decide +kernel
theorem dX12_worth_328 : decode cX12_worth 328 = .ok (.iastore, 1) := by decide +kernel
theorem dX12_worth_329 : decode cX12_worth 329 = .ok (.iinc 3 1, 3) := by decide +kernel
theorem dX12_worth_332 : decode cX12_worth 332 = .ok (.goto (-318), 3) := by decide +kernel
theorem dX12_worth_335 : decode cX12_worth 335 = .ok (.aload_n 0, 1) := by decide +kernel
theorem dX12_worth_336 : decode cX12_worth 336 = .ok (.iconst 0, 1) := by decide +kernel
theorem dX12_worth_337 : decode cX12_worth 337 = .ok (.invokevirtual 426, 3) := by decide +kernel
theorem dX12_worth_340 : decode cX12_worth 340 = .ok (.aload_n 0, 1) := by decide +kernel
theorem dX12_worth_341 : decode cX12_worth 341 = .ok (.getfield 83, 3) := by decide +kernel
theorem dX12_worth_344 : decode cX12_worth 344 = .ok (.iconst 0, 1) := by decide +kernel
theorem dX12_worth_345 : decode cX12_worth 345 = .ok (.iaload, 1) := by decide +kernel
theorem dX12_worth_346 : decode cX12_worth 346 = .ok (.ireturn, 1) := by decide +kernel
theorem dX1_bestSites_0 : decode cX1_bestSites 0 = .ok (.aload_n 0, 1) := by decide +kernel
theorem dX1_bestSites_1 : decode cX1_bestSites 1 = .ok (.getfield 36, 3) := by decide +kernel
theorem dX1_bestSites_4 : decode cX1_bestSites 4 = .ok (.i2l, 1) := by decide +kernel
theorem dX1_bestSites_5 : decode cX1_bestSites 5 = .ok (.iload_n 1, 1) := by decide +kernel
theorem dX1_bestSites_6 : decode cX1_bestSites 6 = .ok (.invokestatic 61, 3) := by decide +kernel
theorem dX1_bestSites_9 : decode cX1_bestSites 9 = .ok (.ifCond .ne 21, 3) := by decide +kernel
theorem dX1_bestSites_12 : decode cX1_bestSites 12 = .ok (.aload_n 0, 1) := by decide +kernel
theorem dX1_bestSites_13 : decode cX1_bestSites 13 = .ok (.iload_n 1, 1) := by decide +kernel
theorem dX1_bestSites_14 : decode cX1_bestSites 14 = .ok (.lload_n 3, 1) := by decide +kernel
theorem dX1_bestSites_15 : decode cX1_bestSites 15 = .ok (.invokevirtual 95, 3) := by decide +kernel
theorem dX1_bestSites_18 : decode cX1_bestSites 18 = .ok (.aload_n 0, 1) := by decide +kernel
theorem dX1_bestSites_19 : decode cX1_bestSites 19 = .ok (.dup, 1) := by decide +kernel
theorem dX1_bestSites_20 : decode cX1_bestSites 20 = .ok (.getfield 36, 3) := by decide +kernel
theorem dX1_bestSites_23 : decode cX1_bestSites 23 = .ok (.iconst 1, 1) := by decide +kernel
theorem dX1_bestSites_24 : decode cX1_bestSites 24 = .ok (.iload_n 1, 1) := by decide +kernel
theorem dX1_bestSites_25 : decode cX1_bestSites 25 = .ok (.ishl, 1) := by decide +kernel
theorem dX1_bestSites_26 : decode cX1_bestSites 26 = .ok (.ior, 1) := by decide +kernel
theorem dX1_bestSites_27 : decode cX1_bestSites 27 = .ok (.putfield 36, 3) := by decide +kernel
theorem dX1_bestSites_30 : decode cX1_bestSites 30 = .ok (.iload_n 1, 1) := by decide +kernel
theorem dX1_bestSites_31 : decode cX1_bestSites 31 = .ok (.iconst 1, 1) := by decide +kernel
theorem dX1_bestSites_32 : decode cX1_bestSites 32 = .ok (.isub, 1) := by decide +kernel
theorem dX1_bestSites_33 : decode cX1_bestSites 33 = .ok (.iconst 3, 1) := by decide +kernel
theorem dX1_bestSites_34 : decode cX1_bestSites 34 = .ok (.imul, 1) := by decide +kernel
theorem dX1_bestSites_35 : decode cX1_bestSites 35 = .ok (.istore 5, 2) := by decide +kernel
theorem dX1_bestSites_37 : decode cX1_bestSites 37 = .ok (.aload_n 0, 1) := by decide +kernel
theorem dX1_bestSites_38 : decode cX1_bestSites 38 = .ok (.getfield 29, 3) := by decide +kernel
theorem dX1_bestSites_41 : decode cX1_bestSites 41 = .ok (.iload 5, 2) := by decide +kernel
theorem dX1_bestSites_43 : decode cX1_bestSites 43 = .ok (.iaload, 1) := by decide +kernel
theorem dX1_bestSites_44 : decode cX1_bestSites 44 = .ok (.iconst (-1), 1) := by decide +kernel
theorem dX1_bestSites_45 : decode cX1_bestSites 45 = .ok (.if_icmp .ne 7, 3) := by decide +kernel
theorem dX1_bestSites_48 : decode cX1_bestSites 48 = .ok (.iconst (-1), 1) := by decide +kernel
theorem dX1_bestSites_49 : decode cX1_bestSites 49 = .ok (.goto 12, 3) := by decide +kernel
theorem dX1_bestSites_52 : decode cX1_bestSites 52 = .ok (.aload_n 0, 1) := by decide +kernel
theorem dX1_bestSites_53 : decode cX1_bestSites 53 = .ok (.getfield 29, 3) := by decide +kernel
theorem dX1_bestSites_56 : decode cX1_bestSites 56 = .ok (.iload 5, 2) := by decide +kernel
theorem dX1_bestSites_58 : decode cX1_bestSites 58 = .ok (.iload_n 2, 1) := by decide +kernel
theorem dX1_bestSites_59 : decode cX1_bestSites 59 = .ok (.iadd, 1) := by decide +kernel
theorem dX1_bestSites_60 : decode cX1_bestSites 60 = .ok (.iaload, 1) := by decide +kernel
theorem dX1_bestSites_61 : decode cX1_bestSites 61 = .ok (.ireturn, 1) := by decide +kernel
theorem dX1_cutSize_0 : decode cX1_cutSize 0 = .ok (.aload_n 0, 1) := by decide +kernel
theorem dX1_cutSize_1 : decode cX1_cutSize 1 = .ok (.getfield 25, 3) := by decide +kernel
theorem dX1_cutSize_4 : decode cX1_cutSize 4 = .ok (.iload_n 1, 1) := by decide +kernel
theorem dX1_cutSize_5 : decode cX1_cutSize 5 = .ok (.if_icmp .eq 17, 3) := by decide +kernel
theorem dX1_cutSize_8 : decode cX1_cutSize 8 = .ok (.aload_n 0, 1) := by decide +kernel
theorem dX1_cutSize_9 : decode cX1_cutSize 9 = .ok (.iload_n 1, 1) := by decide +kernel
theorem dX1_cutSize_10 : decode cX1_cutSize 10 = .ok (.putfield 25, 3) := by decide +kernel
theorem dX1_cutSize_13 : decode cX1_cutSize 13 = .ok (.aload_n 0, 1) := by decide +kernel
theorem dX1_cutSize_14 : decode cX1_cutSize 14 = .ok (.aload_n 0, 1) := by decide +kernel
theorem dX1_cutSize_15 : decode cX1_cutSize 15 = .ok (.iload_n 1, 1) := by decide +kernel
theorem dX1_cutSize_16 : decode cX1_cutSize 16 = .ok (.invokevirtual 44, 3) := by decide +kernel
theorem dX1_cutSize_19 : decode cX1_cutSize 19 = .ok (.putfield 48, 3) := by decide +kernel
theorem dX1_cutSize_22 : decode cX1_cutSize 22 = .ok (.aload_n 0, 1) := by decide +kernel
theorem dX1_cutSize_23 : decode cX1_cutSize 23 = .ok (.getfield 48, 3) := by decide +kernel
theorem dX1_cutSize_26 : decode cX1_cutSize 26 = .ok (.ireturn, 1) := by decide +kernel
theorem dX1_cuts_0 : decode cX1_cuts 0 = .ok (.iload_n 2, 1) := by decide +kernel
theorem dX1_cuts_1 : decode cX1_cuts 1 = .ok (.iconst 1, 1) := by decide +kernel
theorem dX1_cuts_2 : decode cX1_cuts 2 = .ok (.if_icmp .lt 8, 3) := by decide +kernel
theorem dX1_cuts_5 : decode cX1_cuts 5 = .ok (.iload_n 2, 1) := by decide +kernel
theorem dX1_cuts_6 : decode cX1_cuts 6 = .ok (.iconst 3, 1) := by decide +kernel
theorem dX1_cuts_7 : decode cX1_cuts 7 = .ok (.if_icmp .le 23, 3) := by decide +kernel
theorem dX1_cuts_10 : decode cX1_cuts 10 = .ok (.aload_n 0, 1) := by decide +kernel
theorem dX1_cuts_11 : decode cX1_cuts 11 = .ok (.lload 4, 2) := by decide +kernel
theorem dX1_cuts_13 : decode cX1_cuts 13 = .ok (.invokevirtual 57, 3) := by decide +kernel
theorem dX1_cuts_16 : decode cX1_cuts 16 = .ok (.i2l, 1) := by decide +kernel
theorem dX1_cuts_17 : decode cX1_cuts 17 = .ok (.iload_n 1, 1) := by decide +kernel
theorem dX1_cuts_18 : decode cX1_cuts 18 = .ok (.invokestatic 61, 3) := by decide +kernel
theorem dX1_cuts_21 : decode cX1_cuts 21 = .ok (.ifCond .ne 7, 3) := by decide +kernel
theorem dX1_cuts_24 : decode cX1_cuts 24 = .ok (.iconst 1, 1) := by decide +kernel
theorem dX1_cuts_25 : decode cX1_cuts 25 = .ok (.goto 4, 3) := by decide +kernel
theorem dX1_cuts_28 : decode cX1_cuts 28 = .ok (.iconst 0, 1) := by decide +kernel
theorem dX1_cuts_29 : decode cX1_cuts 29 = .ok (.ireturn, 1) := by decide +kernel
theorem dX1_cuts_30 : decode cX1_cuts 30 = .ok (.aload_n 0, 1) := by decide +kernel
theorem dX1_cuts_31 : decode cX1_cuts 31 = .ok (.lload 4, 2) := by decide +kernel
theorem dX1_cuts_33 : decode cX1_cuts 33 = .ok (.lconst 1, 1) := by decide +kernel
theorem dX1_cuts_34 : decode cX1_cuts 34 = .ok (.iload_n 3, 1) := by decide +kernel
theorem dX1_cuts_35 : decode cX1_cuts 35 = .ok (.lshl, 1) := by decide +kernel
theorem dX1_cuts_36 : decode cX1_cuts 36 = .ok (.lconst 1, 1) := by decide +kernel
theorem dX1_cuts_37 : decode cX1_cuts 37 = .ok (.lsub, 1) := by decide +kernel
theorem dX1_cuts_38 : decode cX1_cuts 38 = .ok (.land, 1) := by decide +kernel
theorem dX1_cuts_39 : decode cX1_cuts 39 = .ok (.invokevirtual 57, 3) := by decide +kernel
theorem dX1_cuts_42 : decode cX1_cuts 42 = .ok (.i2l, 1) := by decide +kernel
theorem dX1_cuts_43 : decode cX1_cuts 43 = .ok (.iload_n 1, 1) := by decide +kernel
theorem dX1_cuts_44 : decode cX1_cuts 44 = .ok (.invokestatic 61, 3) := by decide +kernel
theorem dX1_cuts_47 : decode cX1_cuts 47 = .ok (.ifCond .eq 5, 3) := by decide +kernel
theorem dX1_cuts_50 : decode cX1_cuts 50 = .ok (.iconst 0, 1) := by decide +kernel
theorem dX1_cuts_51 : decode cX1_cuts 51 = .ok (.ireturn, 1) := by decide +kernel
theorem dX1_cuts_52 : decode cX1_cuts 52 = .ok (.iload_n 3, 1) := by decide +kernel
theorem dX1_cuts_53 : decode cX1_cuts 53 = .ok (.istore 8, 2) := by decide +kernel
theorem dX1_cuts_55 : decode cX1_cuts 55 = .ok (.iload 8, 2) := by decide +kernel
theorem dX1_cuts_57 : decode cX1_cuts 57 = .ok (.aload_n 0, 1) := by decide +kernel
theorem dX1_cuts_58 : decode cX1_cuts 58 = .ok (.getfield 32, 3) := by decide +kernel
theorem dX1_cuts_61 : decode cX1_cuts 61 = .ok (.getfield 76, 3) := by decide +kernel
theorem dX1_cuts_64 : decode cX1_cuts 64 = .ok (.if_icmp .ge 59, 3) := by decide +kernel
theorem dX1_cuts_67 : decode cX1_cuts 67 = .ok (.lload 6, 2) := by decide +kernel
theorem dX1_cuts_69 : decode cX1_cuts 69 = .ok (.iload 8, 2) := by decide +kernel
theorem dX1_cuts_71 : decode cX1_cuts 71 = .ok (.invokestatic 61, 3) := by decide +kernel
theorem dX1_cuts_74 : decode cX1_cuts 74 = .ok (.ifCond .eq 43, 3) := by decide +kernel
theorem dX1_cuts_77 : decode cX1_cuts 77 = .ok (.aload_n 0, 1) := by decide +kernel
theorem dX1_cuts_78 : decode cX1_cuts 78 = .ok (.getfield 22, 3) := by decide +kernel
theorem dX1_cuts_81 : decode cX1_cuts 81 = .ok (.iload_n 2, 1) := by decide +kernel
theorem dX1_cuts_82 : decode cX1_cuts 82 = .ok (.iconst 1, 1) := by decide +kernel
theorem dX1_cuts_83 : decode cX1_cuts 83 = .ok (.isub, 1) := by decide +kernel
theorem dX1_cuts_84 : decode cX1_cuts 84 = .ok (.iload 8, 2) := by decide +kernel
theorem dX1_cuts_86 : decode cX1_cuts 86 = .ok (.iastore, 1) := by decide +kernel
theorem dX1_cuts_87 : decode cX1_cuts 87 = .ok (.aload_n 0, 1) := by decide +kernel
theorem dX1_cuts_88 : decode cX1_cuts 88 = .ok (.iload_n 1, 1) := by decide +kernel
theorem dX1_cuts_89 : decode cX1_cuts 89 = .ok (.iload_n 2, 1) := by decide +kernel
theorem dX1_cuts_90 : decode cX1_cuts 90 = .ok (.iconst 1, 1) := by decide +kernel
theorem dX1_cuts_91 : decode cX1_cuts 91 = .ok (.isub, 1) := by decide +kernel
theorem dX1_cuts_92 : decode cX1_cuts 92 = .ok (.iload 8, 2) := by decide +kernel
theorem dX1_cuts_94 : decode cX1_cuts 94 = .ok (.iconst 1, 1) := by decide +kernel
theorem dX1_cuts_95 : decode cX1_cuts 95 = .ok (.iadd, 1) := by decide +kernel
theorem dX1_cuts_96 : decode cX1_cuts 96 = .ok (.lload 4, 2) := by decide +kernel
theorem dX1_cuts_98 : decode cX1_cuts 98 = .ok (.lconst 1, 1) := by decide +kernel
theorem dX1_cuts_99 : decode cX1_cuts 99 = .ok (.iload 8, 2) := by decide +kernel
theorem dX1_cuts_101 : decode cX1_cuts 101 = .ok (.lshl, 1) := by decide +kernel
theorem dX1_cuts_102 : decode cX1_cuts 102 = .ok (.ldc2_w 42, 3) := by decide +kernel
theorem dX1_cuts_105 : decode cX1_cuts 105 = .ok (.lxor, 1) := by decide +kernel
theorem dX1_cuts_106 : decode cX1_cuts 106 = .ok (.land, 1) := by decide +kernel
theorem dX1_cuts_107 : decode cX1_cuts 107 = .ok (.lload 6, 2) := by decide +kernel
theorem dX1_cuts_109 : decode cX1_cuts 109 = .ok (.invokevirtual 68, 3) := by decide +kernel
theorem dX1_cuts_112 : decode cX1_cuts 112 = .ok (.ifCond .eq 5, 3) := by decide +kernel
theorem dX1_cuts_115 : decode cX1_cuts 115 = .ok (.iconst 1, 1) := by decide +kernel
theorem dX1_cuts_116 : decode cX1_cuts 116 = .ok (.ireturn, 1) := by decide +kernel
theorem dX1_cuts_117 : decode cX1_cuts 117 = .ok (.iinc 8 1, 3) := by decide +kernel
theorem dX1_cuts_120 : decode cX1_cuts 120 = .ok (.goto (-65), 3) := by decide +kernel
theorem dX1_cuts_123 : decode cX1_cuts 123 = .ok (.iconst 0, 1) := by decide +kernel
theorem dX1_cuts_124 : decode cX1_cuts 124 = .ok (.ireturn, 1) := by decide +kernel
theorem dX1_findsInGrounds_0 : decode cX1_findsInGrounds 0 = .ok (.lconst 0, 1) := by decide +kernel
theorem dX1_findsInGrounds_1 : decode cX1_findsInGrounds 1 = .ok (.lstore_n 1, 1) := by decide +kernel
theorem dX1_findsInGrounds_2 : decode cX1_findsInGrounds 2 = .ok (.iconst 0, 1) := by decide +kernel
theorem dX1_findsInGrounds_3 : decode cX1_findsInGrounds 3 = .ok (.istore_n 3, 1) := by decide +kernel
theorem dX1_findsInGrounds_4 : decode cX1_findsInGrounds 4 = .ok (.iload_n 3, 1) := by decide +kernel
theorem dX1_findsInGrounds_5 : decode cX1_findsInGrounds 5 = .ok (.aload_n 0, 1) := by decide +kernel
theorem dX1_findsInGrounds_6 : decode cX1_findsInGrounds 6 = .ok (.getfield 39, 3) := by decide +kernel
theorem dX1_findsInGrounds_9 : decode cX1_findsInGrounds 9 = .ok (.if_icmp .ge 18, 3) := by decide +kernel
theorem dX1_findsInGrounds_12 : decode cX1_findsInGrounds 12 = .ok (.lload_n 1, 1) := by decide +kernel
theorem dX1_findsInGrounds_13 : decode cX1_findsInGrounds 13 = .ok (.aload_n 0, 1) := by decide +kernel
theorem dX1_findsInGrounds_14 : decode cX1_findsInGrounds 14 = .ok (.getfield 15, 3) := by decide +kernel
theorem dX1_findsInGrounds_17 : decode cX1_findsInGrounds 17 = .ok (.iload_n 3, 1) := by decide +kernel
theorem dX1_findsInGrounds_18 : decode cX1_findsInGrounds 18 = .ok (.laload, 1) := by decide +kernel
theorem dX1_findsInGrounds_19 : decode cX1_findsInGrounds 19 = .ok (.lor, 1) := by decide +kernel
theorem dX1_findsInGrounds_20 : decode cX1_findsInGrounds 20 = .ok (.lstore_n 1, 1) := by decide +kernel
theorem dX1_findsInGrounds_21 : decode cX1_findsInGrounds 21 = .ok (.iinc 3 1, 3) := by decide +kernel
theorem dX1_findsInGrounds_24 : decode cX1_findsInGrounds 24 = .ok (.goto (-20), 3) := by decide +kernel
theorem dX1_findsInGrounds_27 : decode cX1_findsInGrounds 27 = .ok (.lload_n 1, 1) := by decide +kernel
theorem dX1_findsInGrounds_28 : decode cX1_findsInGrounds 28 = .ok (.lreturn, 1) := by decide +kernel
theorem dX1_forget_0 : decode cX1_forget 0 = .ok (.aload_n 0, 1) := by decide +kernel
theorem dX1_forget_1 : decode cX1_forget 1 = .ok (.iconst (-1), 1) := by decide +kernel
theorem dX1_forget_2 : decode cX1_forget 2 = .ok (.putfield 25, 3) := by decide +kernel
theorem dX1_forget_5 : decode cX1_forget 5 = .ok (.aload_n 0, 1) := by decide +kernel
theorem dX1_forget_6 : decode cX1_forget 6 = .ok (.iconst 0, 1) := by decide +kernel
theorem dX1_forget_7 : decode cX1_forget 7 = .ok (.putfield 36, 3) := by decide +kernel
theorem dX1_forget_10 : decode cX1_forget 10 = .ok (.return_, 1) := by decide +kernel
theorem dX1_goodFor_0 : decode cX1_goodFor 0 = .ok (.lload_n 2, 1) := by decide +kernel
theorem dX1_goodFor_1 : decode cX1_goodFor 1 = .ok (.aload_n 0, 1) := by decide +kernel
theorem dX1_goodFor_2 : decode cX1_goodFor 2 = .ok (.getfield 32, 3) := by decide +kernel
theorem dX1_goodFor_5 : decode cX1_goodFor 5 = .ok (.iload_n 1, 1) := by decide +kernel
theorem dX1_goodFor_6 : decode cX1_goodFor 6 = .ok (.invokevirtual 78, 3) := by decide +kernel
theorem dX1_goodFor_9 : decode cX1_goodFor 9 = .ok (.land, 1) := by decide +kernel
theorem dX1_goodFor_10 : decode cX1_goodFor 10 = .ok (.lstore 4, 2) := by decide +kernel
theorem dX1_goodFor_12 : decode cX1_goodFor 12 = .ok (.lload 4, 2) := by decide +kernel
theorem dX1_goodFor_14 : decode cX1_goodFor 14 = .ok (.invokestatic 82, 3) := by decide +kernel
theorem dX1_goodFor_17 : decode cX1_goodFor 17 = .ok (.bipush 10, 2) := by decide +kernel
theorem dX1_goodFor_19 : decode cX1_goodFor 19 = .ok (.if_icmp .le 5, 3) := by decide +kernel
theorem dX1_goodFor_22 : decode cX1_goodFor 22 = .ok (.iconst (-1), 1) := by decide +kernel
theorem dX1_goodFor_23 : decode cX1_goodFor 23 = .ok (.ireturn, 1) := by decide +kernel
theorem dX1_goodFor_24 : decode cX1_goodFor 24 = .ok (.aload_n 0, 1) := by decide +kernel
theorem dX1_goodFor_25 : decode cX1_goodFor 25 = .ok (.getfield 32, 3) := by decide +kernel
theorem dX1_goodFor_28 : decode cX1_goodFor 28 = .ok (.invokevirtual 51, 3) := by decide +kernel
theorem dX1_goodFor_31 : decode cX1_goodFor 31 = .ok (.lload_n 2, 1) := by decide +kernel
theorem dX1_goodFor_32 : decode cX1_goodFor 32 = .ok (.ldc2_w 42, 3) := by decide +kernel
theorem dX1_goodFor_35 : decode cX1_goodFor 35 = .ok (.lxor, 1) := by decide +kernel
theorem dX1_goodFor_36 : decode cX1_goodFor 36 = .ok (.land, 1) := by decide +kernel
theorem dX1_goodFor_37 : decode cX1_goodFor 37 = .ok (.lstore 6, 2) := by decide +kernel
theorem dX1_goodFor_39 : decode cX1_goodFor 39 = .ok (.lload_n 2, 1) := by decide +kernel
theorem dX1_goodFor_40 : decode cX1_goodFor 40 = .ok (.lload 4, 2) := by decide +kernel
theorem dX1_goodFor_42 : decode cX1_goodFor 42 = .ok (.ldc2_w 42, 3) := by decide +kernel
theorem dX1_goodFor_45 : decode cX1_goodFor 45 = .ok (.lxor, 1) := by decide +kernel
theorem dX1_goodFor_46 : decode cX1_goodFor 46 = .ok (.land, 1) := by decide +kernel
theorem dX1_goodFor_47 : decode cX1_goodFor 47 = .ok (.lstore 8, 2) := by decide +kernel
theorem dX1_goodFor_49 : decode cX1_goodFor 49 = .ok (.lload 4, 2) := by decide +kernel
theorem dX1_goodFor_51 : decode cX1_goodFor 51 = .ok (.aload_n 0, 1) := by decide +kernel
theorem dX1_goodFor_52 : decode cX1_goodFor 52 = .ok (.invokevirtual 65, 3) := by decide +kernel
theorem dX1_goodFor_55 : decode cX1_goodFor 55 = .ok (.land, 1) := by decide +kernel
theorem dX1_goodFor_56 : decode cX1_goodFor 56 = .ok (.lstore 10, 2) := by decide +kernel
theorem dX1_goodFor_58 : decode cX1_goodFor 58 = .ok (.sipush 4095, 3) := by decide +kernel
theorem dX1_goodFor_61 : decode cX1_goodFor 61 = .ok (.aload_n 0, 1) := by decide +kernel
theorem dX1_goodFor_62 : decode cX1_goodFor 62 = .ok (.lload 6, 2) := by decide +kernel
theorem dX1_goodFor_64 : decode cX1_goodFor 64 = .ok (.lload_n 2, 1) := by decide +kernel
theorem dX1_goodFor_65 : decode cX1_goodFor 65 = .ok (.invokevirtual 87, 3) := by decide +kernel
theorem dX1_goodFor_68 : decode cX1_goodFor 68 = .ok (.iconst (-1), 1) := by decide +kernel
theorem dX1_goodFor_69 : decode cX1_goodFor 69 = .ok (.ixor, 1) := by decide +kernel
theorem dX1_goodFor_70 : decode cX1_goodFor 70 = .ok (.iand, 1) := by decide +kernel
theorem dX1_goodFor_71 : decode cX1_goodFor 71 = .ok (.istore 12, 2) := by decide +kernel
theorem dX1_goodFor_73 : decode cX1_goodFor 73 = .ok (.sipush 4095, 3) := by decide +kernel
theorem dX1_goodFor_76 : decode cX1_goodFor 76 = .ok (.istore 13, 2) := by decide +kernel
theorem dX1_goodFor_78 : decode cX1_goodFor 78 = .ok (.lconst 0, 1) := by decide +kernel
theorem dX1_goodFor_79 : decode cX1_goodFor 79 = .ok (.lstore 14, 2) := by decide +kernel
theorem dX1_goodFor_81 : decode cX1_goodFor 81 = .ok (.iconst 1, 1) := by decide +kernel
theorem dX1_goodFor_82 : decode cX1_goodFor 82 = .ok (.lload 10, 2) := by decide +kernel
theorem dX1_goodFor_84 : decode cX1_goodFor 84 = .ok (.invokestatic 82, 3) := by decide +kernel
theorem dX1_goodFor_87 : decode cX1_goodFor 87 = .ok (.ishl, 1) := by decide +kernel
theorem dX1_goodFor_88 : decode cX1_goodFor 88 = .ok (.istore 16, 2) := by decide +kernel
theorem dX1_goodFor_90 : decode cX1_goodFor 90 = .ok (.iconst 0, 1) := by decide +kernel
theorem dX1_goodFor_91 : decode cX1_goodFor 91 = .ok (.istore 17, 2) := by decide +kernel
theorem dX1_goodFor_93 : decode cX1_goodFor 93 = .ok (.iload 17, 2) := by decide +kernel
theorem dX1_goodFor_95 : decode cX1_goodFor 95 = .ok (.iload 16, 2) := by decide +kernel
theorem dX1_goodFor_97 : decode cX1_goodFor 97 = .ok (.if_icmp .ge 43, 3) := by decide +kernel
theorem dX1_goodFor_100 : decode cX1_goodFor 100 = .ok (.iload 13, 2) := by decide +kernel
theorem dX1_goodFor_102 : decode cX1_goodFor 102 = .ok (.iload 12, 2) := by decide +kernel
theorem dX1_goodFor_104 : decode cX1_goodFor 104 = .ok (.iand, 1) := by decide +kernel
theorem dX1_goodFor_105 : decode cX1_goodFor 105 = .ok (.ifCond .eq 35, 3) := by decide +kernel
theorem dX1_goodFor_108 : decode cX1_goodFor 108 = .ok (.iload 13, 2) := by decide +kernel
theorem dX1_goodFor_110 : decode cX1_goodFor 110 = .ok (.aload_n 0, 1) := by decide +kernel
theorem dX1_goodFor_111 : decode cX1_goodFor 111 = .ok (.lload 6, 2) := by decide +kernel
theorem dX1_goodFor_113 : decode cX1_goodFor 113 = .ok (.lload 14, 2) := by decide +kernel
theorem dX1_goodFor_115 : decode cX1_goodFor 115 = .ok (.lor, 1) := by decide +kernel
theorem dX1_goodFor_116 : decode cX1_goodFor 116 = .ok (.lload 8, 2) := by decide +kernel
theorem dX1_goodFor_118 : decode cX1_goodFor 118 = .ok (.invokevirtual 87, 3) := by decide +kernel
theorem dX1_goodFor_121 : decode cX1_goodFor 121 = .ok (.iand, 1) := by decide +kernel
theorem dX1_goodFor_122 : decode cX1_goodFor 122 = .ok (.istore 13, 2) := by decide +kernel
theorem dX1_goodFor_124 : decode cX1_goodFor 124 = .ok (.lload 14, 2) := by decide +kernel
theorem dX1_goodFor_126 : decode cX1_goodFor 126 = .ok (.lload 10, 2) := by decide +kernel
theorem dX1_goodFor_128 : decode cX1_goodFor 128 = .ok (.lsub, 1) := by decide +kernel
theorem dX1_goodFor_129 : decode cX1_goodFor 129 = .ok (.lload 10, 2) := by decide +kernel
theorem dX1_goodFor_131 : decode cX1_goodFor 131 = .ok (.land, 1) := by decide +kernel
theorem dX1_goodFor_132 : decode cX1_goodFor 132 = .ok (.lstore 14, 2) := by decide +kernel
theorem dX1_goodFor_134 : decode cX1_goodFor 134 = .ok (.iinc 17 1, 3) := by decide +kernel
theorem dX1_goodFor_137 : decode cX1_goodFor 137 = .ok (.goto (-44), 3) := by decide +kernel
theorem dX1_goodFor_140 : decode cX1_goodFor 140 = .ok (.iload 13, 2) := by decide +kernel
theorem dX1_goodFor_142 : decode cX1_goodFor 142 = .ok (.invokestatic 91, 3) := by decide +kernel
theorem dX1_goodFor_145 : decode cX1_goodFor 145 = .ok (.ireturn, 1) := by decide +kernel
theorem dX1_offer_0 : decode cX1_offer 0 = .ok (.iload_n 2, 1) := by decide +kernel
theorem dX1_offer_1 : decode cX1_offer 1 = .ok (.aload_n 0, 1) := by decide +kernel
theorem dX1_offer_2 : decode cX1_offer 2 = .ok (.getfield 29, 3) := by decide +kernel
theorem dX1_offer_5 : decode cX1_offer 5 = .ok (.iload_n 1, 1) := by decide +kernel
theorem dX1_offer_6 : decode cX1_offer 6 = .ok (.iaload, 1) := by decide +kernel
theorem dX1_offer_7 : decode cX1_offer 7 = .ok (.if_icmp .le 29, 3) := by decide +kernel
theorem dX1_offer_10 : decode cX1_offer 10 = .ok (.aload_n 0, 1) := by decide +kernel
theorem dX1_offer_11 : decode cX1_offer 11 = .ok (.getfield 29, 3) := by decide +kernel
theorem dX1_offer_14 : decode cX1_offer 14 = .ok (.iload_n 1, 1) := by decide +kernel
theorem dX1_offer_15 : decode cX1_offer 15 = .ok (.iload_n 2, 1) := by decide +kernel
theorem dX1_offer_16 : decode cX1_offer 16 = .ok (.iastore, 1) := by decide +kernel
theorem dX1_offer_17 : decode cX1_offer 17 = .ok (.aload_n 0, 1) := by decide +kernel
theorem dX1_offer_18 : decode cX1_offer 18 = .ok (.getfield 29, 3) := by decide +kernel
theorem dX1_offer_21 : decode cX1_offer 21 = .ok (.iload_n 1, 1) := by decide +kernel
theorem dX1_offer_22 : decode cX1_offer 22 = .ok (.iconst 1, 1) := by decide +kernel
theorem dX1_offer_23 : decode cX1_offer 23 = .ok (.iadd, 1) := by decide +kernel
theorem dX1_offer_24 : decode cX1_offer 24 = .ok (.iload_n 3, 1) := by decide +kernel
theorem dX1_offer_25 : decode cX1_offer 25 = .ok (.iastore, 1) := by decide +kernel
theorem dX1_offer_26 : decode cX1_offer 26 = .ok (.aload_n 0, 1) := by decide +kernel
theorem dX1_offer_27 : decode cX1_offer 27 = .ok (.getfield 29, 3) := by decide +kernel
theorem dX1_offer_30 : decode cX1_offer 30 = .ok (.iload_n 1, 1) := by decide +kernel
theorem dX1_offer_31 : decode cX1_offer 31 = .ok (.iconst 2, 1) := by decide +kernel
theorem dX1_offer_32 : decode cX1_offer 32 = .ok (.iadd, 1) := by decide +kernel
theorem dX1_offer_33 : decode cX1_offer 33 = .ok (.iload 4, 2) := by decide +kernel
theorem dX1_offer_35 : decode cX1_offer 35 = .ok (.iastore, 1) := by decide +kernel
theorem dX1_offer_36 : decode cX1_offer 36 = .ok (.return_, 1) := by decide +kernel
theorem dX1_seekBest_0 : decode cX1_seekBest 0 = .ok (.iload_n 1, 1) := by decide +kernel
theorem dX1_seekBest_1 : decode cX1_seekBest 1 = .ok (.iconst 1, 1) := by decide +kernel
theorem dX1_seekBest_2 : decode cX1_seekBest 2 = .ok (.isub, 1) := by decide +kernel
theorem dX1_seekBest_3 : decode cX1_seekBest 3 = .ok (.iconst 3, 1) := by decide +kernel
theorem dX1_seekBest_4 : decode cX1_seekBest 4 = .ok (.imul, 1) := by decide +kernel
theorem dX1_seekBest_5 : decode cX1_seekBest 5 = .ok (.istore 4, 2) := by decide +kernel
theorem dX1_seekBest_7 : decode cX1_seekBest 7 = .ok (.aload_n 0, 1) := by decide +kernel
theorem dX1_seekBest_8 : decode cX1_seekBest 8 = .ok (.getfield 29, 3) := by decide +kernel
theorem dX1_seekBest_11 : decode cX1_seekBest 11 = .ok (.iload 4, 2) := by decide +kernel
theorem dX1_seekBest_13 : decode cX1_seekBest 13 = .ok (.iconst (-1), 1) := by decide +kernel
theorem dX1_seekBest_14 : decode cX1_seekBest 14 = .ok (.iastore, 1) := by decide +kernel
theorem dX1_seekBest_15 : decode cX1_seekBest 15 = .ok (.iconst 0, 1) := by decide +kernel
theorem dX1_seekBest_16 : decode cX1_seekBest 16 = .ok (.istore 5, 2) := by decide +kernel
theorem dX1_seekBest_18 : decode cX1_seekBest 18 = .ok (.iload 5, 2) := by decide +kernel
theorem dX1_seekBest_20 : decode cX1_seekBest 20 = .ok (.bipush 8, 2) := by decide +kernel
theorem dX1_seekBest_22 : decode cX1_seekBest 22 = .ok (.if_icmp .ge 78, 3) := by decide +kernel
theorem dX1_seekBest_25 : decode cX1_seekBest 25 = .ok (.iload_n 1, 1) := by decide +kernel
theorem dX1_seekBest_26 : decode cX1_seekBest 26 = .ok (.iconst 1, 1) := by decide +kernel
theorem dX1_seekBest_27 : decode cX1_seekBest 27 = .ok (.if_icmp .ne 24, 3) := by decide +kernel
theorem dX1_seekBest_30 : decode cX1_seekBest 30 = .ok (.aload_n 0, 1) := by decide +kernel
theorem dX1_seekBest_31 : decode cX1_seekBest 31 = .ok (.iload 4, 2) := by decide +kernel
theorem dX1_seekBest_33 : decode cX1_seekBest 33 = .ok (.aload_n 0, 1) := by decide +kernel
theorem dX1_seekBest_34 : decode cX1_seekBest 34 = .ok (.iconst 1, 1) := by decide +kernel
theorem dX1_seekBest_35 : decode cX1_seekBest 35 = .ok (.iload 5, 2) := by decide +kernel
theorem dX1_seekBest_37 : decode cX1_seekBest 37 = .ok (.ishl, 1) := by decide +kernel
theorem dX1_seekBest_38 : decode cX1_seekBest 38 = .ok (.lload_n 2, 1) := by decide +kernel
theorem dX1_seekBest_39 : decode cX1_seekBest 39 = .ok (.invokevirtual 99, 3) := by decide +kernel
theorem dX1_seekBest_42 : decode cX1_seekBest 42 = .ok (.iload 5, 2) := by decide +kernel
theorem dX1_seekBest_44 : decode cX1_seekBest 44 = .ok (.iconst (-1), 1) := by decide +kernel
theorem dX1_seekBest_45 : decode cX1_seekBest 45 = .ok (.invokevirtual 103, 3) := by decide +kernel
theorem dX1_seekBest_48 : decode cX1_seekBest 48 = .ok (.goto 46, 3) := by decide +kernel
theorem dX1_seekBest_51 : decode cX1_seekBest 51 = .ok (.iload 5, 2) := by decide +kernel
theorem dX1_seekBest_53 : decode cX1_seekBest 53 = .ok (.iconst 1, 1) := by decide +kernel
theorem dX1_seekBest_54 : decode cX1_seekBest 54 = .ok (.iadd, 1) := by decide +kernel
theorem dX1_seekBest_55 : decode cX1_seekBest 55 = .ok (.istore 6, 2) := by decide +kernel
theorem dX1_seekBest_57 : decode cX1_seekBest 57 = .ok (.iload 6, 2) := by decide +kernel
theorem dX1_seekBest_59 : decode cX1_seekBest 59 = .ok (.bipush 8, 2) := by decide +kernel
theorem dX1_seekBest_61 : decode cX1_seekBest 61 = .ok (.if_icmp .ge 33, 3) := by decide +kernel
theorem dX1_seekBest_64 : decode cX1_seekBest 64 = .ok (.aload_n 0, 1) := by decide +kernel
theorem dX1_seekBest_65 : decode cX1_seekBest 65 = .ok (.iload 4, 2) := by decide +kernel
theorem dX1_seekBest_67 : decode cX1_seekBest 67 = .ok (.aload_n 0, 1) := by decide +kernel
theorem dX1_seekBest_68 : decode cX1_seekBest 68 = .ok (.iconst 1, 1) := by decide +kernel
theorem dX1_seekBest_69 : decode cX1_seekBest 69 = .ok (.iload 5, 2) := by decide +kernel
theorem dX1_seekBest_71 : decode cX1_seekBest 71 = .ok (.ishl, 1) := by decide +kernel
theorem dX1_seekBest_72 : decode cX1_seekBest 72 = .ok (.iconst 1, 1) := by decide +kernel
theorem dX1_seekBest_73 : decode cX1_seekBest 73 = .ok (.iload 6, 2) := by decide +kernel
theorem dX1_seekBest_75 : decode cX1_seekBest 75 = .ok (.ishl, 1) := by decide +kernel
theorem dX1_seekBest_76 : decode cX1_seekBest 76 = .ok (.ior, 1) := by decide +kernel
theorem dX1_seekBest_77 : decode cX1_seekBest 77 = .ok (.lload_n 2, 1) := by decide +kernel
theorem dX1_seekBest_78 : decode cX1_seekBest 78 = .ok (.invokevirtual 99, 3) := by decide +kernel
theorem dX1_seekBest_81 : decode cX1_seekBest 81 = .ok (.iload 5, 2) := by decide +kernel
theorem dX1_seekBest_83 : decode cX1_seekBest 83 = .ok (.iload 6, 2) := by decide +kernel
theorem dX1_seekBest_85 : decode cX1_seekBest 85 = .ok (.invokevirtual 103, 3) := by decide +kernel
theorem dX1_seekBest_88 : decode cX1_seekBest 88 = .ok (.iinc 6 1, 3) := by decide +kernel
theorem dX1_seekBest_91 : decode cX1_seekBest 91 = .ok (.goto (-34), 3) := by decide +kernel
theorem dX1_seekBest_94 : decode cX1_seekBest 94 = .ok (.iinc 5 1, 3) := by decide +kernel
theorem dX1_seekBest_97 : decode cX1_seekBest 97 = .ok (.goto (-79), 3) := by decide +kernel
theorem dX1_seekBest_100 : decode cX1_seekBest 100 = .ok (.return_, 1) := by decide +kernel
theorem dX1_seekCut_0 : decode cX1_seekCut 0 = .ok (.aload_n 0, 1) := by decide +kernel
theorem dX1_seekCut_1 : decode cX1_seekCut 1 = .ok (.getfield 32, 3) := by decide +kernel
theorem dX1_seekCut_4 : decode cX1_seekCut 4 = .ok (.invokevirtual 51, 3) := by decide +kernel
theorem dX1_seekCut_7 : decode cX1_seekCut 7 = .ok (.lstore_n 2, 1) := by decide +kernel
theorem dX1_seekCut_8 : decode cX1_seekCut 8 = .ok (.aload_n 0, 1) := by decide +kernel
theorem dX1_seekCut_9 : decode cX1_seekCut 9 = .ok (.lload_n 2, 1) := by decide +kernel
theorem dX1_seekCut_10 : decode cX1_seekCut 10 = .ok (.invokevirtual 57, 3) := by decide +kernel
theorem dX1_seekCut_13 : decode cX1_seekCut 13 = .ok (.i2l, 1) := by decide +kernel
theorem dX1_seekCut_14 : decode cX1_seekCut 14 = .ok (.iload_n 1, 1) := by decide +kernel
theorem dX1_seekCut_15 : decode cX1_seekCut 15 = .ok (.invokestatic 61, 3) := by decide +kernel
theorem dX1_seekCut_18 : decode cX1_seekCut 18 = .ok (.ifCond .ne 5, 3) := by decide +kernel
theorem dX1_seekCut_21 : decode cX1_seekCut 21 = .ok (.iconst 0, 1) := by decide +kernel
theorem dX1_seekCut_22 : decode cX1_seekCut 22 = .ok (.ireturn, 1) := by decide +kernel
theorem dX1_seekCut_23 : decode cX1_seekCut 23 = .ok (.aload_n 0, 1) := by decide +kernel
theorem dX1_seekCut_24 : decode cX1_seekCut 24 = .ok (.invokevirtual 65, 3) := by decide +kernel
theorem dX1_seekCut_27 : decode cX1_seekCut 27 = .ok (.lstore 4, 2) := by decide +kernel
theorem dX1_seekCut_29 : decode cX1_seekCut 29 = .ok (.iconst 1, 1) := by decide +kernel
theorem dX1_seekCut_30 : decode cX1_seekCut 30 = .ok (.istore 6, 2) := by decide +kernel
theorem dX1_seekCut_32 : decode cX1_seekCut 32 = .ok (.iload 6, 2) := by decide +kernel
theorem dX1_seekCut_34 : decode cX1_seekCut 34 = .ok (.iconst 3, 1) := by decide +kernel
theorem dX1_seekCut_35 : decode cX1_seekCut 35 = .ok (.if_icmp .gt 32, 3) := by decide +kernel
theorem dX1_seekCut_38 : decode cX1_seekCut 38 = .ok (.aload_n 0, 1) := by decide +kernel
theorem dX1_seekCut_39 : decode cX1_seekCut 39 = .ok (.iload_n 1, 1) := by decide +kernel
theorem dX1_seekCut_40 : decode cX1_seekCut 40 = .ok (.iload 6, 2) := by decide +kernel
theorem dX1_seekCut_42 : decode cX1_seekCut 42 = .ok (.iconst 0, 1) := by decide +kernel
theorem dX1_seekCut_43 : decode cX1_seekCut 43 = .ok (.lload_n 2, 1) := by decide +kernel
theorem dX1_seekCut_44 : decode cX1_seekCut 44 = .ok (.lload 4, 2) := by decide +kernel
theorem dX1_seekCut_46 : decode cX1_seekCut 46 = .ok (.invokevirtual 68, 3) := by decide +kernel
theorem dX1_seekCut_49 : decode cX1_seekCut 49 = .ok (.ifCond .eq 12, 3) := by decide +kernel
theorem dX1_seekCut_52 : decode cX1_seekCut 52 = .ok (.aload_n 0, 1) := by decide +kernel
theorem dX1_seekCut_53 : decode cX1_seekCut 53 = .ok (.iload 6, 2) := by decide +kernel
theorem dX1_seekCut_55 : decode cX1_seekCut 55 = .ok (.invokevirtual 72, 3) := by decide +kernel
theorem dX1_seekCut_58 : decode cX1_seekCut 58 = .ok (.iload 6, 2) := by decide +kernel
theorem dX1_seekCut_60 : decode cX1_seekCut 60 = .ok (.ireturn, 1) := by decide +kernel
theorem dX1_seekCut_61 : decode cX1_seekCut 61 = .ok (.iinc 6 1, 3) := by decide +kernel
theorem dX1_seekCut_64 : decode cX1_seekCut 64 = .ok (.goto (-32), 3) := by decide +kernel
theorem dX1_seekCut_67 : decode cX1_seekCut 67 = .ok (.iconst 0, 1) := by decide +kernel
theorem dX1_seekCut_68 : decode cX1_seekCut 68 = .ok (.ireturn, 1) := by decide +kernel
theorem dX1_settledWhen_0 : decode cX1_settledWhen 0 = .ok (.aload_n 0, 1) := by decide +kernel
theorem dX1_settledWhen_1 : decode cX1_settledWhen 1 = .ok (.lload_n 1, 1) := by decide +kernel
theorem dX1_settledWhen_2 : decode cX1_settledWhen 2 = .ok (.invokevirtual 57, 3) := by decide +kernel
theorem dX1_settledWhen_5 : decode cX1_settledWhen 5 = .ok (.sipush 4095, 3) := by decide +kernel
theorem dX1_settledWhen_8 : decode cX1_settledWhen 8 = .ok (.aload_n 0, 1) := by decide +kernel
theorem dX1_settledWhen_9 : decode cX1_settledWhen 9 = .ok (.lload_n 1, 1) := by decide +kernel
theorem dX1_settledWhen_10 : decode cX1_settledWhen 10 = .ok (.lload_n 3, 1) := by decide +kernel
theorem dX1_settledWhen_11 : decode cX1_settledWhen 11 = .ok (.lor, 1) := by decide +kernel
theorem dX1_settledWhen_12 : decode cX1_settledWhen 12 = .ok (.invokevirtual 57, 3) := by decide +kernel
theorem dX1_settledWhen_15 : decode cX1_settledWhen 15 = .ok (.iconst (-1), 1) := by decide +kernel
theorem dX1_settledWhen_16 : decode cX1_settledWhen 16 = .ok (.ixor, 1) := by decide +kernel
theorem dX1_settledWhen_17 : decode cX1_settledWhen 17 = .ok (.iand, 1) := by decide +kernel
theorem dX1_settledWhen_18 : decode cX1_settledWhen 18 = .ok (.ior, 1) := by decide +kernel
theorem dX1_settledWhen_19 : decode cX1_settledWhen 19 = .ok (.ireturn, 1) := by decide +kernel
theorem dX1_standWith_0 : decode cX1_standWith 0 = .ok (.iconst 0, 1) := by decide +kernel
theorem dX1_standWith_1 : decode cX1_standWith 1 = .ok (.istore_n 3, 1) := by decide +kernel
theorem dX1_standWith_2 : decode cX1_standWith 2 = .ok (.iconst 0, 1) := by decide +kernel
theorem dX1_standWith_3 : decode cX1_standWith 3 = .ok (.istore 4, 2) := by decide +kernel
theorem dX1_standWith_5 : decode cX1_standWith 5 = .ok (.iload 4, 2) := by decide +kernel
theorem dX1_standWith_7 : decode cX1_standWith 7 = .ok (.bipush 12, 2) := by decide +kernel
theorem dX1_standWith_9 : decode cX1_standWith 9 = .ok (.if_icmp .ge 83, 3) := by decide +kernel
theorem dX1_standWith_12 : decode cX1_standWith 12 = .ok (.iload_n 3, 1) := by decide +kernel
theorem dX1_standWith_13 : decode cX1_standWith 13 = .ok (.istore 5, 2) := by decide +kernel
theorem dX1_standWith_15 : decode cX1_standWith 15 = .ok (.iconst 0, 1) := by decide +kernel
theorem dX1_standWith_16 : decode cX1_standWith 16 = .ok (.istore 6, 2) := by decide +kernel
theorem dX1_standWith_18 : decode cX1_standWith 18 = .ok (.iload 6, 2) := by decide +kernel
theorem dX1_standWith_20 : decode cX1_standWith 20 = .ok (.aload_n 0, 1) := by decide +kernel
theorem dX1_standWith_21 : decode cX1_standWith 21 = .ok (.getfield 39, 3) := by decide +kernel
theorem dX1_standWith_24 : decode cX1_standWith 24 = .ok (.if_icmp .ge 53, 3) := by decide +kernel
theorem dX1_standWith_27 : decode cX1_standWith 27 = .ok (.aload_n 0, 1) := by decide +kernel
theorem dX1_standWith_28 : decode cX1_standWith 28 = .ok (.getfield 15, 3) := by decide +kernel
theorem dX1_standWith_31 : decode cX1_standWith 31 = .ok (.iload 6, 2) := by decide +kernel
theorem dX1_standWith_33 : decode cX1_standWith 33 = .ok (.laload, 1) := by decide +kernel
theorem dX1_standWith_34 : decode cX1_standWith 34 = .ok (.lload_n 1, 1) := by decide +kernel
theorem dX1_standWith_35 : decode cX1_standWith 35 = .ok (.ldc2_w 42, 3) := by decide +kernel
theorem dX1_standWith_38 : decode cX1_standWith 38 = .ok (.lxor, 1) := by decide +kernel
theorem dX1_standWith_39 : decode cX1_standWith 39 = .ok (.land, 1) := by decide +kernel
theorem dX1_standWith_40 : decode cX1_standWith 40 = .ok (.lconst 0, 1) := by decide +kernel
theorem dX1_standWith_41 : decode cX1_standWith 41 = .ok (.lcmp, 1) := by decide +kernel
theorem dX1_standWith_42 : decode cX1_standWith 42 = .ok (.ifCond .ne 29, 3) := by decide +kernel
theorem dX1_standWith_45 : decode cX1_standWith 45 = .ok (.aload_n 0, 1) := by decide +kernel
theorem dX1_standWith_46 : decode cX1_standWith 46 = .ok (.getfield 19, 3) := by decide +kernel
theorem dX1_standWith_49 : decode cX1_standWith 49 = .ok (.iload 6, 2) := by decide +kernel
theorem dX1_standWith_51 : decode cX1_standWith 51 = .ok (.iaload, 1) := by decide +kernel
theorem dX1_standWith_52 : decode cX1_standWith 52 = .ok (.iload_n 3, 1) := by decide +kernel
theorem dX1_standWith_53 : decode cX1_standWith 53 = .ok (.iconst (-1), 1) := by decide +kernel
theorem dX1_standWith_54 : decode cX1_standWith 54 = .ok (.ixor, 1) := by decide +kernel
theorem dX1_standWith_55 : decode cX1_standWith 55 = .ok (.iand, 1) := by decide +kernel
theorem dX1_standWith_56 : decode cX1_standWith 56 = .ok (.ifCond .ne 15, 3) := by decide +kernel
theorem dX1_standWith_59 : decode cX1_standWith 59 = .ok (.iload_n 3, 1) := by decide +kernel
theorem dX1_standWith_60 : decode cX1_standWith 60 = .ok (.iconst 1, 1) := by decide +kernel
theorem dX1_standWith_61 : decode cX1_standWith 61 = .ok (.aload_n 0, 1) := by decide +kernel
theorem dX1_standWith_62 : decode cX1_standWith 62 = .ok (.getfield 9, 3) := by decide +kernel
theorem dX1_standWith_65 : decode cX1_standWith 65 = .ok (.iload 6, 2) := by decide +kernel
theorem dX1_standWith_67 : decode cX1_standWith 67 = .ok (.iaload, 1) := by decide +kernel
theorem dX1_standWith_68 : decode cX1_standWith 68 = .ok (.ishl, 1) := by decide +kernel
theorem dX1_standWith_69 : decode cX1_standWith 69 = .ok (.ior, 1) := by decide +kernel
theorem dX1_standWith_70 : decode cX1_standWith 70 = .ok (.istore_n 3, 1) := by decide +kernel
theorem dX1_standWith_71 : decode cX1_standWith 71 = .ok (.iinc 6 1, 3) := by decide +kernel
theorem dX1_standWith_74 : decode cX1_standWith 74 = .ok (.goto (-56), 3) := by decide +kernel
theorem dX1_standWith_77 : decode cX1_standWith 77 = .ok (.iload_n 3, 1) := by decide +kernel
theorem dX1_standWith_78 : decode cX1_standWith 78 = .ok (.iload 5, 2) := by decide +kernel
theorem dX1_standWith_80 : decode cX1_standWith 80 = .ok (.if_icmp .ne 6, 3) := by decide +kernel
theorem dX1_standWith_83 : decode cX1_standWith 83 = .ok (.goto 9, 3) := by decide +kernel
theorem dX1_standWith_86 : decode cX1_standWith 86 = .ok (.iinc 4 1, 3) := by decide +kernel
theorem dX1_standWith_89 : decode cX1_standWith 89 = .ok (.goto (-84), 3) := by decide +kernel
theorem dX1_standWith_92 : decode cX1_standWith 92 = .ok (.iload_n 3, 1) := by decide +kernel
theorem dX1_standWith_93 : decode cX1_standWith 93 = .ok (.ireturn, 1) := by decide +kernel
theorem dX1_tellGround_0 : decode cX1_tellGround 0 = .ok (.iconst 0, 1) := by decide +kernel
theorem dX1_tellGround_1 : decode cX1_tellGround 1 = .ok (.istore 5, 2) := by decide +kernel
theorem dX1_tellGround_3 : decode cX1_tellGround 3 = .ok (.iconst 0, 1) := by decide +kernel
theorem dX1_tellGround_4 : decode cX1_tellGround 4 = .ok (.istore 6, 2) := by decide +kernel
theorem dX1_tellGround_6 : decode cX1_tellGround 6 = .ok (.iload 6, 2) := by decide +kernel
theorem dX1_tellGround_8 : decode cX1_tellGround 8 = .ok (.aload_n 0, 1) := by decide +kernel
theorem dX1_tellGround_9 : decode cX1_tellGround 9 = .ok (.getfield 39, 3) := by decide +kernel
theorem dX1_tellGround_12 : decode cX1_tellGround 12 = .ok (.if_icmp .ge 23, 3) := by decide +kernel
theorem dX1_tellGround_15 : decode cX1_tellGround 15 = .ok (.aload_n 0, 1) := by decide +kernel
theorem dX1_tellGround_16 : decode cX1_tellGround 16 = .ok (.getfield 9, 3) := by decide +kernel
theorem dX1_tellGround_19 : decode cX1_tellGround 19 = .ok (.iload 6, 2) := by decide +kernel
theorem dX1_tellGround_21 : decode cX1_tellGround 21 = .ok (.iaload, 1) := by decide +kernel
theorem dX1_tellGround_22 : decode cX1_tellGround 22 = .ok (.iload_n 1, 1) := by decide +kernel
theorem dX1_tellGround_23 : decode cX1_tellGround 23 = .ok (.if_icmp .ne 6, 3) := by decide +kernel
theorem dX1_tellGround_26 : decode cX1_tellGround 26 = .ok (.iinc 5 1, 3) := by decide +kernel
theorem dX1_tellGround_29 : decode cX1_tellGround 29 = .ok (.iinc 6 1, 3) := by decide +kernel
theorem dX1_tellGround_32 : decode cX1_tellGround 32 = .ok (.goto (-26), 3) := by decide +kernel
theorem dX1_tellGround_35 : decode cX1_tellGround 35 = .ok (.iload 5, 2) := by decide +kernel
theorem dX1_tellGround_37 : decode cX1_tellGround 37 = .ok (.iconst 3, 1) := by decide +kernel
theorem dX1_tellGround_38 : decode cX1_tellGround 38 = .ok (.if_icmp .ge 12, 3) := by decide +kernel
theorem dX1_tellGround_41 : decode cX1_tellGround 41 = .ok (.aload_n 0, 1) := by decide +kernel
theorem dX1_tellGround_42 : decode cX1_tellGround 42 = .ok (.getfield 39, 3) := by decide +kernel
theorem dX1_tellGround_45 : decode cX1_tellGround 45 = .ok (.bipush 36, 2) := by decide +kernel
theorem dX1_tellGround_47 : decode cX1_tellGround 47 = .ok (.if_icmp .lt 5, 3) := by decide +kernel
theorem dX1_tellGround_50 : decode cX1_tellGround 50 = .ok (.iconst 0, 1) := by decide +kernel
theorem dX1_tellGround_51 : decode cX1_tellGround 51 = .ok (.ireturn, 1) := by decide +kernel
theorem dX1_tellGround_52 : decode cX1_tellGround 52 = .ok (.aload_n 0, 1) := by decide +kernel
theorem dX1_tellGround_53 : decode cX1_tellGround 53 = .ok (.getfield 9, 3) := by decide +kernel
theorem dX1_tellGround_56 : decode cX1_tellGround 56 = .ok (.aload_n 0, 1) := by decide +kernel
theorem dX1_tellGround_57 : decode cX1_tellGround 57 = .ok (.getfield 39, 3) := by decide +kernel
theorem dX1_tellGround_60 : decode cX1_tellGround 60 = .ok (.iload_n 1, 1) := by decide +kernel
theorem dX1_tellGround_61 : decode cX1_tellGround 61 = .ok (.iastore, 1) := by decide +kernel
theorem dX1_tellGround_62 : decode cX1_tellGround 62 = .ok (.aload_n 0, 1) := by decide +kernel
theorem dX1_tellGround_63 : decode cX1_tellGround 63 = .ok (.getfield 15, 3) := by decide +kernel
theorem dX1_tellGround_66 : decode cX1_tellGround 66 = .ok (.aload_n 0, 1) := by decide +kernel
theorem dX1_tellGround_67 : decode cX1_tellGround 67 = .ok (.getfield 39, 3) := by decide +kernel
theorem dX1_tellGround_70 : decode cX1_tellGround 70 = .ok (.lload_n 2, 1) := by decide +kernel
theorem dX1_tellGround_71 : decode cX1_tellGround 71 = .ok (.lastore, 1) := by decide +kernel
theorem dX1_tellGround_72 : decode cX1_tellGround 72 = .ok (.aload_n 0, 1) := by decide +kernel
theorem dX1_tellGround_73 : decode cX1_tellGround 73 = .ok (.getfield 19, 3) := by decide +kernel
theorem dX1_tellGround_76 : decode cX1_tellGround 76 = .ok (.aload_n 0, 1) := by decide +kernel
theorem dX1_tellGround_77 : decode cX1_tellGround 77 = .ok (.getfield 39, 3) := by decide +kernel
theorem dX1_tellGround_80 : decode cX1_tellGround 80 = .ok (.iload 4, 2) := by decide +kernel
theorem dX1_tellGround_82 : decode cX1_tellGround 82 = .ok (.iastore, 1) := by decide +kernel
theorem dX1_tellGround_83 : decode cX1_tellGround 83 = .ok (.aload_n 0, 1) := by decide +kernel
theorem dX1_tellGround_84 : decode cX1_tellGround 84 = .ok (.dup, 1) := by decide +kernel
theorem dX1_tellGround_85 : decode cX1_tellGround 85 = .ok (.getfield 39, 3) := by decide +kernel
theorem dX1_tellGround_88 : decode cX1_tellGround 88 = .ok (.iconst 1, 1) := by decide +kernel
theorem dX1_tellGround_89 : decode cX1_tellGround 89 = .ok (.iadd, 1) := by decide +kernel
theorem dX1_tellGround_90 : decode cX1_tellGround 90 = .ok (.putfield 39, 3) := by decide +kernel
theorem dX1_tellGround_93 : decode cX1_tellGround 93 = .ok (.iconst 1, 1) := by decide +kernel
theorem dX1_tellGround_94 : decode cX1_tellGround 94 = .ok (.ireturn, 1) := by decide +kernel
theorem dX1_turnPicks_0 : decode cX1_turnPicks 0 = .ok (.aload_n 0, 1) := by decide +kernel
theorem dX1_turnPicks_1 : decode cX1_turnPicks 1 = .ok (.getfield 22, 3) := by decide +kernel
theorem dX1_turnPicks_4 : decode cX1_turnPicks 4 = .ok (.iconst 0, 1) := by decide +kernel
theorem dX1_turnPicks_5 : decode cX1_turnPicks 5 = .ok (.iaload, 1) := by decide +kernel
theorem dX1_turnPicks_6 : decode cX1_turnPicks 6 = .ok (.istore_n 2, 1) := by decide +kernel
theorem dX1_turnPicks_7 : decode cX1_turnPicks 7 = .ok (.aload_n 0, 1) := by decide +kernel
theorem dX1_turnPicks_8 : decode cX1_turnPicks 8 = .ok (.getfield 22, 3) := by decide +kernel
theorem dX1_turnPicks_11 : decode cX1_turnPicks 11 = .ok (.iconst 0, 1) := by decide +kernel
theorem dX1_turnPicks_12 : decode cX1_turnPicks 12 = .ok (.aload_n 0, 1) := by decide +kernel
theorem dX1_turnPicks_13 : decode cX1_turnPicks 13 = .ok (.getfield 22, 3) := by decide +kernel
theorem dX1_turnPicks_16 : decode cX1_turnPicks 16 = .ok (.iload_n 1, 1) := by decide +kernel
theorem dX1_turnPicks_17 : decode cX1_turnPicks 17 = .ok (.iconst 1, 1) := by decide +kernel
theorem dX1_turnPicks_18 : decode cX1_turnPicks 18 = .ok (.isub, 1) := by decide +kernel
theorem dX1_turnPicks_19 : decode cX1_turnPicks 19 = .ok (.iaload, 1) := by decide +kernel
theorem dX1_turnPicks_20 : decode cX1_turnPicks 20 = .ok (.iastore, 1) := by decide +kernel
theorem dX1_turnPicks_21 : decode cX1_turnPicks 21 = .ok (.aload_n 0, 1) := by decide +kernel
theorem dX1_turnPicks_22 : decode cX1_turnPicks 22 = .ok (.getfield 22, 3) := by decide +kernel
theorem dX1_turnPicks_25 : decode cX1_turnPicks 25 = .ok (.iload_n 1, 1) := by decide +kernel
theorem dX1_turnPicks_26 : decode cX1_turnPicks 26 = .ok (.iconst 1, 1) := by decide +kernel
theorem dX1_turnPicks_27 : decode cX1_turnPicks 27 = .ok (.isub, 1) := by decide +kernel
theorem dX1_turnPicks_28 : decode cX1_turnPicks 28 = .ok (.iload_n 2, 1) := by decide +kernel
theorem dX1_turnPicks_29 : decode cX1_turnPicks 29 = .ok (.iastore, 1) := by decide +kernel
theorem dX1_turnPicks_30 : decode cX1_turnPicks 30 = .ok (.return_, 1) := by decide +kernel
theorem dX2_addToDay_0 : decode cX2_addToDay 0 = .ok (.aload_n 0, 1) := by decide +kernel
theorem dX2_addToDay_1 : decode cX2_addToDay 1 = .ok (.getfield 22, 3) := by decide +kernel
theorem dX2_addToDay_4 : decode cX2_addToDay 4 = .ok (.iconst 1, 1) := by decide +kernel
theorem dX2_addToDay_5 : decode cX2_addToDay 5 = .ok (.dup2, 1) := by decide +kernel
theorem dX2_addToDay_6 : decode cX2_addToDay 6 = .ok (.iaload, 1) := by decide +kernel
theorem dX2_addToDay_7 : decode cX2_addToDay 7 = .ok (.iconst 1, 1) := by decide +kernel
theorem dX2_addToDay_8 : decode cX2_addToDay 8 = .ok (.iadd, 1) := by decide +kernel
theorem dX2_addToDay_9 : decode cX2_addToDay 9 = .ok (.iastore, 1) := by decide +kernel
theorem dX2_addToDay_10 : decode cX2_addToDay 10 = .ok (.aload_n 0, 1) := by decide +kernel
theorem dX2_addToDay_11 : decode cX2_addToDay 11 = .ok (.getfield 22, 3) := by decide +kernel
theorem dX2_addToDay_14 : decode cX2_addToDay 14 = .ok (.iconst 2, 1) := by decide +kernel
theorem dX2_addToDay_15 : decode cX2_addToDay 15 = .ok (.dup2, 1) := by decide +kernel
theorem dX2_addToDay_16 : decode cX2_addToDay 16 = .ok (.iaload, 1) := by decide +kernel
theorem dX2_addToDay_17 : decode cX2_addToDay 17 = .ok (.aload_n 0, 1) := by decide +kernel
theorem dX2_addToDay_18 : decode cX2_addToDay 18 = .ok (.getfield 15, 3) := by decide +kernel
theorem dX2_addToDay_21 : decode cX2_addToDay 21 = .ok (.iload_n 1, 1) := by decide +kernel
theorem dX2_addToDay_22 : decode cX2_addToDay 22 = .ok (.iaload, 1) := by decide +kernel
theorem dX2_addToDay_23 : decode cX2_addToDay 23 = .ok (.iconst 2, 1) := by decide +kernel
theorem dX2_addToDay_24 : decode cX2_addToDay 24 = .ok (.if_icmp .ne 7, 3) := by decide +kernel
theorem dX2_addToDay_27 : decode cX2_addToDay 27 = .ok (.iconst 1, 1) := by decide +kernel
theorem dX2_addToDay_28 : decode cX2_addToDay 28 = .ok (.goto 4, 3) := by decide +kernel
theorem dX2_addToDay_31 : decode cX2_addToDay 31 = .ok (.iconst 0, 1) := by decide +kernel
theorem dX2_addToDay_32 : decode cX2_addToDay 32 = .ok (.iadd, 1) := by decide +kernel
theorem dX2_addToDay_33 : decode cX2_addToDay 33 = .ok (.iastore, 1) := by decide +kernel
theorem dX2_addToDay_34 : decode cX2_addToDay 34 = .ok (.aload_n 0, 1) := by decide +kernel
theorem dX2_addToDay_35 : decode cX2_addToDay 35 = .ok (.getfield 22, 3) := by decide +kernel
theorem dX2_addToDay_38 : decode cX2_addToDay 38 = .ok (.iconst 3, 1) := by decide +kernel
theorem dX2_addToDay_39 : decode cX2_addToDay 39 = .ok (.dup2, 1) := by decide +kernel
theorem dX2_addToDay_40 : decode cX2_addToDay 40 = .ok (.iaload, 1) := by decide +kernel
theorem dX2_addToDay_41 : decode cX2_addToDay 41 = .ok (.aload_n 0, 1) := by decide +kernel
theorem dX2_addToDay_42 : decode cX2_addToDay 42 = .ok (.getfield 15, 3) := by decide +kernel
theorem dX2_addToDay_45 : decode cX2_addToDay 45 = .ok (.iload_n 1, 1) := by decide +kernel
theorem dX2_addToDay_46 : decode cX2_addToDay 46 = .ok (.iaload, 1) := by decide +kernel
theorem dX2_addToDay_47 : decode cX2_addToDay 47 = .ok (.iconst 1, 1) := by decide +kernel
theorem dX2_addToDay_48 : decode cX2_addToDay 48 = .ok (.if_icmp .ne 7, 3) := by decide +kernel
theorem dX2_addToDay_51 : decode cX2_addToDay 51 = .ok (.iconst 1, 1) := by decide +kernel
theorem dX2_addToDay_52 : decode cX2_addToDay 52 = .ok (.goto 4, 3) := by decide +kernel
theorem dX2_addToDay_55 : decode cX2_addToDay 55 = .ok (.iconst 0, 1) := by decide +kernel
theorem dX2_addToDay_56 : decode cX2_addToDay 56 = .ok (.iadd, 1) := by decide +kernel
theorem dX2_addToDay_57 : decode cX2_addToDay 57 = .ok (.iastore, 1) := by decide +kernel
theorem dX2_addToDay_58 : decode cX2_addToDay 58 = .ok (.aload_n 0, 1) := by decide +kernel
theorem dX2_addToDay_59 : decode cX2_addToDay 59 = .ok (.getfield 22, 3) := by decide +kernel
theorem dX2_addToDay_62 : decode cX2_addToDay 62 = .ok (.iconst 4, 1) := by decide +kernel
theorem dX2_addToDay_63 : decode cX2_addToDay 63 = .ok (.dup2, 1) := by decide +kernel
theorem dX2_addToDay_64 : decode cX2_addToDay 64 = .ok (.iaload, 1) := by decide +kernel
theorem dX2_addToDay_65 : decode cX2_addToDay 65 = .ok (.aload_n 0, 1) := by decide +kernel
theorem dX2_addToDay_66 : decode cX2_addToDay 66 = .ok (.getfield 18, 3) := by decide +kernel
theorem dX2_addToDay_69 : decode cX2_addToDay 69 = .ok (.iload_n 1, 1) := by decide +kernel
theorem dX2_addToDay_70 : decode cX2_addToDay 70 = .ok (.laload, 1) := by decide +kernel
theorem dX2_addToDay_71 : decode cX2_addToDay 71 = .ok (.lconst 1, 1) := by decide +kernel
theorem dX2_addToDay_72 : decode cX2_addToDay 72 = .ok (.iload_n 1, 1) := by decide +kernel
theorem dX2_addToDay_73 : decode cX2_addToDay 73 = .ok (.lshl, 1) := by decide +kernel
theorem dX2_addToDay_74 : decode cX2_addToDay 74 = .ok (.lconst 1, 1) := by decide +kernel
theorem dX2_addToDay_75 : decode cX2_addToDay 75 = .ok (.lsub, 1) := by decide +kernel
theorem dX2_addToDay_76 : decode cX2_addToDay 76 = .ok (.land, 1) := by decide +kernel
theorem dX2_addToDay_77 : decode cX2_addToDay 77 = .ok (.invokestatic 85, 3) := by decide +kernel
theorem dX2_addToDay_80 : decode cX2_addToDay 80 = .ok (.iadd, 1) := by decide +kernel
theorem dX2_addToDay_81 : decode cX2_addToDay 81 = .ok (.iastore, 1) := by decide +kernel
theorem dX2_addToDay_82 : decode cX2_addToDay 82 = .ok (.aload_n 0, 1) := by decide +kernel
theorem dX2_addToDay_83 : decode cX2_addToDay 83 = .ok (.getfield 40, 3) := by decide +kernel
theorem dX2_addToDay_86 : decode cX2_addToDay 86 = .ok (.getfield 65, 3) := by decide +kernel
theorem dX2_addToDay_89 : decode cX2_addToDay 89 = .ok (.iload_n 1, 1) := by decide +kernel
theorem dX2_addToDay_90 : decode cX2_addToDay 90 = .ok (.iaload, 1) := by decide +kernel
theorem dX2_addToDay_91 : decode cX2_addToDay 91 = .ok (.istore_n 2, 1) := by decide +kernel
theorem dX2_addToDay_92 : decode cX2_addToDay 92 = .ok (.aload_n 0, 1) := by decide +kernel
theorem dX2_addToDay_93 : decode cX2_addToDay 93 = .ok (.getfield 25, 3) := by decide +kernel
theorem dX2_addToDay_96 : decode cX2_addToDay 96 = .ok (.iload_n 2, 1) := by decide +kernel
theorem dX2_addToDay_97 : decode cX2_addToDay 97 = .ok (.dup2, 1) := by decide +kernel
theorem dX2_addToDay_98 : decode cX2_addToDay 98 = .ok (.iaload, 1) := by decide +kernel
theorem dX2_addToDay_99 : decode cX2_addToDay 99 = .ok (.iconst 1, 1) := by decide +kernel
theorem dX2_addToDay_100 : decode cX2_addToDay 100 = .ok (.iadd, 1) := by decide +kernel
theorem dX2_addToDay_101 : decode cX2_addToDay 101 = .ok (.iastore, 1) := by decide +kernel
theorem dX2_addToDay_102 : decode cX2_addToDay 102 = .ok (.aload_n 0, 1) := by decide +kernel
theorem dX2_addToDay_103 : decode cX2_addToDay 103 = .ok (.getfield 22, 3) := by decide +kernel
theorem dX2_addToDay_106 : decode cX2_addToDay 106 = .ok (.iconst 5, 1) := by decide +kernel
theorem dX2_addToDay_107 : decode cX2_addToDay 107 = .ok (.aload_n 0, 1) := by decide +kernel
theorem dX2_addToDay_108 : decode cX2_addToDay 108 = .ok (.getfield 22, 3) := by decide +kernel
theorem dX2_addToDay_111 : decode cX2_addToDay 111 = .ok (.iconst 5, 1) := by decide +kernel
theorem dX2_addToDay_112 : decode cX2_addToDay 112 = .ok (.iaload, 1) := by decide +kernel
theorem dX2_addToDay_113 : decode cX2_addToDay 113 = .ok (.aload_n 0, 1) := by decide +kernel
theorem dX2_addToDay_114 : decode cX2_addToDay 114 = .ok (.getfield 25, 3) := by decide +kernel
theorem dX2_addToDay_117 : decode cX2_addToDay 117 = .ok (.iload_n 2, 1) := by decide +kernel
theorem dX2_addToDay_118 : decode cX2_addToDay 118 = .ok (.iaload, 1) := by decide +kernel
theorem dX2_addToDay_119 : decode cX2_addToDay 119 = .ok (.invokestatic 130, 3) := by decide +kernel
theorem dX2_addToDay_122 : decode cX2_addToDay 122 = .ok (.iastore, 1) := by decide +kernel
theorem dX2_addToDay_123 : decode cX2_addToDay 123 = .ok (.aload_n 0, 1) := by decide +kernel
theorem dX2_addToDay_124 : decode cX2_addToDay 124 = .ok (.getfield 22, 3) := by decide +kernel
theorem dX2_addToDay_127 : decode cX2_addToDay 127 = .ok (.bipush 6, 2) := by decide +kernel
theorem dX2_addToDay_129 : decode cX2_addToDay 129 = .ok (.dup2, 1) := by decide +kernel
theorem dX2_addToDay_130 : decode cX2_addToDay 130 = .ok (.iaload, 1) := by decide +kernel
theorem dX2_addToDay_131 : decode cX2_addToDay 131 = .ok (.aload_n 0, 1) := by decide +kernel
theorem dX2_addToDay_132 : decode cX2_addToDay 132 = .ok (.getfield 9, 3) := by decide +kernel
theorem dX2_addToDay_135 : decode cX2_addToDay 135 = .ok (.iload_n 1, 1) := by decide +kernel
theorem dX2_addToDay_136 : decode cX2_addToDay 136 = .ok (.bipush 17, 2) := by decide +kernel
theorem dX2_addToDay_138 : decode cX2_addToDay 138 = .ok (.imul, 1) := by decide +kernel
theorem dX2_addToDay_139 : decode cX2_addToDay 139 = .ok (.bipush 14, 2) := by decide +kernel
theorem dX2_addToDay_141 : decode cX2_addToDay 141 = .ok (.iadd, 1) := by decide +kernel
theorem dX2_addToDay_142 : decode cX2_addToDay 142 = .ok (.iaload, 1) := by decide +kernel
theorem dX2_addToDay_143 : decode cX2_addToDay 143 = .ok (.ifCond .le 7, 3) := by decide +kernel
theorem dX2_addToDay_146 : decode cX2_addToDay 146 = .ok (.iconst 1, 1) := by decide +kernel
theorem dX2_addToDay_147 : decode cX2_addToDay 147 = .ok (.goto 4, 3) := by decide +kernel
theorem dX2_addToDay_150 : decode cX2_addToDay 150 = .ok (.iconst 0, 1) := by decide +kernel
theorem dX2_addToDay_151 : decode cX2_addToDay 151 = .ok (.iadd, 1) := by decide +kernel
theorem dX2_addToDay_152 : decode cX2_addToDay 152 = .ok (.iastore, 1) := by decide +kernel
theorem dX2_addToDay_153 : decode cX2_addToDay 153 = .ok (.return_, 1) := by decide +kernel
theorem dX2_dayOfEnough_0 : decode cX2_dayOfEnough 0 = .ok (.aload_n 0, 1) := by decide +kernel
theorem dX2_dayOfEnough_1 : decode cX2_dayOfEnough 1 = .ok (.getfield 28, 3) := by decide +kernel
theorem dX2_dayOfEnough_4 : decode cX2_dayOfEnough 4 = .ok (.bipush (-2), 2) := by decide +kernel
theorem dX2_dayOfEnough_6 : decode cX2_dayOfEnough 6 = .ok (.if_icmp .ne 27, 3) := by decide +kernel
theorem dX2_dayOfEnough_9 : decode cX2_dayOfEnough 9 = .ok (.aload_n 0, 1) := by decide +kernel
theorem dX2_dayOfEnough_10 : decode cX2_dayOfEnough 10 = .ok (.aload_n 0, 1) := by decide +kernel
theorem dX2_dayOfEnough_11 : decode cX2_dayOfEnough 11 = .ok (.getfield 44, 3) := by decide +kernel
theorem dX2_dayOfEnough_14 : decode cX2_dayOfEnough 14 = .ok (.bipush 20, 2) := by decide +kernel
theorem dX2_dayOfEnough_16 : decode cX2_dayOfEnough 16 = .ok (.invokevirtual 146, 3) := by decide +kernel
theorem dX2_dayOfEnough_19 : decode cX2_dayOfEnough 19 = .ok (.ifCond .eq 10, 3) := by decide +kernel
theorem dX2_dayOfEnough_22 : decode cX2_dayOfEnough 22 = .ok (.aload_n 0, 1) := by decide +kernel
theorem dX2_dayOfEnough_23 : decode cX2_dayOfEnough 23 = .ok (.invokevirtual 150, 3) := by decide +kernel
theorem dX2_dayOfEnough_26 : decode cX2_dayOfEnough 26 = .ok (.goto 4, 3) := by decide +kernel
theorem dX2_dayOfEnough_29 : decode cX2_dayOfEnough 29 = .ok (.iconst (-1), 1) := by decide +kernel
theorem dX2_dayOfEnough_30 : decode cX2_dayOfEnough 30 = .ok (.putfield 28, 3) := by decide +kernel
theorem dX2_dayOfEnough_33 : decode cX2_dayOfEnough 33 = .ok (.aload_n 0, 1) := by decide +kernel
theorem dX2_dayOfEnough_34 : decode cX2_dayOfEnough 34 = .ok (.getfield 28, 3) := by decide +kernel
theorem dX2_dayOfEnough_37 : decode cX2_dayOfEnough 37 = .ok (.ireturn, 1) := by decide +kernel
theorem dX2_findsOf_0 : decode cX2_findsOf 0 = .ok (.iconst 0, 1) := by decide +kernel
theorem dX2_findsOf_1 : decode cX2_findsOf 1 = .ok (.istore_n 2, 1) := by decide +kernel
theorem dX2_findsOf_2 : decode cX2_findsOf 2 = .ok (.iconst 0, 1) := by decide +kernel
theorem dX2_findsOf_3 : decode cX2_findsOf 3 = .ok (.istore_n 3, 1) := by decide +kernel
theorem dX2_findsOf_4 : decode cX2_findsOf 4 = .ok (.iload_n 3, 1) := by decide +kernel
theorem dX2_findsOf_5 : decode cX2_findsOf 5 = .ok (.aload_n 0, 1) := by decide +kernel
theorem dX2_findsOf_6 : decode cX2_findsOf 6 = .ok (.getfield 40, 3) := by decide +kernel
theorem dX2_findsOf_9 : decode cX2_findsOf 9 = .ok (.getfield 51, 3) := by decide +kernel
theorem dX2_findsOf_12 : decode cX2_findsOf 12 = .ok (.if_icmp .ge 30, 3) := by decide +kernel
theorem dX2_findsOf_15 : decode cX2_findsOf 15 = .ok (.iload_n 1, 1) := by decide +kernel
theorem dX2_findsOf_16 : decode cX2_findsOf 16 = .ok (.iconst (-1), 1) := by decide +kernel
theorem dX2_findsOf_17 : decode cX2_findsOf 17 = .ok (.if_icmp .eq 16, 3) := by decide +kernel
theorem dX2_findsOf_20 : decode cX2_findsOf 20 = .ok (.aload_n 0, 1) := by decide +kernel
theorem dX2_findsOf_21 : decode cX2_findsOf 21 = .ok (.getfield 40, 3) := by decide +kernel
theorem dX2_findsOf_24 : decode cX2_findsOf 24 = .ok (.getfield 65, 3) := by decide +kernel
theorem dX2_findsOf_27 : decode cX2_findsOf 27 = .ok (.iload_n 3, 1) := by decide +kernel
theorem dX2_findsOf_28 : decode cX2_findsOf 28 = .ok (.iaload, 1) := by decide +kernel
theorem dX2_findsOf_29 : decode cX2_findsOf 29 = .ok (.iload_n 1, 1) := by decide +kernel
theorem dX2_findsOf_30 : decode cX2_findsOf 30 = .ok (.if_icmp .ne 6, 3) := by decide +kernel
theorem dX2_findsOf_33 : decode cX2_findsOf 33 = .ok (.iinc 2 1, 3) := by decide +kernel
theorem dX2_findsOf_36 : decode cX2_findsOf 36 = .ok (.iinc 3 1, 3) := by decide +kernel
theorem dX2_findsOf_39 : decode cX2_findsOf 39 = .ok (.goto (-35), 3) := by decide +kernel
theorem dX2_findsOf_42 : decode cX2_findsOf 42 = .ok (.iload_n 2, 1) := by decide +kernel
theorem dX2_findsOf_43 : decode cX2_findsOf 43 = .ok (.ireturn, 1) := by decide +kernel
theorem dX2_findsOfSort_0 : decode cX2_findsOfSort 0 = .ok (.iconst 0, 1) := by decide +kernel
theorem dX2_findsOfSort_1 : decode cX2_findsOfSort 1 = .ok (.istore_n 3, 1) := by decide +kernel
theorem dX2_findsOfSort_2 : decode cX2_findsOfSort 2 = .ok (.iconst 0, 1) := by decide +kernel
theorem dX2_findsOfSort_3 : decode cX2_findsOfSort 3 = .ok (.istore 4, 2) := by decide +kernel
theorem dX2_findsOfSort_5 : decode cX2_findsOfSort 5 = .ok (.iload 4, 2) := by decide +kernel
theorem dX2_findsOfSort_7 : decode cX2_findsOfSort 7 = .ok (.aload_n 0, 1) := by decide +kernel
theorem dX2_findsOfSort_8 : decode cX2_findsOfSort 8 = .ok (.getfield 40, 3) := by decide +kernel
theorem dX2_findsOfSort_11 : decode cX2_findsOfSort 11 = .ok (.getfield 51, 3) := by decide +kernel
theorem dX2_findsOfSort_14 : decode cX2_findsOfSort 14 = .ok (.if_icmp .ge 41, 3) := by decide +kernel
theorem dX2_findsOfSort_17 : decode cX2_findsOfSort 17 = .ok (.iload_n 1, 1) := by decide +kernel
theorem dX2_findsOfSort_18 : decode cX2_findsOfSort 18 = .ok (.iconst (-1), 1) := by decide +kernel
theorem dX2_findsOfSort_19 : decode cX2_findsOfSort 19 = .ok (.if_icmp .eq 17, 3) := by decide +kernel
theorem dX2_findsOfSort_22 : decode cX2_findsOfSort 22 = .ok (.aload_n 0, 1) := by decide +kernel
theorem dX2_findsOfSort_23 : decode cX2_findsOfSort 23 = .ok (.getfield 40, 3) := by decide +kernel
theorem dX2_findsOfSort_26 : decode cX2_findsOfSort 26 = .ok (.getfield 65, 3) := by decide +kernel
theorem dX2_findsOfSort_29 : decode cX2_findsOfSort 29 = .ok (.iload 4, 2) := by decide +kernel
theorem dX2_findsOfSort_31 : decode cX2_findsOfSort 31 = .ok (.iaload, 1) := by decide +kernel
theorem dX2_findsOfSort_32 : decode cX2_findsOfSort 32 = .ok (.iload_n 1, 1) := by decide +kernel
theorem dX2_findsOfSort_33 : decode cX2_findsOfSort 33 = .ok (.if_icmp .ne 16, 3) := by decide +kernel
theorem dX2_findsOfSort_36 : decode cX2_findsOfSort 36 = .ok (.aload_n 0, 1) := by decide +kernel
theorem dX2_findsOfSort_37 : decode cX2_findsOfSort 37 = .ok (.iload 4, 2) := by decide +kernel
theorem dX2_findsOfSort_39 : decode cX2_findsOfSort 39 = .ok (.iload_n 2, 1) := by decide +kernel
theorem dX2_findsOfSort_40 : decode cX2_findsOfSort 40 = .ok (.invokevirtual 142, 3) := by decide +kernel
theorem dX2_findsOfSort_43 : decode cX2_findsOfSort 43 = .ok (.ifCond .eq 6, 3) := by decide +kernel
theorem dX2_findsOfSort_46 : decode cX2_findsOfSort 46 = .ok (.iinc 3 1, 3) := by decide +kernel
theorem dX2_findsOfSort_49 : decode cX2_findsOfSort 49 = .ok (.iinc 4 1, 3) := by decide +kernel
theorem dX2_findsOfSort_52 : decode cX2_findsOfSort 52 = .ok (.goto (-47), 3) := by decide +kernel
theorem dX2_findsOfSort_55 : decode cX2_findsOfSort 55 = .ok (.iload_n 3, 1) := by decide +kernel
theorem dX2_findsOfSort_56 : decode cX2_findsOfSort 56 = .ok (.ireturn, 1) := by decide +kernel
theorem dX2_forget_0 : decode cX2_forget 0 = .ok (.aload_n 0, 1) := by decide +kernel
theorem dX2_forget_1 : decode cX2_forget 1 = .ok (.bipush (-2), 2) := by decide +kernel
theorem dX2_forget_3 : decode cX2_forget 3 = .ok (.putfield 28, 3) := by decide +kernel
theorem dX2_forget_6 : decode cX2_forget 6 = .ok (.return_, 1) := by decide +kernel
theorem dX2_isOfSort_0 : decode cX2_isOfSort 0 = .ok (.iload_n 2, 1) := by decide +kernel
theorem dX2_isOfSort_1 : decode cX2_isOfSort 1 = .ok (.iconst 2, 1) := by decide +kernel
theorem dX2_isOfSort_2 : decode cX2_isOfSort 2 = .ok (.if_icmp .ne 18, 3) := by decide +kernel
theorem dX2_isOfSort_5 : decode cX2_isOfSort 5 = .ok (.aload_n 0, 1) := by decide +kernel
theorem dX2_isOfSort_6 : decode cX2_isOfSort 6 = .ok (.getfield 15, 3) := by decide +kernel
theorem dX2_isOfSort_9 : decode cX2_isOfSort 9 = .ok (.iload_n 1, 1) := by decide +kernel
theorem dX2_isOfSort_10 : decode cX2_isOfSort 10 = .ok (.iaload, 1) := by decide +kernel
theorem dX2_isOfSort_11 : decode cX2_isOfSort 11 = .ok (.ifCond .eq 7, 3) := by decide +kernel

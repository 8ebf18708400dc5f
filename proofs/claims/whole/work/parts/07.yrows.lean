/-! ===== the fixed cells: kinds, references, the state M ===== -/
def LL : List mz_Kd := [.inr 10, .inr 6, .inl (.int, 80), .inl (.int, 80), .inl (.int, 8), .inl (.int, 64), .inr 3, .inl (.int, 80), .inl (.int, 80), .inl (.int, 80), .inl (.int, 80), .inl (.int, 80), .inr 8, .inl (.int, 40), .inl (.int, 40), .inl (.int, 40), .inl (.int, 40), .inl (.int, 40), .inl (.int, 40), .inl (.int, 40), .inl (.int, 20), .inl (.int, 20), .inl (.int, 20), .inl (.int, 40), .inr 4, .inl (.int, 20), .inl (.int, 4), .inr 2, .inl (.int, 1000), .inl (.int, 21), .inl (.int, 21), .inl (.int, 32), .inr 5, .inl (.char, 1000), .inr 2, .inl (.int, 1000), .inl (.int, 21), .inl (.int, 21), .inl (.int, 32), .inr 1, .inl (.int, 697), .inl (.int, 40), .inl (.long, 40), .inl (.int, 8), .inl (.int, 10), .inr 7, .inl (.int, 40), .inl (.int, 40), .inl (.boolean, 1024), .inl (.int, 40), .inr 0, .inl (.int, 36), .inl (.long, 36), .inl (.int, 36), .inl (.int, 3), .inl (.int, 6), .inr 9, .inl (.int, 10), .inl (.int, 10), .inl (.int, 16), .inl (.int, 72), .inl (.int, 8), .inl (.int, 1920), .inl (.int, 14), .inl (.int, 10), .inl (.int, 280), .inr 11, .inl (.int, 80), .inl (.int, 64), .inl (.int, 80), .inl (.int, 80), .inl (.int, 80), .inl (.int, 80), .inl (.int, 80), .inl (.int, 40), .inl (.int, 40), .inl (.int, 40), .inl (.int, 40), .inl (.int, 40), .inl (.int, 40), .inl (.int, 40), .inl (.int, 1000), .inl (.boolean, 21), .inl (.int, 21), .inl (.int, 21), .inl (.boolean, 21), .inl (.int, 21), .inl (.int, 21), .inl (.int, 2000), .inl (.int, 7), .inl (.boolean, 7), .inl (.int, 7), .inl (.int, 7), .inl (.int, 7), .inl (.int, 7), .inl (.int, 7), .inl (.int, 7), .inl (.int, 7), .inl (.int, 7), .inl (.int, 7), .inl (.int, 20), .inl (.int, 20), .inl (.int, 20), .inl (.int, 20), .inl (.int, 40), .inl (.int, 40), .inl (.int, 40), .inl (.boolean, 40), .inl (.int, 36), .inl (.long, 36), .inl (.int, 36), .inl (.int, 3), .inl (.int, 10), .inl (.int, 40), .inl (.int, 40), .inl (.int, 10), .inl (.int, 10), .inl (.int, 80), .inl (.int, 8), .inl (.int, 8), .inl (.int, 72), .inl (.int, 8), .inl (.boolean, 1920), .inl (.int, 1920), .inl (.int, 1920), .inl (.int, 1920), .inl (.int, 1920), .inl (.int, 1920), .inl (.int, 1920), .inl (.int, 8), .inl (.int, 4), .inl (.int, 20), .inl (.long, 1)]
theorem LL_len : LL.length = 133 := by decide +kernel
theorem l_0 : LL[0]? = some (.inr 10) := rfl
theorem l_1 : LL[1]? = some (.inr 6) := rfl
theorem l_2 : LL[2]? = some (.inl (.int, 80)) := rfl
theorem l_3 : LL[3]? = some (.inl (.int, 80)) := rfl
theorem l_4 : LL[4]? = some (.inl (.int, 8)) := rfl
theorem l_5 : LL[5]? = some (.inl (.int, 64)) := rfl
theorem l_6 : LL[6]? = some (.inr 3) := rfl
theorem l_7 : LL[7]? = some (.inl (.int, 80)) := rfl
theorem l_8 : LL[8]? = some (.inl (.int, 80)) := rfl
theorem l_9 : LL[9]? = some (.inl (.int, 80)) := rfl
theorem l_10 : LL[10]? = some (.inl (.int, 80)) := rfl
theorem l_11 : LL[11]? = some (.inl (.int, 80)) := rfl
theorem l_12 : LL[12]? = some (.inr 8) := rfl
theorem l_13 : LL[13]? = some (.inl (.int, 40)) := rfl
theorem l_14 : LL[14]? = some (.inl (.int, 40)) := rfl
theorem l_15 : LL[15]? = some (.inl (.int, 40)) := rfl
theorem l_16 : LL[16]? = some (.inl (.int, 40)) := rfl
theorem l_17 : LL[17]? = some (.inl (.int, 40)) := rfl
theorem l_18 : LL[18]? = some (.inl (.int, 40)) := rfl
theorem l_19 : LL[19]? = some (.inl (.int, 40)) := rfl
theorem l_20 : LL[20]? = some (.inl (.int, 20)) := rfl
theorem l_21 : LL[21]? = some (.inl (.int, 20)) := rfl
theorem l_22 : LL[22]? = some (.inl (.int, 20)) := rfl
theorem l_23 : LL[23]? = some (.inl (.int, 40)) := rfl
theorem l_24 : LL[24]? = some (.inr 4) := rfl
theorem l_25 : LL[25]? = some (.inl (.int, 20)) := rfl
theorem l_26 : LL[26]? = some (.inl (.int, 4)) := rfl
theorem l_27 : LL[27]? = some (.inr 2) := rfl
theorem l_28 : LL[28]? = some (.inl (.int, 1000)) := rfl
theorem l_29 : LL[29]? = some (.inl (.int, 21)) := rfl
theorem l_30 : LL[30]? = some (.inl (.int, 21)) := rfl
theorem l_31 : LL[31]? = some (.inl (.int, 32)) := rfl
theorem l_32 : LL[32]? = some (.inr 5) := rfl
theorem l_33 : LL[33]? = some (.inl (.char, 1000)) := rfl
theorem l_34 : LL[34]? = some (.inr 2) := rfl
theorem l_35 : LL[35]? = some (.inl (.int, 1000)) := rfl
theorem l_36 : LL[36]? = some (.inl (.int, 21)) := rfl
theorem l_37 : LL[37]? = some (.inl (.int, 21)) := rfl
theorem l_38 : LL[38]? = some (.inl (.int, 32)) := rfl
theorem l_39 : LL[39]? = some (.inr 1) := rfl
theorem l_40 : LL[40]? = some (.inl (.int, 697)) := rfl
theorem l_41 : LL[41]? = some (.inl (.int, 40)) := rfl
theorem l_42 : LL[42]? = some (.inl (.long, 40)) := rfl
theorem l_43 : LL[43]? = some (.inl (.int, 8)) := rfl
theorem l_44 : LL[44]? = some (.inl (.int, 10)) := rfl
theorem l_45 : LL[45]? = some (.inr 7) := rfl
theorem l_46 : LL[46]? = some (.inl (.int, 40)) := rfl
theorem l_47 : LL[47]? = some (.inl (.int, 40)) := rfl
theorem l_48 : LL[48]? = some (.inl (.boolean, 1024)) := rfl
theorem l_49 : LL[49]? = some (.inl (.int, 40)) := rfl
theorem l_50 : LL[50]? = some (.inr 0) := rfl
theorem l_51 : LL[51]? = some (.inl (.int, 36)) := rfl
theorem l_52 : LL[52]? = some (.inl (.long, 36)) := rfl
theorem l_53 : LL[53]? = some (.inl (.int, 36)) := rfl
theorem l_54 : LL[54]? = some (.inl (.int, 3)) := rfl
theorem l_55 : LL[55]? = some (.inl (.int, 6)) := rfl
theorem l_56 : LL[56]? = some (.inr 9) := rfl
theorem l_57 : LL[57]? = some (.inl (.int, 10)) := rfl
theorem l_58 : LL[58]? = some (.inl (.int, 10)) := rfl
theorem l_59 : LL[59]? = some (.inl (.int, 16)) := rfl
theorem l_60 : LL[60]? = some (.inl (.int, 72)) := rfl
theorem l_61 : LL[61]? = some (.inl (.int, 8)) := rfl
theorem l_62 : LL[62]? = some (.inl (.int, 1920)) := rfl
theorem l_63 : LL[63]? = some (.inl (.int, 14)) := rfl
theorem l_64 : LL[64]? = some (.inl (.int, 10)) := rfl
theorem l_65 : LL[65]? = some (.inl (.int, 280)) := rfl
theorem l_66 : LL[66]? = some (.inr 11) := rfl
theorem l_67 : LL[67]? = some (.inl (.int, 80)) := rfl
theorem l_68 : LL[68]? = some (.inl (.int, 64)) := rfl
theorem l_69 : LL[69]? = some (.inl (.int, 80)) := rfl
theorem l_70 : LL[70]? = some (.inl (.int, 80)) := rfl
theorem l_71 : LL[71]? = some (.inl (.int, 80)) := rfl
theorem l_72 : LL[72]? = some (.inl (.int, 80)) := rfl
theorem l_73 : LL[73]? = some (.inl (.int, 80)) := rfl
theorem l_74 : LL[74]? = some (.inl (.int, 40)) := rfl
theorem l_75 : LL[75]? = some (.inl (.int, 40)) := rfl
theorem l_76 : LL[76]? = some (.inl (.int, 40)) := rfl
theorem l_77 : LL[77]? = some (.inl (.int, 40)) := rfl
theorem l_78 : LL[78]? = some (.inl (.int, 40)) := rfl
theorem l_79 : LL[79]? = some (.inl (.int, 40)) := rfl
theorem l_80 : LL[80]? = some (.inl (.int, 40)) := rfl
theorem l_81 : LL[81]? = some (.inl (.int, 1000)) := rfl
theorem l_82 : LL[82]? = some (.inl (.boolean, 21)) := rfl
theorem l_83 : LL[83]? = some (.inl (.int, 21)) := rfl
theorem l_84 : LL[84]? = some (.inl (.int, 21)) := rfl
theorem l_85 : LL[85]? = some (.inl (.boolean, 21)) := rfl
theorem l_86 : LL[86]? = some (.inl (.int, 21)) := rfl
theorem l_87 : LL[87]? = some (.inl (.int, 21)) := rfl
theorem l_88 : LL[88]? = some (.inl (.int, 2000)) := rfl
theorem l_89 : LL[89]? = some (.inl (.int, 7)) := rfl
theorem l_90 : LL[90]? = some (.inl (.boolean, 7)) := rfl
theorem l_91 : LL[91]? = some (.inl (.int, 7)) := rfl
theorem l_92 : LL[92]? = some (.inl (.int, 7)) := rfl
theorem l_93 : LL[93]? = some (.inl (.int, 7)) := rfl
theorem l_94 : LL[94]? = some (.inl (.int, 7)) := rfl
theorem l_95 : LL[95]? = some (.inl (.int, 7)) := rfl
theorem l_96 : LL[96]? = some (.inl (.int, 7)) := rfl
theorem l_97 : LL[97]? = some (.inl (.int, 7)) := rfl
theorem l_98 : LL[98]? = some (.inl (.int, 7)) := rfl
theorem l_99 : LL[99]? = some (.inl (.int, 7)) := rfl
theorem l_100 : LL[100]? = some (.inl (.int, 20)) := rfl
theorem l_101 : LL[101]? = some (.inl (.int, 20)) := rfl
theorem l_102 : LL[102]? = some (.inl (.int, 20)) := rfl
theorem l_103 : LL[103]? = some (.inl (.int, 20)) := rfl
theorem l_104 : LL[104]? = some (.inl (.int, 40)) := rfl
theorem l_105 : LL[105]? = some (.inl (.int, 40)) := rfl
theorem l_106 : LL[106]? = some (.inl (.int, 40)) := rfl
theorem l_107 : LL[107]? = some (.inl (.boolean, 40)) := rfl
theorem l_108 : LL[108]? = some (.inl (.int, 36)) := rfl
theorem l_109 : LL[109]? = some (.inl (.long, 36)) := rfl
theorem l_110 : LL[110]? = some (.inl (.int, 36)) := rfl
theorem l_111 : LL[111]? = some (.inl (.int, 3)) := rfl
theorem l_112 : LL[112]? = some (.inl (.int, 10)) := rfl
theorem l_113 : LL[113]? = some (.inl (.int, 40)) := rfl
theorem l_114 : LL[114]? = some (.inl (.int, 40)) := rfl
theorem l_115 : LL[115]? = some (.inl (.int, 10)) := rfl
theorem l_116 : LL[116]? = some (.inl (.int, 10)) := rfl
theorem l_117 : LL[117]? = some (.inl (.int, 80)) := rfl
theorem l_118 : LL[118]? = some (.inl (.int, 8)) := rfl
theorem l_119 : LL[119]? = some (.inl (.int, 8)) := rfl
theorem l_120 : LL[120]? = some (.inl (.int, 72)) := rfl
theorem l_121 : LL[121]? = some (.inl (.int, 8)) := rfl
theorem l_122 : LL[122]? = some (.inl (.boolean, 1920)) := rfl
theorem l_123 : LL[123]? = some (.inl (.int, 1920)) := rfl
theorem l_124 : LL[124]? = some (.inl (.int, 1920)) := rfl
theorem l_125 : LL[125]? = some (.inl (.int, 1920)) := rfl
theorem l_126 : LL[126]? = some (.inl (.int, 1920)) := rfl
theorem l_127 : LL[127]? = some (.inl (.int, 1920)) := rfl
theorem l_128 : LL[128]? = some (.inl (.int, 1920)) := rfl
theorem l_129 : LL[129]? = some (.inl (.int, 8)) := rfl
theorem l_130 : LL[130]? = some (.inl (.int, 4)) := rfl
theorem l_131 : LL[131]? = some (.inl (.int, 20)) := rfl
theorem l_132 : LL[132]? = some (.inl (.long, 1)) := rfl
def R0l : List (Nat × Nat × Nat) := [(0, 0, 1), (0, 1, 6), (0, 2, 12), (0, 3, 24), (0, 4, 27), (0, 5, 32), (0, 6, 39), (0, 7, 45), (0, 8, 50), (0, 9, 56), (1, 0, 2), (1, 1, 3), (1, 2, 4), (1, 3, 5), (6, 0, 7), (6, 1, 8), (6, 2, 9), (6, 3, 10), (6, 4, 11), (12, 0, 13), (12, 1, 14), (12, 2, 15), (12, 3, 16), (12, 4, 17), (12, 5, 18), (12, 6, 19), (12, 8, 20), (12, 9, 21), (12, 10, 22), (12, 12, 23), (24, 0, 25), (24, 1, 26), (27, 0, 28), (27, 2, 29), (27, 3, 30), (27, 8, 31), (32, 0, 33), (32, 2, 34), (32, 10, 1000000), (34, 0, 35), (34, 2, 36), (34, 3, 37), (34, 8, 38), (39, 0, 1), (39, 1, 6), (39, 2, 12), (39, 3, 27), (39, 4, 40), (39, 5, 41), (39, 6, 42), (39, 7, 43), (39, 8, 44), (45, 0, 6), (45, 1, 12), (45, 2, 27), (45, 3, 39), (45, 4, 46), (45, 5, 47), (45, 8, 48), (45, 14, 49), (50, 0, 12), (50, 1, 51), (50, 2, 52), (50, 3, 53), (50, 5, 54), (50, 8, 55), (56, 0, 1), (56, 1, 6), (56, 2, 39), (56, 3, 57), (56, 4, 58), (56, 5, 59), (56, 6, 60), (56, 7, 61), (56, 9, 62), (56, 11, 63), (56, 12, 64), (56, 15, 65), (66, 1, 67), (66, 2, 68), (66, 4, 69), (66, 5, 70), (66, 6, 71), (66, 7, 72), (66, 8, 73), (66, 10, 74), (66, 11, 75), (66, 12, 76), (66, 13, 77), (66, 14, 78), (66, 15, 79), (66, 16, 80), (66, 18, 81), (66, 26, 82), (66, 27, 83), (66, 28, 84), (66, 29, 85), (66, 30, 86), (66, 31, 87), (66, 36, 88), (66, 39, 89), (66, 40, 90), (66, 41, 91), (66, 42, 92), (66, 43, 93), (66, 44, 94), (66, 45, 95), (66, 46, 96), (66, 47, 97), (66, 48, 98), (66, 49, 99), (66, 50, 100), (66, 56, 101), (66, 57, 102), (66, 58, 103), (66, 59, 104), (66, 60, 105), (66, 61, 106), (66, 62, 107), (66, 70, 108), (66, 71, 109), (66, 72, 110), (66, 74, 111), (66, 75, 112), (66, 78, 113), (66, 79, 114), (66, 80, 115), (66, 81, 116), (66, 82, 117), (66, 83, 118), (66, 84, 119), (66, 86, 120), (66, 87, 121), (66, 89, 122), (66, 90, 123), (66, 91, 124), (66, 92, 125), (66, 93, 126), (66, 94, 127), (66, 95, 128), (66, 96, 129), (66, 98, 130), (66, 99, 131)]
def R0 : mz_R := R0l.foldl (fun R q => mz_uR R q.1 q.2.1 (some q.2.2)) (fun _ _ => none)
def RR (w : Nat) : mz_R := mz_uR R0 32 10 (some (1000000 + w))
theorem RR_ne (w : Nat) {k j : Nat} {v : Option Nat} (h : ¬ (k = 32 ∧ j = 10)) (h0 : R0 k j = v) : RR w k j = v := by
  show (if k = 32 ∧ j = 10 then some (1000000 + w) else R0 k j) = v
  rw [if_neg h]
  exact h0
theorem r_0_0 (w : Nat) : RR w 0 0 = some 1 := RR_ne w (by decide) (by decide +kernel)
theorem r_0_1 (w : Nat) : RR w 0 1 = some 6 := RR_ne w (by decide) (by decide +kernel)
theorem r_0_2 (w : Nat) : RR w 0 2 = some 12 := RR_ne w (by decide) (by decide +kernel)
theorem r_0_3 (w : Nat) : RR w 0 3 = some 24 := RR_ne w (by decide) (by decide +kernel)
theorem r_0_4 (w : Nat) : RR w 0 4 = some 27 := RR_ne w (by decide) (by decide +kernel)
theorem r_0_5 (w : Nat) : RR w 0 5 = some 32 := RR_ne w (by decide) (by decide +kernel)
theorem r_0_6 (w : Nat) : RR w 0 6 = some 39 := RR_ne w (by decide) (by decide +kernel)
theorem r_0_7 (w : Nat) : RR w 0 7 = some 45 := RR_ne w (by decide) (by decide +kernel)
theorem r_0_8 (w : Nat) : RR w 0 8 = some 50 := RR_ne w (by decide) (by decide +kernel)
theorem r_0_9 (w : Nat) : RR w 0 9 = some 56 := RR_ne w (by decide) (by decide +kernel)
theorem r_1_0 (w : Nat) : RR w 1 0 = some 2 := RR_ne w (by decide) (by decide +kernel)
theorem r_1_1 (w : Nat) : RR w 1 1 = some 3 := RR_ne w (by decide) (by decide +kernel)
theorem r_1_2 (w : Nat) : RR w 1 2 = some 4 := RR_ne w (by decide) (by decide +kernel)
theorem r_1_3 (w : Nat) : RR w 1 3 = some 5 := RR_ne w (by decide) (by decide +kernel)
theorem r_6_0 (w : Nat) : RR w 6 0 = some 7 := RR_ne w (by decide) (by decide +kernel)
theorem r_6_1 (w : Nat) : RR w 6 1 = some 8 := RR_ne w (by decide) (by decide +kernel)
theorem r_6_2 (w : Nat) : RR w 6 2 = some 9 := RR_ne w (by decide) (by decide +kernel)
theorem r_6_3 (w : Nat) : RR w 6 3 = some 10 := RR_ne w (by decide) (by decide +kernel)
theorem r_6_4 (w : Nat) : RR w 6 4 = some 11 := RR_ne w (by decide) (by decide +kernel)
theorem r_12_0 (w : Nat) : RR w 12 0 = some 13 := RR_ne w (by decide) (by decide +kernel)
theorem r_12_1 (w : Nat) : RR w 12 1 = some 14 := RR_ne w (by decide) (by decide +kernel)
theorem r_12_2 (w : Nat) : RR w 12 2 = some 15 := RR_ne w (by decide) (by decide +kernel)
theorem r_12_3 (w : Nat) : RR w 12 3 = some 16 := RR_ne w (by decide) (by decide +kernel)
theorem r_12_4 (w : Nat) : RR w 12 4 = some 17 := RR_ne w (by decide) (by decide +kernel)
theorem r_12_5 (w : Nat) : RR w 12 5 = some 18 := RR_ne w (by decide) (by decide +kernel)
theorem r_12_6 (w : Nat) : RR w 12 6 = some 19 := RR_ne w (by decide) (by decide +kernel)
theorem r_12_8 (w : Nat) : RR w 12 8 = some 20 := RR_ne w (by decide) (by decide +kernel)
theorem r_12_9 (w : Nat) : RR w 12 9 = some 21 := RR_ne w (by decide) (by decide +kernel)
theorem r_12_10 (w : Nat) : RR w 12 10 = some 22 := RR_ne w (by decide) (by decide +kernel)
theorem r_12_12 (w : Nat) : RR w 12 12 = some 23 := RR_ne w (by decide) (by decide +kernel)
theorem r_24_0 (w : Nat) : RR w 24 0 = some 25 := RR_ne w (by decide) (by decide +kernel)
theorem r_24_1 (w : Nat) : RR w 24 1 = some 26 := RR_ne w (by decide) (by decide +kernel)
theorem r_27_0 (w : Nat) : RR w 27 0 = some 28 := RR_ne w (by decide) (by decide +kernel)
theorem r_27_2 (w : Nat) : RR w 27 2 = some 29 := RR_ne w (by decide) (by decide +kernel)
theorem r_27_3 (w : Nat) : RR w 27 3 = some 30 := RR_ne w (by decide) (by decide +kernel)
theorem r_27_8 (w : Nat) : RR w 27 8 = some 31 := RR_ne w (by decide) (by decide +kernel)
theorem r_32_0 (w : Nat) : RR w 32 0 = some 33 := RR_ne w (by decide) (by decide +kernel)
theorem r_32_2 (w : Nat) : RR w 32 2 = some 34 := RR_ne w (by decide) (by decide +kernel)
theorem r_34_0 (w : Nat) : RR w 34 0 = some 35 := RR_ne w (by decide) (by decide +kernel)
theorem r_34_2 (w : Nat) : RR w 34 2 = some 36 := RR_ne w (by decide) (by decide +kernel)
theorem r_34_3 (w : Nat) : RR w 34 3 = some 37 := RR_ne w (by decide) (by decide +kernel)
theorem r_34_8 (w : Nat) : RR w 34 8 = some 38 := RR_ne w (by decide) (by decide +kernel)
theorem r_39_0 (w : Nat) : RR w 39 0 = some 1 := RR_ne w (by decide) (by decide +kernel)
theorem r_39_1 (w : Nat) : RR w 39 1 = some 6 := RR_ne w (by decide) (by decide +kernel)
theorem r_39_2 (w : Nat) : RR w 39 2 = some 12 := RR_ne w (by decide) (by decide +kernel)
theorem r_39_3 (w : Nat) : RR w 39 3 = some 27 := RR_ne w (by decide) (by decide +kernel)
theorem r_39_4 (w : Nat) : RR w 39 4 = some 40 := RR_ne w (by decide) (by decide +kernel)
theorem r_39_5 (w : Nat) : RR w 39 5 = some 41 := RR_ne w (by decide) (by decide +kernel)
theorem r_39_6 (w : Nat) : RR w 39 6 = some 42 := RR_ne w (by decide) (by decide +kernel)
theorem r_39_7 (w : Nat) : RR w 39 7 = some 43 := RR_ne w (by decide) (by decide +kernel)
theorem r_39_8 (w : Nat) : RR w 39 8 = some 44 := RR_ne w (by decide) (by decide +kernel)
theorem r_45_0 (w : Nat) : RR w 45 0 = some 6 := RR_ne w (by decide) (by decide +kernel)
theorem r_45_1 (w : Nat) : RR w 45 1 = some 12 := RR_ne w (by decide) (by decide +kernel)
theorem r_45_2 (w : Nat) : RR w 45 2 = some 27 := RR_ne w (by decide) (by decide +kernel)
theorem r_45_3 (w : Nat) : RR w 45 3 = some 39 := RR_ne w (by decide) (by decide +kernel)
theorem r_45_4 (w : Nat) : RR w 45 4 = some 46 := RR_ne w (by decide) (by decide +kernel)
theorem r_45_5 (w : Nat) : RR w 45 5 = some 47 := RR_ne w (by decide) (by decide +kernel)
theorem r_45_8 (w : Nat) : RR w 45 8 = some 48 := RR_ne w (by decide) (by decide +kernel)
theorem r_45_14 (w : Nat) : RR w 45 14 = some 49 := RR_ne w (by decide) (by decide +kernel)
theorem r_50_0 (w : Nat) : RR w 50 0 = some 12 := RR_ne w (by decide) (by decide +kernel)
theorem r_50_1 (w : Nat) : RR w 50 1 = some 51 := RR_ne w (by decide) (by decide +kernel)
theorem r_50_2 (w : Nat) : RR w 50 2 = some 52 := RR_ne w (by decide) (by decide +kernel)
theorem r_50_3 (w : Nat) : RR w 50 3 = some 53 := RR_ne w (by decide) (by decide +kernel)
theorem r_50_5 (w : Nat) : RR w 50 5 = some 54 := RR_ne w (by decide) (by decide +kernel)
theorem r_50_8 (w : Nat) : RR w 50 8 = some 55 := RR_ne w (by decide) (by decide +kernel)
theorem r_56_0 (w : Nat) : RR w 56 0 = some 1 := RR_ne w (by decide) (by decide +kernel)
theorem r_56_1 (w : Nat) : RR w 56 1 = some 6 := RR_ne w (by decide) (by decide +kernel)
theorem r_56_2 (w : Nat) : RR w 56 2 = some 39 := RR_ne w (by decide) (by decide +kernel)
theorem r_56_3 (w : Nat) : RR w 56 3 = some 57 := RR_ne w (by decide) (by decide +kernel)
theorem r_56_4 (w : Nat) : RR w 56 4 = some 58 := RR_ne w (by decide) (by decide +kernel)
theorem r_56_5 (w : Nat) : RR w 56 5 = some 59 := RR_ne w (by decide) (by decide +kernel)
theorem r_56_6 (w : Nat) : RR w 56 6 = some 60 := RR_ne w (by decide) (by decide +kernel)
theorem r_56_7 (w : Nat) : RR w 56 7 = some 61 := RR_ne w (by decide) (by decide +kernel)
theorem r_56_9 (w : Nat) : RR w 56 9 = some 62 := RR_ne w (by decide) (by decide +kernel)
theorem r_56_11 (w : Nat) : RR w 56 11 = some 63 := RR_ne w (by decide) (by decide +kernel)
theorem r_56_12 (w : Nat) : RR w 56 12 = some 64 := RR_ne w (by decide) (by decide +kernel)
theorem r_56_15 (w : Nat) : RR w 56 15 = some 65 := RR_ne w (by decide) (by decide +kernel)
theorem r_66_1 (w : Nat) : RR w 66 1 = some 67 := RR_ne w (by decide) (by decide +kernel)
theorem r_66_2 (w : Nat) : RR w 66 2 = some 68 := RR_ne w (by decide) (by decide +kernel)
theorem r_66_4 (w : Nat) : RR w 66 4 = some 69 := RR_ne w (by decide) (by decide +kernel)
theorem r_66_5 (w : Nat) : RR w 66 5 = some 70 := RR_ne w (by decide) (by decide +kernel)
theorem r_66_6 (w : Nat) : RR w 66 6 = some 71 := RR_ne w (by decide) (by decide +kernel)
theorem r_66_7 (w : Nat) : RR w 66 7 = some 72 := RR_ne w (by decide) (by decide +kernel)
theorem r_66_8 (w : Nat) : RR w 66 8 = some 73 := RR_ne w (by decide) (by decide +kernel)
theorem r_66_10 (w : Nat) : RR w 66 10 = some 74 := RR_ne w (by decide) (by decide +kernel)
theorem r_66_11 (w : Nat) : RR w 66 11 = some 75 := RR_ne w (by decide) (by decide +kernel)
theorem r_66_12 (w : Nat) : RR w 66 12 = some 76 := RR_ne w (by decide) (by decide +kernel)
theorem r_66_13 (w : Nat) : RR w 66 13 = some 77 := RR_ne w (by decide) (by decide +kernel)
theorem r_66_14 (w : Nat) : RR w 66 14 = some 78 := RR_ne w (by decide) (by decide +kernel)
theorem r_66_15 (w : Nat) : RR w 66 15 = some 79 := RR_ne w (by decide) (by decide +kernel)
theorem r_66_16 (w : Nat) : RR w 66 16 = some 80 := RR_ne w (by decide) (by decide +kernel)
theorem r_66_18 (w : Nat) : RR w 66 18 = some 81 := RR_ne w (by decide) (by decide +kernel)
theorem r_66_26 (w : Nat) : RR w 66 26 = some 82 := RR_ne w (by decide) (by decide +kernel)
theorem r_66_27 (w : Nat) : RR w 66 27 = some 83 := RR_ne w (by decide) (by decide +kernel)
theorem r_66_28 (w : Nat) : RR w 66 28 = some 84 := RR_ne w (by decide) (by decide +kernel)
theorem r_66_29 (w : Nat) : RR w 66 29 = some 85 := RR_ne w (by decide) (by decide +kernel)
theorem r_66_30 (w : Nat) : RR w 66 30 = some 86 := RR_ne w (by decide) (by decide +kernel)
theorem r_66_31 (w : Nat) : RR w 66 31 = some 87 := RR_ne w (by decide) (by decide +kernel)
theorem r_66_36 (w : Nat) : RR w 66 36 = some 88 := RR_ne w (by decide) (by decide +kernel)
theorem r_66_39 (w : Nat) : RR w 66 39 = some 89 := RR_ne w (by decide) (by decide +kernel)
theorem r_66_40 (w : Nat) : RR w 66 40 = some 90 := RR_ne w (by decide) (by decide +kernel)
theorem r_66_41 (w : Nat) : RR w 66 41 = some 91 := RR_ne w (by decide) (by decide +kernel)
theorem r_66_42 (w : Nat) : RR w 66 42 = some 92 := RR_ne w (by decide) (by decide +kernel)
theorem r_66_43 (w : Nat) : RR w 66 43 = some 93 := RR_ne w (by decide) (by decide +kernel)
theorem r_66_44 (w : Nat) : RR w 66 44 = some 94 := RR_ne w (by decide) (by decide +kernel)
theorem r_66_45 (w : Nat) : RR w 66 45 = some 95 := RR_ne w (by decide) (by decide +kernel)
theorem r_66_46 (w : Nat) : RR w 66 46 = some 96 := RR_ne w (by decide) (by decide +kernel)
theorem r_66_47 (w : Nat) : RR w 66 47 = some 97 := RR_ne w (by decide) (by decide +kernel)
theorem r_66_48 (w : Nat) : RR w 66 48 = some 98 := RR_ne w (by decide) (by decide +kernel)
theorem r_66_49 (w : Nat) : RR w 66 49 = some 99 := RR_ne w (by decide) (by decide +kernel)
theorem r_66_50 (w : Nat) : RR w 66 50 = some 100 := RR_ne w (by decide) (by decide +kernel)
theorem r_66_56 (w : Nat) : RR w 66 56 = some 101 := RR_ne w (by decide) (by decide +kernel)
theorem r_66_57 (w : Nat) : RR w 66 57 = some 102 := RR_ne w (by decide) (by decide +kernel)
theorem r_66_58 (w : Nat) : RR w 66 58 = some 103 := RR_ne w (by decide) (by decide +kernel)
theorem r_66_59 (w : Nat) : RR w 66 59 = some 104 := RR_ne w (by decide) (by decide +kernel)
theorem r_66_60 (w : Nat) : RR w 66 60 = some 105 := RR_ne w (by decide) (by decide +kernel)
theorem r_66_61 (w : Nat) : RR w 66 61 = some 106 := RR_ne w (by decide) (by decide +kernel)
theorem r_66_62 (w : Nat) : RR w 66 62 = some 107 := RR_ne w (by decide) (by decide +kernel)
theorem r_66_70 (w : Nat) : RR w 66 70 = some 108 := RR_ne w (by decide) (by decide +kernel)
theorem r_66_71 (w : Nat) : RR w 66 71 = some 109 := RR_ne w (by decide) (by decide +kernel)
theorem r_66_72 (w : Nat) : RR w 66 72 = some 110 := RR_ne w (by decide) (by decide +kernel)
theorem r_66_74 (w : Nat) : RR w 66 74 = some 111 := RR_ne w (by decide) (by decide +kernel)
theorem r_66_75 (w : Nat) : RR w 66 75 = some 112 := RR_ne w (by decide) (by decide +kernel)
theorem r_66_78 (w : Nat) : RR w 66 78 = some 113 := RR_ne w (by decide) (by decide +kernel)
theorem r_66_79 (w : Nat) : RR w 66 79 = some 114 := RR_ne w (by decide) (by decide +kernel)
theorem r_66_80 (w : Nat) : RR w 66 80 = some 115 := RR_ne w (by decide) (by decide +kernel)
theorem r_66_81 (w : Nat) : RR w 66 81 = some 116 := RR_ne w (by decide) (by decide +kernel)
theorem r_66_82 (w : Nat) : RR w 66 82 = some 117 := RR_ne w (by decide) (by decide +kernel)
theorem r_66_83 (w : Nat) : RR w 66 83 = some 118 := RR_ne w (by decide) (by decide +kernel)
theorem r_66_84 (w : Nat) : RR w 66 84 = some 119 := RR_ne w (by decide) (by decide +kernel)
theorem r_66_86 (w : Nat) : RR w 66 86 = some 120 := RR_ne w (by decide) (by decide +kernel)
theorem r_66_87 (w : Nat) : RR w 66 87 = some 121 := RR_ne w (by decide) (by decide +kernel)
theorem r_66_89 (w : Nat) : RR w 66 89 = some 122 := RR_ne w (by decide) (by decide +kernel)
theorem r_66_90 (w : Nat) : RR w 66 90 = some 123 := RR_ne w (by decide) (by decide +kernel)
theorem r_66_91 (w : Nat) : RR w 66 91 = some 124 := RR_ne w (by decide) (by decide +kernel)
theorem r_66_92 (w : Nat) : RR w 66 92 = some 125 := RR_ne w (by decide) (by decide +kernel)
theorem r_66_93 (w : Nat) : RR w 66 93 = some 126 := RR_ne w (by decide) (by decide +kernel)
theorem r_66_94 (w : Nat) : RR w 66 94 = some 127 := RR_ne w (by decide) (by decide +kernel)
theorem r_66_95 (w : Nat) : RR w 66 95 = some 128 := RR_ne w (by decide) (by decide +kernel)
theorem r_66_96 (w : Nat) : RR w 66 96 = some 129 := RR_ne w (by decide) (by decide +kernel)
theorem r_66_98 (w : Nat) : RR w 66 98 = some 130 := RR_ne w (by decide) (by decide +kernel)
theorem r_66_99 (w : Nat) : RR w 66 99 = some 131 := RR_ne w (by decide) (by decide +kernel)
theorem r_32_10 (w : Nat) : RR w 32 10 = some (1000000 + w) := by
  show (if 32 = 32 ∧ 10 = 10 then some (1000000 + w) else R0 32 10) = _
  rw [if_pos ⟨rfl, rfl⟩]
theorem RR_put (w v : Nat) : mz_uR (RR w) 32 10 (some (1000000 + v)) = RR v := by
  funext a b
  by_cases h : a = 32 ∧ b = 10
  · simp only [RR, mz_uR, h, and_self, if_true]
  · simp only [RR, mz_uR, h, if_false]
abbrev dM : Type := mz_I × mz_J × Nat
def gI (M : dM) (k j : Nat) : Int32 := M.1 k j
def gJ (M : dM) (k j : Nat) : Int64 := M.2.1 k j
def sI (M : dM) (k j : Nat) (x : Int32) : dM := (mz_uI M.1 k j x, M.2)
def sJ (M : dM) (k j : Nat) (x : Int64) : dM := (M.1, mz_uJ M.2.1 k j x, M.2.2)
def sW (M : dM) (w : Nat) : dM := (M.1, M.2.1, w)
/-- cells of array q from dp on take n cells of array k from sp on -/
def cI (M : dM) (k q sp dp n : Nat) : dM := (fun a => if a = q then va_cpy (M.1 k) (M.1 q) sp dp n else M.1 a, M.2)
def bI (b : Bool) : Int32 := if b then 1 else 0
theorem bI_0 {b : Bool} (h : bI b = 0) : ¬ b = true := by
  cases b
  · decide
  · exact absurd h (by decide)
theorem bI_1 {b : Bool} (h : ¬ bI b = 0) : b = true := by
  cases b
  · exact absurd rfl h
  · rfl
theorem bI_n (b : Bool) : narrow .boolean (.int (bI b)) = .int (bI b) := by cases b <;> rfl
theorem b01_n {x : Int32} (h : x = 0 ∨ x = 1) : narrow .boolean (.int x) = .int x := by rcases h with rfl | rfl <;> rfl
theorem b01_f {x : Int32} (h : x = 0 ∨ x = 1) : fits .boolean (.int x) = true := by rcases h with rfl | rfl <;> rfl
def mW (y : mz_M) (d : Nat) (Q : mz_P) (pc : Nat) (L : List (Option Value)) (st : List Value) (M : dM) : Prop := mz_wp y d 0 0 Q pc L st LL (RR M.2.2) M.1 M.2.1
def mR (Q : mz_P) (r : Option Value) (M : dM) : Prop := Q r LL (RR M.2.2) M.1 M.2.1
def mQ (r : Option Value) (M : dM) : mz_P := fun r' Λ' R' I' J' => r' = r ∧ Λ' = LL ∧ R' = RR M.2.2 ∧ I' = M.1 ∧ J' = M.2.1
def mO (y : mz_M) (d : Nat) (vs : List Value) (M : dM) (r : Option Value) (M' : dM) : Prop := mz_Ok y d 0 0 vs LL (RR M.2.2) M.1 M.2.1 (mQ r M')
theorem mR_mQ (r : Option Value) (M : dM) : mR (mQ r M) r M := ⟨rfl, rfl, rfl, rfl, rfl⟩
theorem vi_LL {k : Nat} {q : mz_Kd} (h : LL[k]? = some q) : k < LL.length := (List.getElem?_eq_some_iff.mp h).1
/-- what holds of fewer locals -/
def wk : List (Option Value) → List (Option Value) → Prop
  | [], [] => True
  | a :: s, b :: t => (b = none ∨ b = a) ∧ wk s t
  | _, _ => False
theorem wk_get : ∀ {s t : List (Option Value)} (_ : wk s t) (i : Nat) (v : Value), t[i]? = some (some v) → s[i]? = some (some v)
  | [], [], _, _, _, h => h
  | [], _ :: _, h, _, _, _ => h.elim
  | _ :: _, [], h, _, _, _ => h.elim
  | a :: s, b :: t, ⟨h1, h2⟩, 0, v, h => by
    rcases h1 with rfl | rfl
    · cases h
    · exact h
  | a :: s, b :: t, ⟨h1, h2⟩, i + 1, v, h => by
    rw [List.getElem?_cons_succ] at h ⊢
    exact wk_get h2 i v h
def hpOk (L : List (Option Value)) (i : Nat) : Bool := match L[i - 1]? with
  | some o => i == 0 || !(mz_c2 o)
  | none => true
theorem hpOk_of {L : List (Option Value)} {i : Nat} (h : hpOk L i = true) : ∀ o, L[i - 1]? = some o → i = 0 ∨ mz_c2 o = false := by
  intro o ho
  unfold hpOk at h
  rw [ho] at h
  simp only [Bool.or_eq_true, beq_iff_eq, Bool.not_eq_true'] at h
  exact h
section YR
variable {y : mz_M} {d : Nat} {Q : mz_P} {pc n : Nat} {L L2 : List (Option Value)} {st : List Value} {M : dM} {k i ci j : Nat}
theorem y_wk (h : wk L L2) (hk : mW y d Q pc L2 st M) : mW y d Q pc L st M := by
  intro p l e Rm s m args below meth c D cid ad0 n0 A MC MS Z hF hE ad H locs cells slots ls hD hL
  exact hk _ _ _ _ _ _ _ _ _ _ _ _ _ _ _ _ _ _ hF hE _ _ _ _ _ _ hD ⟨hL.1, hL.2.1, fun a v ha => hL.2.2 a v (wk_get h a v ha)⟩
theorem y_iadd {a b : Int32} (h : mz_d y.2.1 pc n 1 .iadd)  (k : mW y d Q n L (.int (a + b) :: st) M) : mW y d Q pc L (.int b :: .int a :: st) M := x_iadd h k
theorem y_isub {a b : Int32} (h : mz_d y.2.1 pc n 1 .isub)  (k : mW y d Q n L (.int (a - b) :: st) M) : mW y d Q pc L (.int b :: .int a :: st) M := x_isub h k
theorem y_imul {a b : Int32} (h : mz_d y.2.1 pc n 1 .imul)  (k : mW y d Q n L (.int (a * b) :: st) M) : mW y d Q pc L (.int b :: .int a :: st) M := x_imul h k
theorem y_iand {a b : Int32} (h : mz_d y.2.1 pc n 1 .iand)  (k : mW y d Q n L (.int (a &&& b) :: st) M) : mW y d Q pc L (.int b :: .int a :: st) M := x_iand h k
theorem y_ior {a b : Int32} (h : mz_d y.2.1 pc n 1 .ior)  (k : mW y d Q n L (.int (a ||| b) :: st) M) : mW y d Q pc L (.int b :: .int a :: st) M := x_ior h k
theorem y_ixor {a b : Int32} (h : mz_d y.2.1 pc n 1 .ixor)  (k : mW y d Q n L (.int (a ^^^ b) :: st) M) : mW y d Q pc L (.int b :: .int a :: st) M := x_ixor h k
theorem y_ladd {a b : Int64} (h : mz_d y.2.1 pc n 1 .ladd)  (k : mW y d Q n L (.long (a + b) :: st) M) : mW y d Q pc L (.long b :: .long a :: st) M := x_ladd h k
theorem y_lsub {a b : Int64} (h : mz_d y.2.1 pc n 1 .lsub)  (k : mW y d Q n L (.long (a - b) :: st) M) : mW y d Q pc L (.long b :: .long a :: st) M := x_lsub h k
theorem y_lmul {a b : Int64} (h : mz_d y.2.1 pc n 1 .lmul)  (k : mW y d Q n L (.long (a * b) :: st) M) : mW y d Q pc L (.long b :: .long a :: st) M := x_lmul h k
theorem y_land {a b : Int64} (h : mz_d y.2.1 pc n 1 .land)  (k : mW y d Q n L (.long (a &&& b) :: st) M) : mW y d Q pc L (.long b :: .long a :: st) M := x_land h k
theorem y_lor {a b : Int64} (h : mz_d y.2.1 pc n 1 .lor)  (k : mW y d Q n L (.long (a ||| b) :: st) M) : mW y d Q pc L (.long b :: .long a :: st) M := x_lor h k
theorem y_lxor {a b : Int64} (h : mz_d y.2.1 pc n 1 .lxor)  (k : mW y d Q n L (.long (a ^^^ b) :: st) M) : mW y d Q pc L (.long b :: .long a :: st) M := x_lxor h k
theorem y_irem {a b : Int32} (h : mz_d y.2.1 pc n 1 .irem) (hz : ¬ b = 0) (k : mW y d Q n L (.int (a - a / b * b) :: st) M) : mW y d Q pc L (.int b :: .int a :: st) M := x_irem h hz k
theorem y_idiv {a b : Int32} (h : mz_d y.2.1 pc n 1 .idiv) (hz : ¬ b = 0) (k : mW y d Q n L (.int (a / b) :: st) M) : mW y d Q pc L (.int b :: .int a :: st) M := x_idiv h hz k
theorem y_ldiv {a b : Int64} (h : mz_d y.2.1 pc n 1 .ldiv) (hz : ¬ b = 0) (k : mW y d Q n L (.long (a / b) :: st) M) : mW y d Q pc L (.long b :: .long a :: st) M := x_ldiv h hz k
theorem y_lrem {a b : Int64} (h : mz_d y.2.1 pc n 1 .lrem) (hz : ¬ b = 0) (k : mW y d Q n L (.long (a - a / b * b) :: st) M) : mW y d Q pc L (.long b :: .long a :: st) M := x_lrem h hz k
theorem y_ineg {a : Int32} (h : mz_d y.2.1 pc n 1 .ineg)  (k : mW y d Q n L (.int (-a) :: st) M) : mW y d Q pc L (.int a :: st) M := x_ineg h k
theorem y_ishl {a b : Int32} (h : mz_d y.2.1 pc n 1 .ishl)  (k : mW y d Q n L (.int (a <<< (b &&& 31)) :: st) M) : mW y d Q pc L (.int b :: .int a :: st) M := x_ishl h k
theorem y_ishr {a b : Int32} (h : mz_d y.2.1 pc n 1 .ishr)  (k : mW y d Q n L (.int (a >>> (b &&& 31)) :: st) M) : mW y d Q pc L (.int b :: .int a :: st) M := x_ishr h k
theorem y_iushr {a b : Int32} (h : mz_d y.2.1 pc n 1 .iushr)  (k : mW y d Q n L (.int ((a.toUInt32 >>> (b.toUInt32 &&& Int32.toUInt32 31)).toInt32) :: st) M) : mW y d Q pc L (.int b :: .int a :: st) M := x_iushr h k
theorem y_lshl {a : Int64} {b : Int32} (h : mz_d y.2.1 pc n 1 .lshl)  (k : mW y d Q n L (.long (a <<< (b.toInt64 &&& 63)) :: st) M) : mW y d Q pc L (.int b :: .long a :: st) M := x_lshl h k
theorem y_lshr {a : Int64} {b : Int32} (h : mz_d y.2.1 pc n 1 .lshr)  (k : mW y d Q n L (.long (a >>> (b.toInt64 &&& 63)) :: st) M) : mW y d Q pc L (.int b :: .long a :: st) M := x_lshr h k
theorem y_lushr {a : Int64} {b : Int32} (h : mz_d y.2.1 pc n 1 .lushr)  (k : mW y d Q n L (.long ((a.toUInt64 >>> (b.toInt64.toUInt64 &&& Int64.toUInt64 63)).toInt64) :: st) M) : mW y d Q pc L (.int b :: .long a :: st) M := x_lushr h k
theorem y_i2l {a : Int32} (h : mz_d y.2.1 pc n 1 .i2l)  (k : mW y d Q n L (.long a.toInt64 :: st) M) : mW y d Q pc L (.int a :: st) M := x_i2l h k
theorem y_l2i {a : Int64} (h : mz_d y.2.1 pc n 1 .l2i)  (k : mW y d Q n L (.int a.toInt32 :: st) M) : mW y d Q pc L (.long a :: st) M := x_l2i h k
theorem y_i2c {a : Int32} (h : mz_d y.2.1 pc n 1 .i2c)  (k : mW y d Q n L (.int ((a.toUInt32 % 65536).toInt32) :: st) M) : mW y d Q pc L (.int a :: st) M := x_i2c h k
theorem y_i2b {a : Int32} (h : mz_d y.2.1 pc n 1 .i2b)  (k : mW y d Q n L (.int (a.toInt8.toInt32) :: st) M) : mW y d Q pc L (.int a :: st) M := x_i2b h k
theorem y_lcmp {a b : Int64} (h : mz_d y.2.1 pc n 1 .lcmp)  (k : mW y d Q n L (.int (lg_cmp a b) :: st) M) : mW y d Q pc L (.long b :: .long a :: st) M := x_lcmp h k
theorem y_iconst {i : Int} {v : Int32} (h : mz_d y.2.1 pc n 1 (.iconst i)) (hv : Int32.ofInt i = v) (k : mW y d Q n L (.int v :: st) M) : mW y d Q pc L (st) M := x_iconst h hv k
theorem y_bipush {i : Int} {v : Int32} (h : mz_d y.2.1 pc n 2 (.bipush i)) (hv : (Int8.ofInt i).toInt32 = v) (k : mW y d Q n L (.int v :: st) M) : mW y d Q pc L (st) M := x_bipush h hv k
theorem y_sipush {i : Int} {v : Int32} (h : mz_d y.2.1 pc n 3 (.sipush i)) (hv : (Int16.ofInt i).toInt32 = v) (k : mW y d Q n L (.int v :: st) M) : mW y d Q pc L (st) M := x_sipush h hv k
theorem y_lconst {i : Fin 2} {v : Int64} (h : mz_d y.2.1 pc n 1 (.lconst i)) (hv : Int64.ofNat (i : Nat) = v) (k : mW y d Q n L (.long v :: st) M) : mW y d Q pc L (st) M := x_lconst h hv k
theorem y_ldc {i : Nat} {v : Int32} (h : mz_d y.2.1 pc n 2 (.ldc i)) (hc : Cond.constant y.1.cls i v ∈ mz_gt) (k : mW y d Q n L (.int v :: st) M) : mW y d Q pc L st M := x_ldc h hc k
theorem y_ldcw {i : Nat} {v : Int32} (h : mz_d y.2.1 pc n 3 (.ldc_w i)) (hc : Cond.constant y.1.cls i v ∈ mz_gt) (k : mW y d Q n L (.int v :: st) M) : mW y d Q pc L st M := x_ldcw h hc k
theorem y_ldc2 {i : Nat} {v : Int64} (h : mz_d y.2.1 pc n 3 (.ldc2_w i)) (hc : Cond.constantLong y.1.cls i v ∈ mz_gt) (k : mW y d Q n L (.long v :: st) M) : mW y d Q pc L st M := x_ldc2 h hc k
theorem y_dup_i {a : Int32} (h : mz_d y.2.1 pc n 1 .dup)  (k : mW y d Q n L (.int a :: .int a :: st) M) : mW y d Q pc L (.int a :: st) M := x_dup_i h k
theorem y_dup_r {a : Nat} (h : mz_d y.2.1 pc n 1 .dup)  (k : mW y d Q n L (.ref a :: .ref a :: st) M) : mW y d Q pc L (.ref a :: st) M := x_dup_r h k
theorem y_pop_i {a : Int32} (h : mz_d y.2.1 pc n 1 .pop)  (k : mW y d Q n L (st) M) : mW y d Q pc L (.int a :: st) M := x_pop_i h k
theorem y_dup2 {a : Nat} {b : Int32} (h : mz_d y.2.1 pc n 1 .dup2)  (k : mW y d Q n L (.int b :: .ref a :: .int b :: .ref a :: st) M) : mW y d Q pc L (.int b :: .ref a :: st) M := x_dup2 h k
theorem y_dup2l {a : Int64} (h : mz_d y.2.1 pc n 1 .dup2)  (k : mW y d Q n L (.long a :: .long a :: st) M) : mW y d Q pc L (.long a :: st) M := x_dup2l h k
theorem y_icmp_eq {a b : Int32} {t : Nat} {off : Int} (h : mz_b y.2.1 pc n t off (.if_icmp .eq off)) (kt : a = b → mW y d Q t L st M) (kf : ¬ a = b → mW y d Q n L st M) : mW y d Q pc L (.int b :: .int a :: st) M := x_icmp_eq h kt kf
theorem y_icmp_ne {a b : Int32} {t : Nat} {off : Int} (h : mz_b y.2.1 pc n t off (.if_icmp .ne off)) (kt : ¬ a = b → mW y d Q t L st M) (kf : a = b → mW y d Q n L st M) : mW y d Q pc L (.int b :: .int a :: st) M := x_icmp_ne h kt kf
theorem y_icmp_lt {a b : Int32} {t : Nat} {off : Int} (h : mz_b y.2.1 pc n t off (.if_icmp .lt off)) (kt : a < b → mW y d Q t L st M) (kf : ¬ a < b → mW y d Q n L st M) : mW y d Q pc L (.int b :: .int a :: st) M := x_icmp_lt h kt kf
theorem y_icmp_ge {a b : Int32} {t : Nat} {off : Int} (h : mz_b y.2.1 pc n t off (.if_icmp .ge off)) (kt : b ≤ a → mW y d Q t L st M) (kf : ¬ b ≤ a → mW y d Q n L st M) : mW y d Q pc L (.int b :: .int a :: st) M := x_icmp_ge h kt kf
theorem y_icmp_gt {a b : Int32} {t : Nat} {off : Int} (h : mz_b y.2.1 pc n t off (.if_icmp .gt off)) (kt : b < a → mW y d Q t L st M) (kf : ¬ b < a → mW y d Q n L st M) : mW y d Q pc L (.int b :: .int a :: st) M := x_icmp_gt h kt kf
theorem y_icmp_le {a b : Int32} {t : Nat} {off : Int} (h : mz_b y.2.1 pc n t off (.if_icmp .le off)) (kt : a ≤ b → mW y d Q t L st M) (kf : ¬ a ≤ b → mW y d Q n L st M) : mW y d Q pc L (.int b :: .int a :: st) M := x_icmp_le h kt kf
theorem y_if_eq {a : Int32} {t : Nat} {off : Int} (h : mz_b y.2.1 pc n t off (.ifCond .eq off)) (kt : a = 0 → mW y d Q t L st M) (kf : ¬ a = 0 → mW y d Q n L st M) : mW y d Q pc L (.int a :: st) M := x_if_eq h kt kf
theorem y_if_ne {a : Int32} {t : Nat} {off : Int} (h : mz_b y.2.1 pc n t off (.ifCond .ne off)) (kt : ¬ a = 0 → mW y d Q t L st M) (kf : a = 0 → mW y d Q n L st M) : mW y d Q pc L (.int a :: st) M := x_if_ne h kt kf
theorem y_if_lt {a : Int32} {t : Nat} {off : Int} (h : mz_b y.2.1 pc n t off (.ifCond .lt off)) (kt : a < 0 → mW y d Q t L st M) (kf : ¬ a < 0 → mW y d Q n L st M) : mW y d Q pc L (.int a :: st) M := x_if_lt h kt kf
theorem y_if_ge {a : Int32} {t : Nat} {off : Int} (h : mz_b y.2.1 pc n t off (.ifCond .ge off)) (kt : 0 ≤ a → mW y d Q t L st M) (kf : ¬ 0 ≤ a → mW y d Q n L st M) : mW y d Q pc L (.int a :: st) M := x_if_ge h kt kf
theorem y_if_gt {a : Int32} {t : Nat} {off : Int} (h : mz_b y.2.1 pc n t off (.ifCond .gt off)) (kt : 0 < a → mW y d Q t L st M) (kf : ¬ 0 < a → mW y d Q n L st M) : mW y d Q pc L (.int a :: st) M := x_if_gt h kt kf
theorem y_if_le {a : Int32} {t : Nat} {off : Int} (h : mz_b y.2.1 pc n t off (.ifCond .le off)) (kt : a ≤ 0 → mW y d Q t L st M) (kf : ¬ a ≤ 0 → mW y d Q n L st M) : mW y d Q pc L (.int a :: st) M := x_if_le h kt kf
theorem y_goto {t : Nat} {off : Int} (h : mz_b y.2.1 pc n t off (.goto off)) (k : mW y d Q t L st M) : mW y d Q pc L st M := x_goto h k
theorem y_tabIn {dflt lo hi : Int} {offs : Array Int} {len t : Nat} {a : Int32} {off : Int} (hd : decode y.2.1 pc = .ok (.tableswitch dflt lo hi offs, len)) (h1 : ¬ a.toInt < lo) (h2 : ¬ hi < a.toInt) (ho : offs[(a.toInt - lo).toNat]? = some off) (ht : (pc : Int) + off = (t : Int)) (k : mW y d Q t L st M) : mW y d Q pc L (.int a :: st) M := x_tabIn hd h1 h2 ho ht k
theorem y_tabOut {dflt lo hi : Int} {offs : Array Int} {len t : Nat} {a : Int32} (hd : decode y.2.1 pc = .ok (.tableswitch dflt lo hi offs, len)) (h1 : a.toInt < lo ∨ hi < a.toInt) (ht : (pc : Int) + dflt = (t : Int)) (k : mW y d Q t L st M) : mW y d Q pc L (.int a :: st) M := x_tabOut hd h1 ht k
theorem y_iload {i : Nat} {a : Int32} (h : mz_d y.2.1 pc n 2 (.iload i)) (hl : L[i]? = some (some (.int a))) (k : mW y d Q n L ((.int a) :: st) M) : mW y d Q pc L st M := x_iload h hl k
theorem y_iload_n {i : Fin 4} {a : Int32} (h : mz_d y.2.1 pc n 1 (.iload_n i)) (hl : L[(i : Nat)]? = some (some (.int a))) (k : mW y d Q n L ((.int a) :: st) M) : mW y d Q pc L st M := x_iload_n h hl k
theorem y_istore {i : Nat} {a : Int32} (h : mz_d y.2.1 pc n 2 (.istore i)) (hn : i < y.2.2.1) (hp : hpOk L i = true) (hL : (L.set i (some (.int a))) = L2) (k : mW y d Q n L2 st M) : mW y d Q pc L ((.int a) :: st) M := x_istore h hn (hpOk_of hp) (by rw [hL]; exact k)
theorem y_istore_n {i : Fin 4} {a : Int32} (h : mz_d y.2.1 pc n 1 (.istore_n i)) (hn : (i : Nat) < y.2.2.1) (hp : hpOk L (i : Nat) = true) (hL : (L.set (i : Nat) (some (.int a))) = L2) (k : mW y d Q n L2 st M) : mW y d Q pc L ((.int a) :: st) M := x_istore_n h hn (hpOk_of hp) (by rw [hL]; exact k)
theorem y_lload {i : Nat} {a : Int64} (h : mz_d y.2.1 pc n 2 (.lload i)) (hl : L[i]? = some (some (.long a))) (k : mW y d Q n L ((.long a) :: st) M) : mW y d Q pc L st M := x_lload h hl k
theorem y_lload_n {i : Fin 4} {a : Int64} (h : mz_d y.2.1 pc n 1 (.lload_n i)) (hl : L[(i : Nat)]? = some (some (.long a))) (k : mW y d Q n L ((.long a) :: st) M) : mW y d Q pc L st M := x_lload_n h hl k
theorem y_lstore {i : Nat} {a : Int64} (h : mz_d y.2.1 pc n 2 (.lstore i)) (hn : i + 1 < y.2.2.1) (hp : hpOk L i = true) (hL : ((L.set i (some (.long a))).set (i + 1) none) = L2) (k : mW y d Q n L2 st M) : mW y d Q pc L ((.long a) :: st) M := x_lstore h hn (hpOk_of hp) (by rw [hL]; exact k)
theorem y_lstore_n {i : Fin 4} {a : Int64} (h : mz_d y.2.1 pc n 1 (.lstore_n i)) (hn : (i : Nat) + 1 < y.2.2.1) (hp : hpOk L (i : Nat) = true) (hL : ((L.set (i : Nat) (some (.long a))).set ((i : Nat) + 1) none) = L2) (k : mW y d Q n L2 st M) : mW y d Q pc L ((.long a) :: st) M := x_lstore_n h hn (hpOk_of hp) (by rw [hL]; exact k)
theorem y_aload {i : Nat} {a : Nat} (h : mz_d y.2.1 pc n 2 (.aload i)) (hl : L[i]? = some (some (.ref a))) (k : mW y d Q n L ((.ref a) :: st) M) : mW y d Q pc L st M := x_aload h hl k
theorem y_aload_n {i : Fin 4} {a : Nat} (h : mz_d y.2.1 pc n 1 (.aload_n i)) (hl : L[(i : Nat)]? = some (some (.ref a))) (k : mW y d Q n L ((.ref a) :: st) M) : mW y d Q pc L st M := x_aload_n h hl k
theorem y_astore {i : Nat} {a : Nat} (h : mz_d y.2.1 pc n 2 (.astore i)) (hn : i < y.2.2.1) (hp : hpOk L i = true) (hL : (L.set i (some (.ref a))) = L2) (k : mW y d Q n L2 st M) : mW y d Q pc L ((.ref a) :: st) M := x_astore h hn (hpOk_of hp) (by rw [hL]; exact k)
theorem y_astore_n {i : Fin 4} {a : Nat} (h : mz_d y.2.1 pc n 1 (.astore_n i)) (hn : (i : Nat) < y.2.2.1) (hp : hpOk L (i : Nat) = true) (hL : (L.set (i : Nat) (some (.ref a))) = L2) (k : mW y d Q n L2 st M) : mW y d Q pc L ((.ref a) :: st) M := x_astore_n h hn (hpOk_of hp) (by rw [hL]; exact k)
theorem y_iinc {i : Nat} {z : Int} {a b : Int32} (h : mz_d y.2.1 pc n 3 (.iinc i z)) (hl : L[i]? = some (some (.int a))) (hv : a + Int32.ofInt z = b) (hn : i < y.2.2.1) (hp : hpOk L i = true) (hL : (L.set i (some (.int b))) = L2) (k : mW y d Q n L2 st M) : mW y d Q pc L st M := x_iinc h hl hv hn (hpOk_of hp) (by rw [hL]; exact k)
theorem y_ireturn {a : Int32} (h : mz_d y.2.1 pc n 1 .ireturn) {ty : FieldType} (hr : y.2.2.2 = some ty) (hn : narrow ty (.int a) = .int a) (hq : mR Q (some (.int a)) M) : mW y d Q pc L [.int a] M := x_ireturn h hr hn hq
theorem y_lreturn {a : Int64} (h : mz_d y.2.1 pc n 1 .lreturn) (hr : y.2.2.2 = some .long) (hq : mR Q (some (.long a)) M) : mW y d Q pc L [.long a] M := x_lreturn h hr hq
theorem y_return (h : mz_d y.2.1 pc n 1 .return_) (hr : y.2.2.2 = none) (hq : mR Q none M) : mW y d Q pc L [] M := x_return h hr hq
theorem y_getI (h : mz_d y.2.1 pc n 3 (.getfield i)) (hf : mz_fl y.1.cls i ci j) (hk : LL[k]? = some (.inr ci)) (ht : mz_isI (mz_ty ci j) = true) (kk : mW y d Q n L (.int (gI M k j) :: st) M) : mW y d Q pc L (.ref k :: st) M := x_getI h hf hk ht kk
theorem y_getJ (h : mz_d y.2.1 pc n 3 (.getfield i)) (hf : mz_fl y.1.cls i ci j) (hk : LL[k]? = some (.inr ci)) (ht : mz_ty ci j = .long) (kk : mW y d Q n L (.long (gJ M k j) :: st) M) : mW y d Q pc L (.ref k :: st) M := x_getJ h hf hk ht kk
theorem y_getR {q : Nat} (h : mz_d y.2.1 pc n 3 (.getfield i)) (hf : mz_fl y.1.cls i ci j) (hk : LL[k]? = some (.inr ci)) (ht : mz_isR (mz_ty ci j) = true) (hr : ∀ w, RR w k j = some q) (kk : mW y d Q n L (.ref q :: st) M) : mW y d Q pc L (.ref k :: st) M := x_getR h hf hk ht (hr _) kk
theorem y_getW (h : mz_d y.2.1 pc n 3 (.getfield i)) (hf : mz_fl y.1.cls i 5 10) (kk : mW y d Q n L (.ref (1000000 + M.2.2) :: st) M) : mW y d Q pc L (.ref 32 :: st) M := x_getR h hf l_32 rfl (r_32_10 _) kk
theorem y_putI {a : Int32} (h : mz_d y.2.1 pc n 3 (.putfield i)) (hf : mz_fl y.1.cls i ci j) (hk : LL[k]? = some (.inr ci)) (hfin : mz_fin ci j = false) (ht : mz_ty ci j = .int) (kk : mW y d Q n L st (sI M k j a)) : mW y d Q pc L (.int a :: .ref k :: st) M := x_putI h hf hk hfin (by rw [ht]; rfl) (by rw [ht]; rfl) (by rw [ht]; rfl) kk
theorem y_putZ {a : Int32} (h : mz_d y.2.1 pc n 3 (.putfield i)) (hf : mz_fl y.1.cls i ci j) (hk : LL[k]? = some (.inr ci)) (hfin : mz_fin ci j = false) (ht : mz_ty ci j = .boolean) (hz : a = 0 ∨ a = 1) (kk : mW y d Q n L st (sI M k j a)) : mW y d Q pc L (.int a :: .ref k :: st) M := x_putI h hf hk hfin (by rw [ht]; rfl) (by rw [ht]; exact b01_n hz) (by rw [ht]; exact b01_f hz) kk
theorem y_putJ {a : Int64} (h : mz_d y.2.1 pc n 3 (.putfield i)) (hf : mz_fl y.1.cls i ci j) (hk : LL[k]? = some (.inr ci)) (hfin : mz_fin ci j = false) (ht : mz_ty ci j = .long) (kk : mW y d Q n L st (sJ M k j a)) : mW y d Q pc L (.long a :: .ref k :: st) M := x_putJ h hf hk hfin ht kk
theorem y_putW {v : Nat} (h : mz_d y.2.1 pc n 3 (.putfield i)) (hf : mz_fl y.1.cls i 5 10) (kk : mW y d Q n L st (sW M v)) : mW y d Q pc L (.ref (1000000 + v) :: .ref 32 :: st) M := x_putR h hf l_32 (Or.inl (by decide +kernel)) (by decide +kernel) (Or.inr (by omega)) (by rw [RR_put]; exact kk)
theorem y_iaload {N : Nat} {a : Int32} (h : mz_d y.2.1 pc n 1 .iaload) (hk : LL[k]? = some (.inl (.int, N))) (hin : vp_in a N) (kk : mW y d Q n L (.int (gI M k a.toNatClampNeg) :: st) M) : mW y d Q pc L (.int a :: .ref k :: st) M := x_iaload h hk hin kk
theorem y_baload {N : Nat} {a : Int32} (h : mz_d y.2.1 pc n 1 .baload) (hk : LL[k]? = some (.inl (.boolean, N))) (hin : vp_in a N) (kk : mW y d Q n L (.int (gI M k a.toNatClampNeg) :: st) M) : mW y d Q pc L (.int a :: .ref k :: st) M := x_baload h hk hin kk
theorem y_caload {N : Nat} {a : Int32} (h : mz_d y.2.1 pc n 1 .caload) (hk : LL[k]? = some (.inl (.char, N))) (hin : vp_in a N) (kk : mW y d Q n L (.int (gI M k a.toNatClampNeg) :: st) M) : mW y d Q pc L (.int a :: .ref k :: st) M := x_caload h hk hin kk
theorem y_laload {N : Nat} {a : Int32} (h : mz_d y.2.1 pc n 1 .laload) (hk : LL[k]? = some (.inl (.long, N))) (hin : vp_in a N) (kk : mW y d Q n L (.long (gJ M k a.toNatClampNeg) :: st) M) : mW y d Q pc L (.int a :: .ref k :: st) M := x_laload h hk hin kk
theorem y_iastore {N : Nat} {a x : Int32} (h : mz_d y.2.1 pc n 1 .iastore) (hk : LL[k]? = some (.inl (.int, N))) (hin : vp_in a N) (kk : mW y d Q n L st (sI M k a.toNatClampNeg x)) : mW y d Q pc L (.int x :: .int a :: .ref k :: st) M := x_iastore h hk hin kk
theorem y_bastore {N : Nat} {a x : Int32} (h : mz_d y.2.1 pc n 1 .bastore) (hk : LL[k]? = some (.inl (.boolean, N))) (hin : vp_in a N) {x' : Int32} (hx : vp_nar .boolean x = x') (kk : mW y d Q n L st (sI M k a.toNatClampNeg x')) : mW y d Q pc L (.int x :: .int a :: .ref k :: st) M := by
  subst hx
  exact x_bastore h hk hin kk
theorem y_castore {N : Nat} {a x : Int32} (h : mz_d y.2.1 pc n 1 .castore) (hk : LL[k]? = some (.inl (.char, N))) (hin : vp_in a N) (kk : mW y d Q n L st (sI M k a.toNatClampNeg (vp_nar .char x))) : mW y d Q pc L (.int x :: .int a :: .ref k :: st) M := x_castore h hk hin kk
theorem y_lastore {N : Nat} {a : Int32} {x : Int64} (h : mz_d y.2.1 pc n 1 .lastore) (hk : LL[k]? = some (.inl (.long, N))) (hin : vp_in a N) (kk : mW y d Q n L st (sJ M k a.toNatClampNeg x)) : mW y d Q pc L (.long x :: .int a :: .ref k :: st) M := x_lastore h hk hin kk
theorem y_alen {N : Nat} {ty : FieldType} {v : Int32} (h : mz_d y.2.1 pc n 1 .arraylength) (hk : LL[k]? = some (.inl (ty, N))) (hty : ∀ cid, (mz_tys cid)[mz_ti ty]? = some (cid ty, ty)) (hv : Int32.ofNat N = v) (kk : mW y d Q n L (.int v :: st) M) : mW y d Q pc L (.ref k :: st) M := x_alen h hk hty hv kk
theorem y_ldcS {s : Nat} {own tx : String} (h : mz_d y.2.1 pc n 2 (.ldc i)) (hs : mz_sx[s]? = some (own, i, tx)) (ho : y.1.cls = own) (kk : mW y d Q n L (.ref (1000000 + s) :: st) M) : mW y d Q pc L st M := by
  obtain ⟨hd, rfl⟩ := h
  subst ho
  intro p l e Rm s1 m args below meth c D cid ad0 n0 A MC MS Z hF hE ad H locs cells slots ls hD hL
  have hR := hF.2.2.2.2.2.2.1.2.1 s _ hs
  have e1 : ad (1000000 + s) = ad0 (1000000 + s) := hD.1 _ (Or.inr (by omega))
  have K := kk _ _ _ _ _ _ _ _ _ _ _ _ _ _ _ _ _ _ hF hE _ _ _ _ _ _ hD hL
  refine va_ldcS hF.1.1 hF.1.2.1 hF.1.2.2.2.1 hR hd ?_
  rw [← e1]
  exact K
theorem y_copy {sp dp m : Int32} {q N N' : Nat} (h : mz_d y.2.1 pc n 3 (.invokestatic i)) (hl : Cond.methodLink y.1.cls i arraycopyName ∈ mz_gt) (hn : Cond.native arraycopyName ∈ mz_gt) (hs : Cond.static arraycopyName ∈ mz_gt) (hi : Cond.initialized "java/lang/System" ∈ mz_gt) (hk : LL[k]? = some (.inl (.int, N))) (hq : LL[q]? = some (.inl (.int, N'))) (h1 : ¬ sp < 0) (h2 : ¬ dp < 0) (h3 : ¬ m < 0) (h4 : sp.toNatClampNeg + m.toNatClampNeg ≤ N) (h5 : dp.toNatClampNeg + m.toNatClampNeg ≤ N') (hd : 1 ≤ d) (hsm : (st.map (fun v => v.category)).sum ≤ 8) (kk : mW y d Q n L st (cI M k q sp.toNatClampNeg dp.toNatClampNeg m.toNatClampNeg)) : mW y d Q pc L (.int m :: .int dp :: .ref q :: .int sp :: .ref k :: st) M := by
  obtain ⟨hdec, rfl⟩ := h
  intro p l e Rm s1 m1 args below meth c D cid ad0 n0 A MC MS Z hF hE ad H locs cells slots ls hD hL
  obtain ⟨hD1, hD2, hP, hDD, hS, hm1, hm2, hC⟩ := hD
  have hts := hF.1.2.2.2.2
  have ek := mz_w_get (cid := cid) (ad := ad) (R := RR M.2.2) (I := M.1) (J := M.2.1) hk
  have eq := mz_w_get (cid := cid) (ad := ad) (R := RR M.2.2) (I := M.1) (J := M.2.1) hq
  refine va_copyi (ls := ls) hF.1.1 hF.1.2.1 (by rw [hF.1.2.2.1, hL.1]) hF.1.2.2.2.1 (hts _ hl) (hts _ hn) (hts _ hs) (hts _ hi) hF.2.2.2.2.1 hP hDD hS k q 0 0 (f := M.1 k) (g := M.1 q) (c0 := cid .int) (c1 := cid .int) (ty := .int) (n0 := N) (n1 := N') ek eq rfl rfl rfl h1 h2 h3 h4 h5 (fun _ _ => rfl) (Nat.le_trans hd hF.2.2.2.2.2.2.2.2.2.1) ?_ hdec (fun H1 locs1 a1 a2 a3 => ?_)
  · have h9 : (nativeFrameWords "java/lang/System" "arraycopy" 5 + 11) ≤ 50 := by decide
    have h8 : ((mz_st ad st).map fun v => v.category).sum ≤ 8 := by rw [mz_st_cat]; exact hsm
    have h7 := hF.2.2.2.2.2.2.2.2.2.2
    show ((mz_st ad st).map fun v => v.category).sum + _ ≤ _
    omega
  · have hset : (mz_w cid ad (RR M.2.2) M.1 M.2.1 LL).set q (ad q, .inl (cid .int, N', .inl (va_cpy (M.1 k) (M.1 q) sp.toNatClampNeg dp.toNatClampNeg m.toNatClampNeg))) = mz_w cid ad (RR M.2.2) (cI M k q sp.toNatClampNeg dp.toNatClampNeg m.toNatClampNeg).1 M.2.1 LL := by
      have := mz_w_set (cid := cid) (ad := ad) (R := RR M.2.2) (R' := RR M.2.2) (I := M.1) (J := M.2.1) (J' := M.2.1) (I' := (cI M k q sp.toNatClampNeg dp.toNatClampNeg m.toNatClampNeg).1) hq (fun _ _ => rfl) (fun a ha => if_neg ha) (fun _ _ => rfl)
      have hx : (.inl (cid .int, N', .inl (va_cpy (M.1 k) (M.1 q) sp.toNatClampNeg dp.toNatClampNeg m.toNatClampNeg)) : va_E) = mz_e cid ad (RR M.2.2) (cI M k q sp.toNatClampNeg dp.toNatClampNeg m.toNatClampNeg).1 M.2.1 q (.inl (.int, N')) := by
        show _ = Sum.inl (cid .int, mz_ar _ _ q N' .int)
        simp only [mz_ar, cI, if_true]
      rw [← this, hx]
    rw [hset] at a1 a2
    exact kk _ _ _ _ _ _ _ _ _ _ _ _ _ _ _ _ _ _ hF hE _ _ _ _ _ _ ⟨hD1, hD2, a1, a2, a3, hm1, hm2, hC⟩ hL
theorem y_callV {y' : mz_M} {d' np : Nat} {vs st0 : List Value} {r : Option Value} {M' : dM} (hm : mz_mk y' np) (hv : mz_vi y') (hk : LL[k]? = some (.inr ci)) (hci : mz_cn ci = y'.1.cls) (hne : y'.1.cls ≠ "") (h : mz_d y.2.1 pc n 3 (.invokevirtual i)) (hl : mz_ml y.1.cls i y'.1) (hok : mO y' d' (.ref k :: vs) M r M') (hst : st0 = vs.reverse ++ .ref k :: st) (hnp : vs.length = np) (hd' : d' + 1 ≤ d) (hsm : (st.map (fun v => v.category)).sum ≤ 8) (hLr : mz_rL 133 L = true) (hSr : mz_rS 133 st = true) (kk : mW y d Q n L (r.toList ++ st) M') : mW y d Q pc L st0 M :=
  x_callV (mc := 0) (ms := 0) (mc1 := 0) (ms1 := 0) h hm hl hv hk hci hne hok hst hnp hd' hsm (by rw [LL_len]; exact hLr) (by rw [LL_len]; exact hSr) (by
    rintro r' Λ' R' I' J' ⟨rfl, rfl, rfl, rfl, rfl⟩
    exact kk)
theorem y_callS {y' : mz_M} {d' np : Nat} {vs st0 : List Value} {r : Option Value} {M' : dM} (hm : mz_mk y' np) (hv : Cond.static y'.1 ∈ mz_gt) (h : mz_d y.2.1 pc n 3 (.invokestatic i)) (hl : mz_ml y.1.cls i y'.1) (hok : mO y' d' vs M r M') (hst : st0 = vs.reverse ++ st) (hnp : vs.length = np) (hd' : d' + 1 ≤ d) (hsm : (st.map (fun v => v.category)).sum ≤ 8) (hLr : mz_rL 133 L = true) (hSr : mz_rS 133 st = true) (kk : mW y d Q n L (r.toList ++ st) M') : mW y d Q pc L st0 M :=
  x_callS (mc := 0) (ms := 0) (mc1 := 0) (ms1 := 0) h hm hl hv hok hst hnp hd' hsm (by rw [LL_len]; exact hLr) (by rw [LL_len]; exact hSr) (by
    rintro r' Λ' R' I' J' ⟨rfl, rfl, rfl, rfl, rfl⟩
    exact kk)
theorem y_strV {s : Nat} (hs : s < 10) (h : mz_d y.2.1 pc n 3 (.getfield i)) (hl : Cond.fieldLink y.1.cls i "java/lang/String" "value" "[B" ∈ mz_gt) (kk : mW y d Q n L (.ref (2000000 + s) :: st) M) : mW y d Q pc L (.ref (1000000 + s) :: st) M := by
  obtain ⟨hd, rfl⟩ := h
  intro p l e Rm s1 m args below meth c D cid ad0 n0 A MC MS Z hF hE ad H locs cells slots ls hD hL
  have hO := hF.2.2.2.2.2.2.1
  have K := kk _ _ _ _ _ _ _ _ _ _ _ _ _ _ _ _ _ _ hF hE _ _ _ _ _ _ hD hL
  have e1 : ad (1000000 + s) = ad0 (1000000 + s) := hD.1 _ (Or.inr (by omega))
  have e2 : ad (2000000 + s) = ad0 (2000000 + s) := hD.1 _ (Or.inr (by omega))
  show W _ _ _ _ _ _ _ _ _ _ _ _ _ _ _ (F0 m pc ls (.ref (ad (1000000 + s)) :: mz_st ad st))
  rw [e1]
  refine vk_getf hF.1.1 hF.1.2.1 (hO.1.1 s hs).2.2.1 hD.2.2.2.2.1 hF.1.2.2.2.1 (hF.1.2.2.2.2 _ hl) (fun _ h9 => h9) hd ?_
  show W _ _ _ _ _ _ _ _ _ _ _ _ _ _ _ (F0 m (pc + 3) ls (.ref (ad0 (2000000 + s)) :: mz_st ad st))
  rw [← e2]
  exact K
theorem y_strC {s : Nat} (hs : s < 10) (h : mz_d y.2.1 pc n 3 (.getfield i)) (hl : Cond.fieldLink y.1.cls i "java/lang/String" "coder" "B" ∈ mz_gt) (kk : mW y d Q n L (.int 0 :: st) M) : mW y d Q pc L (.ref (1000000 + s) :: st) M := by
  obtain ⟨hd, rfl⟩ := h
  intro p l e Rm s1 m args below meth c D cid ad0 n0 A MC MS Z hF hE ad H locs cells slots ls hD hL
  have hO := hF.2.2.2.2.2.2.1
  have K := kk _ _ _ _ _ _ _ _ _ _ _ _ _ _ _ _ _ _ hF hE _ _ _ _ _ _ hD hL
  have e1 : ad (1000000 + s) = ad0 (1000000 + s) := hD.1 _ (Or.inr (by omega))
  show W _ _ _ _ _ _ _ _ _ _ _ _ _ _ _ (F0 m pc ls (.ref (ad (1000000 + s)) :: mz_st ad st))
  rw [e1]
  exact vk_getf hF.1.1 hF.1.2.1 (hO.1.1 s hs).2.1 hD.2.2.2.2.1 hF.1.2.2.2.1 (hF.1.2.2.2.2 _ hl) (fun _ h9 => h9) hd K
theorem y_CS (h : mz_d y.2.1 pc n 3 (.getstatic i)) (hl : Cond.fieldLink y.1.cls i "java/lang/String" "COMPACT_STRINGS" "Z" ∈ mz_gt) (kk : mW y d Q n L (.int 1 :: st) M) : mW y d Q pc L st M := by
  obtain ⟨hd, rfl⟩ := h
  intro p l e Rm s1 m args below meth c D cid ad0 n0 A MC MS Z hF hE ad H locs cells slots ls hD hL
  have hO := hF.2.2.2.2.2.2.1
  have K := kk _ _ _ _ _ _ _ _ _ _ _ _ _ _ _ _ _ _ hF hE _ _ _ _ _ _ hD hL
  exact va_gets hF.1.1 hF.1.2.1 hO.2.2.1 hD.2.2.2.2.1 hF.1.2.2.2.1 (hF.1.2.2.2.2 _ hl) (fun _ h9 => h9) hd K
theorem y_FM (h : mz_d y.2.1 pc n 3 (.getstatic i)) (hl : Cond.fieldLink y.1.cls i "jdk/internal/util/Preconditions" "SIOOBE_FORMATTER" "Ljava/util/function/BiFunction;" ∈ mz_gt) (k1 : mW y d Q n L (.null :: st) M) (k2 : mW y d Q n L (.ref 3000000 :: st) M) : mW y d Q pc L st M := by
  obtain ⟨hd, rfl⟩ := h
  intro p l e Rm s1 m args below meth c D cid ad0 n0 A MC MS Z hF hE ad H locs cells slots ls hD hL
  have hO := hF.2.2.2.2.2.2.1
  rcases hO.2.2.2.1 with hz | hz
  · exact va_gets hF.1.1 hF.1.2.1 hz hD.2.2.2.2.1 hF.1.2.2.2.1 (hF.1.2.2.2.2 _ hl) (fun _ h9 => h9) hd (k1 _ _ _ _ _ _ _ _ _ _ _ _ _ _ _ _ _ _ hF hE _ _ _ _ _ _ hD hL)
  · refine va_gets hF.1.1 hF.1.2.1 hz hD.2.2.2.2.1 hF.1.2.2.2.1 (hF.1.2.2.2.2 _ hl) (fun _ h9 => h9) hd ?_
    have K := k2 _ _ _ _ _ _ _ _ _ _ _ _ _ _ _ _ _ _ hF hE _ _ _ _ _ _ hD hL
    rw [← hD.1 3000000 (Or.inr (by omega))]
    exact K
theorem y_btlen {s : Nat} (hs : s < 10) (h : mz_d y.2.1 pc n 1 .arraylength) (kk : mW y d Q n L (.int (nI (mz_len.getD s 0)) :: st) M) : mW y d Q pc L (.ref (2000000 + s) :: st) M := by
  obtain ⟨hd, rfl⟩ := h
  intro p l e Rm s1 m args below meth c D cid ad0 n0 A MC MS Z hF hE ad H locs cells slots ls hD hL
  have hO := hF.2.2.2.2.2.2.1
  have K := kk _ _ _ _ _ _ _ _ _ _ _ _ _ _ _ _ _ _ hF hE _ _ _ _ _ _ hD hL
  have e1 : ad (2000000 + s) = ad0 (2000000 + s) := hD.1 _ (Or.inr (by omega))
  show W _ _ _ _ _ _ _ _ _ _ _ _ _ _ _ (F0 m pc ls (.ref (ad (2000000 + s)) :: mz_st ad st))
  rw [e1]
  exact va_tlen hF.1.1 hF.1.2.1 (hO.1.1 s hs).2.2.2 hD.2.2.2.2.1 rfl hd K
theorem y_btld {s : Nat} {a : Int32} (hs : s < 10) (hin : vp_in a (mz_len.getD s 0)) (h : mz_d y.2.1 pc n 1 .baload) (kk : mW y d Q n L (.int ((mz_byt.getD s []).getD a.toNatClampNeg 0) :: st) M) : mW y d Q pc L (.int a :: .ref (2000000 + s) :: st) M := by
  obtain ⟨hd, rfl⟩ := h
  intro p l e Rm s1 m args below meth c D cid ad0 n0 A MC MS Z hF hE ad H locs cells slots ls hD hL
  have hO := hF.2.2.2.2.2.2.1
  have K := kk _ _ _ _ _ _ _ _ _ _ _ _ _ _ _ _ _ _ hF hE _ _ _ _ _ _ hD hL
  have e1 : ad (2000000 + s) = ad0 (2000000 + s) := hD.1 _ (Or.inr (by omega))
  show W _ _ _ _ _ _ _ _ _ _ _ _ _ _ _ (F0 m pc ls (.int a :: .ref (ad (2000000 + s)) :: mz_st ad st))
  rw [e1]
  exact va_tb hF.1.1 hF.1.2.1 (hO.1.1 s hs).2.2.2 hD.2.2.2.2.1 hin rfl hd K
theorem y_mmax {a b : Int32} (hco : Cond.code Lib.Math.max.name Lib.Math.max.code 2 (some .int) ∈ mz_gt) (hst : Cond.static Lib.Math.max.name ∈ mz_gt) (hin : Cond.initialized "java/lang/Math" ∈ mz_gt) (h : mz_d y.2.1 pc n 3 (.invokestatic i)) (hl : Cond.methodLink y.1.cls i Lib.Math.max.name ∈ mz_gt) (hd1 : 1 ≤ d) (hsm : (st.map (fun v => v.category)).sum ≤ 8) (kk : mW y d Q n L (.int (if a < b then b else a) :: st) M) : mW y d Q pc L (.int b :: .int a :: st) M := by
  obtain ⟨hd, rfl⟩ := h
  intro p l e Rm s1 m args below meth c D cid ad0 n0 A MC MS Z hF hE ad H locs cells slots ls hD hL
  have hts := hF.1.2.2.2.2
  have h8 : ((mz_st ad st).map fun v => v.category).sum ≤ 8 := by rw [mz_st_cat]; exact hsm
  have h7 := hF.2.2.2.2.2.2.2.2.2.2
  have h6 := hF.2.2.2.2.2.2.2.2.2.1
  have h5 := hF.2.2.2.2.2.2.2.1
  have h4 := hF.2.2.2.2.2.2.2.2.1
  have h3 := hD.2.2.2.2.2.1
  have h2 := hD.2.2.2.2.2.2.1
  exact va_mmax (ls := ls) (rest := mz_st ad st) hF.1.1 hF.1.2.1 (by rw [hF.1.2.2.1, hL.1]) hF.1.2.2.2.1 (hts _ hl) (hts _ hst) (hts _ hin) (hts _ hco) (by omega) (by omega) (by omega) (by omega) hd (kk _ _ _ _ _ _ _ _ _ _ _ _ _ _ _ _ _ _ hF hE _ _ _ _ _ _ hD hL)
theorem y_mmin {a b : Int32} (hco : Cond.code Lib.Math.min.name Lib.Math.min.code 2 (some .int) ∈ mz_gt) (hst : Cond.static Lib.Math.min.name ∈ mz_gt) (hin : Cond.initialized "java/lang/Math" ∈ mz_gt) (h : mz_d y.2.1 pc n 3 (.invokestatic i)) (hl : Cond.methodLink y.1.cls i Lib.Math.min.name ∈ mz_gt) (hd1 : 1 ≤ d) (hsm : (st.map (fun v => v.category)).sum ≤ 8) (kk : mW y d Q n L (.int (if b < a then b else a) :: st) M) : mW y d Q pc L (.int b :: .int a :: st) M := by
  obtain ⟨hd, rfl⟩ := h
  intro p l e Rm s1 m args below meth c D cid ad0 n0 A MC MS Z hF hE ad H locs cells slots ls hD hL
  have hts := hF.1.2.2.2.2
  have h8 : ((mz_st ad st).map fun v => v.category).sum ≤ 8 := by rw [mz_st_cat]; exact hsm
  have h7 := hF.2.2.2.2.2.2.2.2.2.2
  have h6 := hF.2.2.2.2.2.2.2.2.2.1
  have h5 := hF.2.2.2.2.2.2.2.1
  have h4 := hF.2.2.2.2.2.2.2.2.1
  have h3 := hD.2.2.2.2.2.1
  have h2 := hD.2.2.2.2.2.2.1
  exact va_mmin (ls := ls) (rest := mz_st ad st) hF.1.1 hF.1.2.1 (by rw [hF.1.2.2.1, hL.1]) hF.1.2.2.2.1 (hts _ hl) (hts _ hst) (hts _ hin) (hts _ hco) (by omega) (by omega) (by omega) (by omega) hd (kk _ _ _ _ _ _ _ _ _ _ _ _ _ _ _ _ _ _ hF hE _ _ _ _ _ _ hD hL)
theorem y_callT {y' : mz_M} {d' np sx : Nat} {vs st0 : List Value} {r : Option Value} {M' : dM} (hm : mz_mk y' np) (hv : mz_vi y') (hs : sx < 10) (hcs : y'.1.cls = "java/lang/String") (h : mz_d y.2.1 pc n 3 (.invokevirtual i)) (hl : mz_ml y.1.cls i y'.1) (hok : mO y' d' (.ref (1000000 + sx) :: vs) M r M') (hst : st0 = vs.reverse ++ .ref (1000000 + sx) :: st) (hnp : vs.length = np) (hd' : d' + 1 ≤ d) (hsm : (st.map (fun v => v.category)).sum ≤ 8) (hLr : mz_rL 133 L = true) (hSr : mz_rS 133 st = true) (kk : mW y d Q n L (r.toList ++ st) M') : mW y d Q pc L st0 M :=
  x_callT (mc := 0) (ms := 0) (mc1 := 0) (ms1 := 0) h hm hl hv hs hcs hok hst hnp hd' hsm (by rw [LL_len]; exact hLr) (by rw [LL_len]; exact hSr) (by
    rintro r' Λ' R' I' J' ⟨rfl, rfl, rfl, rfl, rfl⟩
    exact kk)
end YR
theorem y_ok {y : mz_M} {d : Nat} {vs : List Value} {M M' : dM} {r : Option Value} {L0 : List (Option Value)} (hy : plainName y.1.cls = true) (hlen : (mz_en vs).length ≤ y.2.2.1) (hL0 : mz_en vs ++ List.replicate (y.2.2.1 - (mz_en vs).length) none = L0) (h : mW y d (mQ r M') 0 L0 [] M) : mO y d vs M r M' := mz_ok hy hlen hL0 h
/-! ===== the words of the shallow programs ===== -/
noncomputable def gd {α : Type} (p : Prop) (x : Option α) : Option α := @ite _ p (Classical.propDecidable p) x none
theorem g_s {α : Type} {p : Prop} {x : Option α} {o : α} (h : gd p x = some o) : p ∧ x = some o := by
  unfold gd at h
  split at h
  · exact ⟨‹_›, h⟩
  · cases h
theorem gd_t {α : Type} {p : Prop} {x : Option α} (h : p) : gd p x = x := if_pos h
theorem b_s {α β : Type} {x : Option α} {f : α → Option β} {o : β} (h : x.bind f = some o) : ∃ v, x = some v ∧ f v = some o := Option.bind_eq_some_iff.mp h
theorem i_t {α : Type} {c : Prop} [Decidable c] {a b x : α} (h : c) (e : (if c then a else b) = x) : a = x := (if_pos h).symm.trans e
theorem i_f {α : Type} {c : Prop} [Decidable c] {a b x : α} (h : ¬ c) (e : (if c then a else b) = x) : b = x := (if_neg h).symm.trans e
/-- a loop: the body says 'on with' (inl) or 'out with' (inr) -/
def lpn {σ ξ : Type} (body : σ → Option (σ ⊕ ξ)) : Nat → σ → Option ξ
  | 0, _ => none
  | n + 1, s => (body s).bind (Sum.elim (lpn body n) some)
theorem lpn_mono {σ ξ : Type} {body : σ → Option (σ ⊕ ξ)} {x : ξ} : ∀ {n : Nat} {s : σ}, lpn body n s = some x → ∀ {m : Nat}, n ≤ m → lpn body m s = some x
  | 0, _, h, _, _ => by cases h
  | n + 1, s, h, 0, hm => by omega
  | n + 1, s, h, m + 1, hm => by
    obtain ⟨v, h1, h2⟩ := b_s h
    show (body s).bind _ = _
    rw [h1]
    cases v with
    | inl s' => exact lpn_mono (n := n) (s := s') h2 (by omega)
    | inr x' => exact h2
noncomputable def lpc {σ ξ : Type} (body : σ → Option (σ ⊕ ξ)) (s : σ) : Option ξ := @dite _ (∃ n, lpn body n s ≠ none) (Classical.propDecidable _) (fun h => lpn body (Classical.choose h) s) (fun _ => none)
theorem lpc_of {σ ξ : Type} {body : σ → Option (σ ⊕ ξ)} {s : σ} {x : ξ} {n : Nat} (h : lpn body n s = some x) : lpc body s = some x := by
  have hx : ∃ n, lpn body n s ≠ none := ⟨n, by rw [h]; exact fun e => by cases e⟩
  unfold lpc
  rw [dif_pos hx]
  have h2 := Classical.choose_spec hx
  generalize Classical.choose hx = m at h2
  cases e : lpn body m s with
  | none => exact absurd e h2
  | some z =>
    have a1 := lpn_mono h (Nat.le_max_left n m)
    have a2 := lpn_mono e (Nat.le_max_right n m)
    rw [a1] at a2
    exact a2.symm
theorem lpc_n {σ ξ : Type} {body : σ → Option (σ ⊕ ξ)} {s : σ} {x : ξ} (h : lpc body s = some x) : ∃ n, lpn body n s = some x := by
  unfold lpc at h
  split at h
  · exact ⟨_, h⟩
  · cases h
theorem lpc_wp {σ ξ : Type} {body : σ → Option (σ ⊕ ξ)} {Wh : σ → Prop} {K : σ ⊕ ξ → Prop} (hK : ∀ s, Wh s → K (.inl s)) (hb : ∀ s o, body s = some o → K o → Wh s) {s : σ} {x : ξ} (h : lpc body s = some x) (hx : K (.inr x)) : Wh s := by
  obtain ⟨n, hn⟩ := lpc_n h
  induction n generalizing s with
  | zero => cases hn
  | succ n ih =>
    obtain ⟨v, h1, h2⟩ := b_s hn
    cases v with
    | inl s' => exact hb s _ h1 (hK _ (ih (lpc_of h2) h2))
    | inr x' =>
      cases h2
      exact hb s _ h1 hx
/-- the loop as a row of states: S 0, S 1 .. S n, then out -/
theorem lpc_seq {σ ξ : Type} {body : σ → Option (σ ⊕ ξ)} (S : Nat → σ) (n : Nat) {x : ξ} (h : ∀ i, i < n → body (S i) = some (.inl (S (i + 1)))) (hx : body (S n) = some (.inr x)) : lpc body (S 0) = some x := by
  have : ∀ k, k ≤ n → lpn body (k + 1) (S (n - k)) = some x := by
    intro k
    induction k with
    | zero => intro _; show (body (S (n - 0))).bind _ = _; rw [Nat.sub_zero, hx]; rfl
    | succ k ih =>
      intro hk
      show (body (S (n - (k + 1)))).bind _ = _
      rw [h _ (by omega), show n - (k + 1) + 1 = n - k by omega]
      exact ih (by omega)
  have h0 := this n (Nat.le_refl n)
  rw [Nat.sub_self] at h0
  exact lpc_of h0
theorem lpc_step {σ ξ : Type} {body : σ → Option (σ ⊕ ξ)} {s s' : σ} {x : ξ} (h : body s = some (.inl s')) (hx : lpc body s' = some x) : lpc body s = some x := by
  obtain ⟨n, hn⟩ := lpc_n hx
  exact lpc_of (n := n + 1) (by show (body s).bind _ = _; rw [h]; exact hn)
theorem lpc_out {σ ξ : Type} {body : σ → Option (σ ⊕ ξ)} {s : σ} {x : ξ} (h : body s = some (.inr x)) : lpc body s = some x := lpc_of (n := 1) (by show (body s).bind _ = _; rw [h]; rfl)

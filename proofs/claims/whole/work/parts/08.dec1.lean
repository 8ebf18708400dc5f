theorem dJ0_charAt_5068e_0 : decode cJ0_charAt_5068e 0 = .ok (.aload_n 0, 1) := by decide +kernel
theorem dJ0_charAt_5068e_1 : decode cJ0_charAt_5068e 1 = .ok (.invokevirtual 492, 3) := by decide +kernel
theorem dJ0_charAt_5068e_4 : decode cJ0_charAt_5068e 4 = .ok (.ifCond .eq 12, 3) := by decide +kernel
theorem dJ0_charAt_5068e_7 : decode cJ0_charAt_5068e 7 = .ok (.aload_n 0, 1) := by decide +kernel
theorem dJ0_charAt_5068e_8 : decode cJ0_charAt_5068e 8 = .ok (.getfield 9, 3) := by decide +kernel
theorem dJ0_charAt_5068e_11 : decode cJ0_charAt_5068e 11 = .ok (.iload_n 1, 1) := by decide +kernel
theorem dJ0_charAt_5068e_12 : decode cJ0_charAt_5068e 12 = .ok (.invokestatic 495, 3) := by decide +kernel
theorem dJ0_charAt_5068e_15 : decode cJ0_charAt_5068e 15 = .ok (.ireturn, 1) := by decide +kernel
theorem dJ0_charAt_5068e_16 : decode cJ0_charAt_5068e 16 = .ok (.aload_n 0, 1) := by decide +kernel
theorem dJ0_charAt_5068e_17 : decode cJ0_charAt_5068e 17 = .ok (.getfield 9, 3) := by decide +kernel
theorem dJ0_charAt_5068e_20 : decode cJ0_charAt_5068e 20 = .ok (.iload_n 1, 1) := by decide +kernel
theorem dJ0_charAt_5068e_21 : decode cJ0_charAt_5068e 21 = .ok (.invokestatic 498, 3) := by decide +kernel
theorem dJ0_checkIndex_df160_0 : decode cJ0_checkIndex_df160 0 = .ok (.iload_n 0, 1) := by decide +kernel
theorem dJ0_checkIndex_df160_1 : decode cJ0_checkIndex_df160 1 = .ok (.iload_n 1, 1) := by decide +kernel
theorem dJ0_checkIndex_df160_2 : decode cJ0_checkIndex_df160 2 = .ok (.getstatic 1053, 3) := by decide +kernel
theorem dJ0_checkIndex_df160_5 : decode cJ0_checkIndex_df160 5 = .ok (.invokestatic 1059, 3) := by decide +kernel
theorem dJ0_checkIndex_df160_8 : decode cJ0_checkIndex_df160 8 = .ok (.pop, 1) := by decide +kernel
theorem dJ0_checkIndex_df160_9 : decode cJ0_checkIndex_df160 9 = .ok (.return_, 1) := by decide +kernel
theorem dJ0_coder_7d493_0 : decode cJ0_coder_7d493 0 = .ok (.getstatic 38, 3) := by decide +kernel
theorem dJ0_coder_7d493_3 : decode cJ0_coder_7d493 3 = .ok (.ifCond .eq 10, 3) := by decide +kernel
theorem dJ0_coder_7d493_6 : decode cJ0_coder_7d493 6 = .ok (.aload_n 0, 1) := by decide +kernel
theorem dJ0_coder_7d493_7 : decode cJ0_coder_7d493 7 = .ok (.getfield 15, 3) := by decide +kernel
theorem dJ0_coder_7d493_10 : decode cJ0_coder_7d493 10 = .ok (.goto 4, 3) := by decide +kernel
theorem dJ0_coder_7d493_13 : decode cJ0_coder_7d493 13 = .ok (.iconst 1, 1) := by decide +kernel
theorem dJ0_coder_7d493_14 : decode cJ0_coder_7d493 14 = .ok (.ireturn, 1) := by decide +kernel
theorem dJ0_indexOf_0f7a4_0 : decode cJ0_indexOf_0f7a4 0 = .ok (.aload_n 0, 1) := by decide +kernel
theorem dJ0_indexOf_0f7a4_1 : decode cJ0_indexOf_0f7a4 1 = .ok (.iload_n 1, 1) := by decide +kernel
theorem dJ0_indexOf_0f7a4_2 : decode cJ0_indexOf_0f7a4 2 = .ok (.iconst 0, 1) := by decide +kernel
theorem dJ0_indexOf_0f7a4_3 : decode cJ0_indexOf_0f7a4 3 = .ok (.invokevirtual 633, 3) := by decide +kernel
theorem dJ0_indexOf_0f7a4_6 : decode cJ0_indexOf_0f7a4 6 = .ok (.ireturn, 1) := by decide +kernel
theorem dJ0_indexOf_7cf53_0 : decode cJ0_indexOf_7cf53 0 = .ok (.aload_n 0, 1) := by decide +kernel
theorem dJ0_indexOf_7cf53_1 : decode cJ0_indexOf_7cf53 1 = .ok (.invokevirtual 492, 3) := by decide +kernel
theorem dJ0_indexOf_7cf53_4 : decode cJ0_indexOf_7cf53 4 = .ok (.ifCond .eq 19, 3) := by decide +kernel
theorem dJ0_indexOf_7cf53_7 : decode cJ0_indexOf_7cf53 7 = .ok (.aload_n 0, 1) := by decide +kernel
theorem dJ0_indexOf_7cf53_8 : decode cJ0_indexOf_7cf53 8 = .ok (.getfield 9, 3) := by decide +kernel
theorem dJ0_indexOf_7cf53_11 : decode cJ0_indexOf_7cf53 11 = .ok (.iload_n 1, 1) := by decide +kernel
theorem dJ0_indexOf_7cf53_12 : decode cJ0_indexOf_7cf53 12 = .ok (.iload_n 2, 1) := by decide +kernel
theorem dJ0_indexOf_7cf53_13 : decode cJ0_indexOf_7cf53 13 = .ok (.aload_n 0, 1) := by decide +kernel
theorem dJ0_indexOf_7cf53_14 : decode cJ0_indexOf_7cf53 14 = .ok (.invokevirtual 505, 3) := by decide +kernel
theorem dJ0_indexOf_7cf53_17 : decode cJ0_indexOf_7cf53 17 = .ok (.invokestatic 637, 3) := by decide +kernel
theorem dJ0_indexOf_7cf53_20 : decode cJ0_indexOf_7cf53 20 = .ok (.goto 16, 3) := by decide +kernel
theorem dJ0_indexOf_7cf53_23 : decode cJ0_indexOf_7cf53 23 = .ok (.aload_n 0, 1) := by decide +kernel
theorem dJ0_indexOf_7cf53_24 : decode cJ0_indexOf_7cf53 24 = .ok (.getfield 9, 3) := by decide +kernel
theorem dJ0_indexOf_7cf53_27 : decode cJ0_indexOf_7cf53 27 = .ok (.iload_n 1, 1) := by decide +kernel
theorem dJ0_indexOf_7cf53_28 : decode cJ0_indexOf_7cf53 28 = .ok (.iload_n 2, 1) := by decide +kernel
theorem dJ0_indexOf_7cf53_29 : decode cJ0_indexOf_7cf53 29 = .ok (.aload_n 0, 1) := by decide +kernel
theorem dJ0_indexOf_7cf53_30 : decode cJ0_indexOf_7cf53 30 = .ok (.invokevirtual 505, 3) := by decide +kernel
theorem dJ0_indexOf_7cf53_33 : decode cJ0_indexOf_7cf53 33 = .ok (.invokestatic 640, 3) := by decide +kernel
theorem dJ0_indexOf_7cf53_36 : decode cJ0_indexOf_7cf53 36 = .ok (.ireturn, 1) := by decide +kernel
theorem dJ0_isLatin1_aae02_0 : decode cJ0_isLatin1_aae02 0 = .ok (.getstatic 38, 3) := by decide +kernel
theorem dJ0_isLatin1_aae02_3 : decode cJ0_isLatin1_aae02 3 = .ok (.ifCond .eq 14, 3) := by decide +kernel
theorem dJ0_isLatin1_aae02_6 : decode cJ0_isLatin1_aae02 6 = .ok (.aload_n 0, 1) := by decide +kernel
theorem dJ0_isLatin1_aae02_7 : decode cJ0_isLatin1_aae02 7 = .ok (.getfield 15, 3) := by decide +kernel
theorem dJ0_isLatin1_aae02_10 : decode cJ0_isLatin1_aae02 10 = .ok (.ifCond .ne 7, 3) := by decide +kernel
theorem dJ0_isLatin1_aae02_13 : decode cJ0_isLatin1_aae02 13 = .ok (.iconst 1, 1) := by decide +kernel
theorem dJ0_isLatin1_aae02_14 : decode cJ0_isLatin1_aae02 14 = .ok (.goto 4, 3) := by decide +kernel
theorem dJ0_isLatin1_aae02_17 : decode cJ0_isLatin1_aae02 17 = .ok (.iconst 0, 1) := by decide +kernel
theorem dJ0_isLatin1_aae02_18 : decode cJ0_isLatin1_aae02 18 = .ok (.ireturn, 1) := by decide +kernel
theorem dJ0_length_8abf5_0 : decode cJ0_length_8abf5 0 = .ok (.aload_n 0, 1) := by decide +kernel
theorem dJ0_length_8abf5_1 : decode cJ0_length_8abf5 1 = .ok (.getfield 9, 3) := by decide +kernel
theorem dJ0_length_8abf5_4 : decode cJ0_length_8abf5 4 = .ok (.arraylength, 1) := by decide +kernel
theorem dJ0_length_8abf5_5 : decode cJ0_length_8abf5 5 = .ok (.aload_n 0, 1) := by decide +kernel
theorem dJ0_length_8abf5_6 : decode cJ0_length_8abf5 6 = .ok (.invokevirtual 335, 3) := by decide +kernel
theorem dJ0_length_8abf5_9 : decode cJ0_length_8abf5 9 = .ok (.ishr, 1) := by decide +kernel
theorem dJ0_length_8abf5_10 : decode cJ0_length_8abf5 10 = .ok (.ireturn, 1) := by decide +kernel
theorem dJ13_bitCount_95d88_0 : decode cJ13_bitCount_95d88 0 = .ok (.lload_n 0, 1) := by decide +kernel
theorem dJ13_bitCount_95d88_1 : decode cJ13_bitCount_95d88 1 = .ok (.lload_n 0, 1) := by decide +kernel
theorem dJ13_bitCount_95d88_2 : decode cJ13_bitCount_95d88 2 = .ok (.iconst 1, 1) := by decide +kernel
theorem dJ13_bitCount_95d88_3 : decode cJ13_bitCount_95d88 3 = .ok (.lushr, 1) := by decide +kernel
theorem dJ13_bitCount_95d88_4 : decode cJ13_bitCount_95d88 4 = .ok (.ldc2_w 314, 3) := by decide +kernel
theorem dJ13_bitCount_95d88_7 : decode cJ13_bitCount_95d88 7 = .ok (.land, 1) := by decide +kernel
theorem dJ13_bitCount_95d88_8 : decode cJ13_bitCount_95d88 8 = .ok (.lsub, 1) := by decide +kernel
theorem dJ13_bitCount_95d88_9 : decode cJ13_bitCount_95d88 9 = .ok (.lstore_n 0, 1) := by decide +kernel
theorem dJ13_bitCount_95d88_10 : decode cJ13_bitCount_95d88 10 = .ok (.lload_n 0, 1) := by decide +kernel
theorem dJ13_bitCount_95d88_11 : decode cJ13_bitCount_95d88 11 = .ok (.ldc2_w 316, 3) := by decide +kernel
theorem dJ13_bitCount_95d88_14 : decode cJ13_bitCount_95d88 14 = .ok (.land, 1) := by decide +kernel
theorem dJ13_bitCount_95d88_15 : decode cJ13_bitCount_95d88 15 = .ok (.lload_n 0, 1) := by decide +kernel
theorem dJ13_bitCount_95d88_16 : decode cJ13_bitCount_95d88 16 = .ok (.iconst 2, 1) := by decide +kernel
theorem dJ13_bitCount_95d88_17 : decode cJ13_bitCount_95d88 17 = .ok (.lushr, 1) := by decide +kernel
theorem dJ13_bitCount_95d88_18 : decode cJ13_bitCount_95d88 18 = .ok (.ldc2_w 316, 3) := by decide +kernel
theorem dJ13_bitCount_95d88_21 : decode cJ13_bitCount_95d88 21 = .ok (.land, 1) := by decide +kernel
theorem dJ13_bitCount_95d88_22 : decode cJ13_bitCount_95d88 22 = .ok (.ladd, 1) := by decide +kernel
theorem dJ13_bitCount_95d88_23 : decode cJ13_bitCount_95d88 23 = .ok (.lstore_n 0, 1) := by decide +kernel
theorem dJ13_bitCount_95d88_24 : decode cJ13_bitCount_95d88 24 = .ok (.lload_n 0, 1) := by decide +kernel
theorem dJ13_bitCount_95d88_25 : decode cJ13_bitCount_95d88 25 = .ok (.lload_n 0, 1) := by decide +kernel
theorem dJ13_bitCount_95d88_26 : decode cJ13_bitCount_95d88 26 = .ok (.iconst 4, 1) := by decide +kernel
theorem dJ13_bitCount_95d88_27 : decode cJ13_bitCount_95d88 27 = .ok (.lushr, 1) := by decide +kernel
theorem dJ13_bitCount_95d88_28 : decode cJ13_bitCount_95d88 28 = .ok (.ladd, 1) := by decide +kernel
theorem dJ13_bitCount_95d88_29 : decode cJ13_bitCount_95d88 29 = .ok (.ldc2_w 318, 3) := by decide +kernel
theorem dJ13_bitCount_95d88_32 : decode cJ13_bitCount_95d88 32 = .ok (.land, 1) := by decide +kernel
theorem dJ13_bitCount_95d88_33 : decode cJ13_bitCount_95d88 33 = .ok (.lstore_n 0, 1) := by decide +kernel
theorem dJ13_bitCount_95d88_34 : decode cJ13_bitCount_95d88 34 = .ok (.lload_n 0, 1) := by decide +kernel
theorem dJ13_bitCount_95d88_35 : decode cJ13_bitCount_95d88 35 = .ok (.lload_n 0, 1) := by decide +kernel
theorem dJ13_bitCount_95d88_36 : decode cJ13_bitCount_95d88 36 = .ok (.bipush 8, 2) := by decide +kernel
theorem dJ13_bitCount_95d88_38 : decode cJ13_bitCount_95d88 38 = .ok (.lushr, 1) := by decide +kernel
theorem dJ13_bitCount_95d88_39 : decode cJ13_bitCount_95d88 39 = .ok (.ladd, 1) := by decide +kernel
theorem dJ13_bitCount_95d88_40 : decode cJ13_bitCount_95d88 40 = .ok (.lstore_n 0, 1) := by decide +kernel
theorem dJ13_bitCount_95d88_41 : decode cJ13_bitCount_95d88 41 = .ok (.lload_n 0, 1) := by decide +kernel
theorem dJ13_bitCount_95d88_42 : decode cJ13_bitCount_95d88 42 = .ok (.lload_n 0, 1) := by decide +kernel
theorem dJ13_bitCount_95d88_43 : decode cJ13_bitCount_95d88 43 = .ok (.bipush 16, 2) := by decide +kernel
theorem dJ13_bitCount_95d88_45 : decode cJ13_bitCount_95d88 45 = .ok (.lushr, 1) := by decide +kernel
theorem dJ13_bitCount_95d88_46 : decode cJ13_bitCount_95d88 46 = .ok (.ladd, 1) := by decide +kernel
theorem dJ13_bitCount_95d88_47 : decode cJ13_bitCount_95d88 47 = .ok (.lstore_n 0, 1) := by decide +kernel
theorem dJ13_bitCount_95d88_48 : decode cJ13_bitCount_95d88 48 = .ok (.lload_n 0, 1) := by decide +kernel
theorem dJ13_bitCount_95d88_49 : decode cJ13_bitCount_95d88 49 = .ok (.lload_n 0, 1) := by decide +kernel
theorem dJ13_bitCount_95d88_50 : decode cJ13_bitCount_95d88 50 = .ok (.bipush 32, 2) := by decide +kernel
theorem dJ13_bitCount_95d88_52 : decode cJ13_bitCount_95d88 52 = .ok (.lushr, 1) := by decide +kernel
theorem dJ13_bitCount_95d88_53 : decode cJ13_bitCount_95d88 53 = .ok (.ladd, 1) := by decide +kernel
theorem dJ13_bitCount_95d88_54 : decode cJ13_bitCount_95d88 54 = .ok (.lstore_n 0, 1) := by decide +kernel
theorem dJ13_bitCount_95d88_55 : decode cJ13_bitCount_95d88 55 = .ok (.lload_n 0, 1) := by decide +kernel
theorem dJ13_bitCount_95d88_56 : decode cJ13_bitCount_95d88 56 = .ok (.l2i, 1) := by decide +kernel
theorem dJ13_bitCount_95d88_57 : decode cJ13_bitCount_95d88 57 = .ok (.bipush 127, 2) := by decide +kernel
theorem dJ13_bitCount_95d88_59 : decode cJ13_bitCount_95d88 59 = .ok (.iand, 1) := by decide +kernel
theorem dJ13_bitCount_95d88_60 : decode cJ13_bitCount_95d88 60 = .ok (.ireturn, 1) := by decide +kernel
theorem dJ1_canEncode_9a6ad_0 : decode cJ1_canEncode_9a6ad 0 = .ok (.iload_n 0, 1) := by decide +kernel
theorem dJ1_canEncode_9a6ad_1 : decode cJ1_canEncode_9a6ad 1 = .ok (.ifCond .lt 14, 3) := by decide +kernel
theorem dJ1_canEncode_9a6ad_4 : decode cJ1_canEncode_9a6ad 4 = .ok (.iload_n 0, 1) := by decide +kernel
theorem dJ1_canEncode_9a6ad_5 : decode cJ1_canEncode_9a6ad 5 = .ok (.sipush 255, 3) := by decide +kernel
theorem dJ1_canEncode_9a6ad_8 : decode cJ1_canEncode_9a6ad 8 = .ok (.if_icmp .gt 7, 3) := by decide +kernel
theorem dJ1_canEncode_9a6ad_11 : decode cJ1_canEncode_9a6ad 11 = .ok (.iconst 1, 1) := by decide +kernel
theorem dJ1_canEncode_9a6ad_12 : decode cJ1_canEncode_9a6ad 12 = .ok (.goto 4, 3) := by decide +kernel
theorem dJ1_canEncode_9a6ad_15 : decode cJ1_canEncode_9a6ad 15 = .ok (.iconst 0, 1) := by decide +kernel
theorem dJ1_canEncode_9a6ad_16 : decode cJ1_canEncode_9a6ad 16 = .ok (.ireturn, 1) := by decide +kernel
theorem dJ1_charAt_3b067_0 : decode cJ1_charAt_3b067 0 = .ok (.iload_n 1, 1) := by decide +kernel
theorem dJ1_charAt_3b067_1 : decode cJ1_charAt_3b067 1 = .ok (.aload_n 0, 1) := by decide +kernel
theorem dJ1_charAt_3b067_2 : decode cJ1_charAt_3b067 2 = .ok (.arraylength, 1) := by decide +kernel
theorem dJ1_charAt_3b067_3 : decode cJ1_charAt_3b067 3 = .ok (.invokestatic 9, 3) := by decide +kernel
theorem dJ1_charAt_3b067_6 : decode cJ1_charAt_3b067 6 = .ok (.aload_n 0, 1) := by decide +kernel
theorem dJ1_charAt_3b067_7 : decode cJ1_charAt_3b067 7 = .ok (.iload_n 1, 1) := by decide +kernel
theorem dJ1_charAt_3b067_8 : decode cJ1_charAt_3b067 8 = .ok (.baload, 1) := by decide +kernel
theorem dJ1_charAt_3b067_9 : decode cJ1_charAt_3b067 9 = .ok (.sipush 255, 3) := by decide +kernel
theorem dJ1_charAt_3b067_12 : decode cJ1_charAt_3b067 12 = .ok (.iand, 1) := by decide +kernel
theorem dJ1_charAt_3b067_13 : decode cJ1_charAt_3b067 13 = .ok (.i2c, 1) := by decide +kernel
theorem dJ1_charAt_3b067_14 : decode cJ1_charAt_3b067 14 = .ok (.ireturn, 1) := by decide +kernel
theorem dJ1_indexOfChar_4cfef_0 : decode cJ1_indexOfChar_4cfef 0 = .ok (.iload_n 1, 1) := by decide +kernel
theorem dJ1_indexOfChar_4cfef_1 : decode cJ1_indexOfChar_4cfef 1 = .ok (.i2b, 1) := by decide +kernel
theorem dJ1_indexOfChar_4cfef_2 : decode cJ1_indexOfChar_4cfef 2 = .ok (.istore 4, 2) := by decide +kernel
theorem dJ1_indexOfChar_4cfef_4 : decode cJ1_indexOfChar_4cfef 4 = .ok (.iload_n 2, 1) := by decide +kernel
theorem dJ1_indexOfChar_4cfef_5 : decode cJ1_indexOfChar_4cfef 5 = .ok (.istore 5, 2) := by decide +kernel
theorem dJ1_indexOfChar_4cfef_7 : decode cJ1_indexOfChar_4cfef 7 = .ok (.iload 5, 2) := by decide +kernel
theorem dJ1_indexOfChar_4cfef_9 : decode cJ1_indexOfChar_4cfef 9 = .ok (.iload_n 3, 1) := by decide +kernel
theorem dJ1_indexOfChar_4cfef_10 : decode cJ1_indexOfChar_4cfef 10 = .ok (.if_icmp .ge 21, 3) := by decide +kernel
theorem dJ1_indexOfChar_4cfef_13 : decode cJ1_indexOfChar_4cfef 13 = .ok (.aload_n 0, 1) := by decide +kernel
theorem dJ1_indexOfChar_4cfef_14 : decode cJ1_indexOfChar_4cfef 14 = .ok (.iload 5, 2) := by decide +kernel
theorem dJ1_indexOfChar_4cfef_16 : decode cJ1_indexOfChar_4cfef 16 = .ok (.baload, 1) := by decide +kernel
theorem dJ1_indexOfChar_4cfef_17 : decode cJ1_indexOfChar_4cfef 17 = .ok (.iload 4, 2) := by decide +kernel
theorem dJ1_indexOfChar_4cfef_19 : decode cJ1_indexOfChar_4cfef 19 = .ok (.if_icmp .ne 6, 3) := by decide +kernel
theorem dJ1_indexOfChar_4cfef_22 : decode cJ1_indexOfChar_4cfef 22 = .ok (.iload 5, 2) := by decide +kernel
theorem dJ1_indexOfChar_4cfef_24 : decode cJ1_indexOfChar_4cfef 24 = .ok (.ireturn, 1) := by decide +kernel
theorem dJ1_indexOfChar_4cfef_25 : decode cJ1_indexOfChar_4cfef 25 = .ok (.iinc 5 1, 3) := by decide +kernel
theorem dJ1_indexOfChar_4cfef_28 : decode cJ1_indexOfChar_4cfef 28 = .ok (.goto (-21), 3) := by decide +kernel
theorem dJ1_indexOfChar_4cfef_31 : decode cJ1_indexOfChar_4cfef 31 = .ok (.iconst (-1), 1) := by decide +kernel
theorem dJ1_indexOfChar_4cfef_32 : decode cJ1_indexOfChar_4cfef 32 = .ok (.ireturn, 1) := by decide +kernel
theorem dJ1_indexOf_4cfef_0 : decode cJ1_indexOf_4cfef 0 = .ok (.iload_n 1, 1) := by decide +kernel
theorem dJ1_indexOf_4cfef_1 : decode cJ1_indexOf_4cfef 1 = .ok (.invokestatic 88, 3) := by decide +kernel
theorem dJ1_indexOf_4cfef_4 : decode cJ1_indexOf_4cfef 4 = .ok (.ifCond .ne 5, 3) := by decide +kernel
theorem dJ1_indexOf_4cfef_7 : decode cJ1_indexOf_4cfef 7 = .ok (.iconst (-1), 1) := by decide +kernel
theorem dJ1_indexOf_4cfef_8 : decode cJ1_indexOf_4cfef 8 = .ok (.ireturn, 1) := by decide +kernel
theorem dJ1_indexOf_4cfef_9 : decode cJ1_indexOf_4cfef 9 = .ok (.iload_n 2, 1) := by decide +kernel
theorem dJ1_indexOf_4cfef_10 : decode cJ1_indexOf_4cfef 10 = .ok (.iconst 0, 1) := by decide +kernel
theorem dJ1_indexOf_4cfef_11 : decode cJ1_indexOf_4cfef 11 = .ok (.invokestatic 92, 3) := by decide +kernel
theorem dJ1_indexOf_4cfef_14 : decode cJ1_indexOf_4cfef 14 = .ok (.istore_n 2, 1) := by decide +kernel
theorem dJ1_indexOf_4cfef_15 : decode cJ1_indexOf_4cfef 15 = .ok (.iload_n 3, 1) := by decide +kernel
theorem dJ1_indexOf_4cfef_16 : decode cJ1_indexOf_4cfef 16 = .ok (.aload_n 0, 1) := by decide +kernel
theorem dJ1_indexOf_4cfef_17 : decode cJ1_indexOf_4cfef 17 = .ok (.arraylength, 1) := by decide +kernel
theorem dJ1_indexOf_4cfef_18 : decode cJ1_indexOf_4cfef 18 = .ok (.invokestatic 38, 3) := by decide +kernel
theorem dJ1_indexOf_4cfef_21 : decode cJ1_indexOf_4cfef 21 = .ok (.istore_n 3, 1) := by decide +kernel
theorem dJ1_indexOf_4cfef_22 : decode cJ1_indexOf_4cfef 22 = .ok (.iload_n 2, 1) := by decide +kernel
theorem dJ1_indexOf_4cfef_23 : decode cJ1_indexOf_4cfef 23 = .ok (.iload_n 3, 1) := by decide +kernel
theorem dJ1_indexOf_4cfef_24 : decode cJ1_indexOf_4cfef 24 = .ok (.if_icmp .lt 5, 3) := by decide +kernel
theorem dJ1_indexOf_4cfef_27 : decode cJ1_indexOf_4cfef 27 = .ok (.iconst (-1), 1) := by decide +kernel
theorem dJ1_indexOf_4cfef_28 : decode cJ1_indexOf_4cfef 28 = .ok (.ireturn, 1) := by decide +kernel
theorem dJ1_indexOf_4cfef_29 : decode cJ1_indexOf_4cfef 29 = .ok (.aload_n 0, 1) := by decide +kernel
theorem dJ1_indexOf_4cfef_30 : decode cJ1_indexOf_4cfef 30 = .ok (.iload_n 1, 1) := by decide +kernel
theorem dJ1_indexOf_4cfef_31 : decode cJ1_indexOf_4cfef 31 = .ok (.iload_n 2, 1) := by decide +kernel
theorem dJ1_indexOf_4cfef_32 : decode cJ1_indexOf_4cfef 32 = .ok (.iload_n 3, 1) := by decide +kernel
theorem dJ1_indexOf_4cfef_33 : decode cJ1_indexOf_4cfef 33 = .ok (.invokestatic 95, 3) := by decide +kernel
theorem dJ1_indexOf_4cfef_36 : decode cJ1_indexOf_4cfef 36 = .ok (.ireturn, 1) := by decide +kernel
theorem dJ3_checkIndex_8e157_0 : decode cJ3_checkIndex_8e157 0 = .ok (.iload_n 0, 1) := by decide +kernel
theorem dJ3_checkIndex_8e157_1 : decode cJ3_checkIndex_8e157 1 = .ok (.ifCond .lt 8, 3) := by decide +kernel
theorem dJ3_checkIndex_8e157_4 : decode cJ3_checkIndex_8e157 4 = .ok (.iload_n 0, 1) := by decide +kernel
theorem dJ3_checkIndex_8e157_5 : decode cJ3_checkIndex_8e157 5 = .ok (.iload_n 1, 1) := by decide +kernel
theorem dJ3_checkIndex_8e157_6 : decode cJ3_checkIndex_8e157 6 = .ok (.if_icmp .lt 10, 3) := by decide +kernel
theorem dJ3_checkIndex_8e157_16 : decode cJ3_checkIndex_8e157 16 = .ok (.iload_n 0, 1) := by decide +kernel
theorem dJ3_checkIndex_8e157_17 : decode cJ3_checkIndex_8e157 17 = .ok (.ireturn, 1) := by decide +kernel
theorem dJ6_bitCount_0f7a4_0 : decode cJ6_bitCount_0f7a4 0 = .ok (.iload_n 0, 1) := by decide +kernel
theorem dJ6_bitCount_0f7a4_1 : decode cJ6_bitCount_0f7a4 1 = .ok (.iload_n 0, 1) := by decide +kernel
theorem dJ6_bitCount_0f7a4_2 : decode cJ6_bitCount_0f7a4 2 = .ok (.iconst 1, 1) := by decide +kernel
theorem dJ6_bitCount_0f7a4_3 : decode cJ6_bitCount_0f7a4 3 = .ok (.iushr, 1) := by decide +kernel
theorem dJ6_bitCount_0f7a4_4 : decode cJ6_bitCount_0f7a4 4 = .ok (.ldc_w 265, 3) := by decide +kernel
theorem dJ6_bitCount_0f7a4_7 : decode cJ6_bitCount_0f7a4 7 = .ok (.iand, 1) := by decide +kernel
theorem dJ6_bitCount_0f7a4_8 : decode cJ6_bitCount_0f7a4 8 = .ok (.isub, 1) := by decide +kernel
theorem dJ6_bitCount_0f7a4_9 : decode cJ6_bitCount_0f7a4 9 = .ok (.istore_n 0, 1) := by decide +kernel
theorem dJ6_bitCount_0f7a4_10 : decode cJ6_bitCount_0f7a4 10 = .ok (.iload_n 0, 1) := by decide +kernel
theorem dJ6_bitCount_0f7a4_11 : decode cJ6_bitCount_0f7a4 11 = .ok (.ldc_w 266, 3) := by decide +kernel
theorem dJ6_bitCount_0f7a4_14 : decode cJ6_bitCount_0f7a4 14 = .ok (.iand, 1) := by decide +kernel
theorem dJ6_bitCount_0f7a4_15 : decode cJ6_bitCount_0f7a4 15 = .ok (.iload_n 0, 1) := by decide +kernel
theorem dJ6_bitCount_0f7a4_16 : decode cJ6_bitCount_0f7a4 16 = .ok (.iconst 2, 1) := by decide +kernel
theorem dJ6_bitCount_0f7a4_17 : decode cJ6_bitCount_0f7a4 17 = .ok (.iushr, 1) := by decide +kernel
theorem dJ6_bitCount_0f7a4_18 : decode cJ6_bitCount_0f7a4 18 = .ok (.ldc_w 266, 3) := by decide +kernel
theorem dJ6_bitCount_0f7a4_21 : decode cJ6_bitCount_0f7a4 21 = .ok (.iand, 1) := by decide +kernel
theorem dJ6_bitCount_0f7a4_22 : decode cJ6_bitCount_0f7a4 22 = .ok (.iadd, 1) := by decide +kernel
theorem dJ6_bitCount_0f7a4_23 : decode cJ6_bitCount_0f7a4 23 = .ok (.istore_n 0, 1) := by decide +kernel
theorem dJ6_bitCount_0f7a4_24 : decode cJ6_bitCount_0f7a4 24 = .ok (.iload_n 0, 1) := by decide +kernel
theorem dJ6_bitCount_0f7a4_25 : decode cJ6_bitCount_0f7a4 25 = .ok (.iload_n 0, 1) := by decide +kernel
theorem dJ6_bitCount_0f7a4_26 : decode cJ6_bitCount_0f7a4 26 = .ok (.iconst 4, 1) := by decide +kernel
theorem dJ6_bitCount_0f7a4_27 : decode cJ6_bitCount_0f7a4 27 = .ok (.iushr, 1) := by decide +kernel
theorem dJ6_bitCount_0f7a4_28 : decode cJ6_bitCount_0f7a4 28 = .ok (.iadd, 1) := by decide +kernel
theorem dJ6_bitCount_0f7a4_29 : decode cJ6_bitCount_0f7a4 29 = .ok (.ldc_w 267, 3) := by decide +kernel
theorem dJ6_bitCount_0f7a4_32 : decode cJ6_bitCount_0f7a4 32 = .ok (.iand, 1) := by decide +kernel
theorem dJ6_bitCount_0f7a4_33 : decode cJ6_bitCount_0f7a4 33 = .ok (.istore_n 0, 1) := by decide +kernel
theorem dJ6_bitCount_0f7a4_34 : decode cJ6_bitCount_0f7a4 34 = .ok (.iload_n 0, 1) := by decide +kernel
theorem dJ6_bitCount_0f7a4_35 : decode cJ6_bitCount_0f7a4 35 = .ok (.iload_n 0, 1) := by decide +kernel
theorem dJ6_bitCount_0f7a4_36 : decode cJ6_bitCount_0f7a4 36 = .ok (.bipush 8, 2) := by decide +kernel
theorem dJ6_bitCount_0f7a4_38 : decode cJ6_bitCount_0f7a4 38 = .ok (.iushr, 1) := by decide +kernel
theorem dJ6_bitCount_0f7a4_39 : decode cJ6_bitCount_0f7a4 39 = .ok (.iadd, 1) := by decide +kernel
theorem dJ6_bitCount_0f7a4_40 : decode cJ6_bitCount_0f7a4 40 = .ok (.istore_n 0, 1) := by decide +kernel
theorem dJ6_bitCount_0f7a4_41 : decode cJ6_bitCount_0f7a4 41 = .ok (.iload_n 0, 1) := by decide +kernel
theorem dJ6_bitCount_0f7a4_42 : decode cJ6_bitCount_0f7a4 42 = .ok (.iload_n 0, 1) := by decide +kernel
theorem dJ6_bitCount_0f7a4_43 : decode cJ6_bitCount_0f7a4 43 = .ok (.bipush 16, 2) := by decide +kernel
theorem dJ6_bitCount_0f7a4_45 : decode cJ6_bitCount_0f7a4 45 = .ok (.iushr, 1) := by decide +kernel
theorem dJ6_bitCount_0f7a4_46 : decode cJ6_bitCount_0f7a4 46 = .ok (.iadd, 1) := by decide +kernel
theorem dJ6_bitCount_0f7a4_47 : decode cJ6_bitCount_0f7a4 47 = .ok (.istore_n 0, 1) := by decide +kernel
theorem dJ6_bitCount_0f7a4_48 : decode cJ6_bitCount_0f7a4 48 = .ok (.iload_n 0, 1) := by decide +kernel
theorem dJ6_bitCount_0f7a4_49 : decode cJ6_bitCount_0f7a4 49 = .ok (.bipush 63, 2) := by decide +kernel
theorem dJ6_bitCount_0f7a4_51 : decode cJ6_bitCount_0f7a4 51 = .ok (.iand, 1) := by decide +kernel
theorem dJ6_bitCount_0f7a4_52 : decode cJ6_bitCount_0f7a4 52 = .ok (.ireturn, 1) := by decide +kernel
theorem dJ7_fill_53178_0 : decode cJ7_fill_53178 0 = .ok (.iconst 0, 1) := by decide +kernel
theorem dJ7_fill_53178_1 : decode cJ7_fill_53178 1 = .ok (.istore_n 2, 1) := by decide +kernel
theorem dJ7_fill_53178_2 : decode cJ7_fill_53178 2 = .ok (.aload_n 0, 1) := by decide +kernel
theorem dJ7_fill_53178_3 : decode cJ7_fill_53178 3 = .ok (.arraylength, 1) := by decide +kernel
theorem dJ7_fill_53178_4 : decode cJ7_fill_53178 4 = .ok (.istore_n 3, 1) := by decide +kernel
theorem dJ7_fill_53178_5 : decode cJ7_fill_53178 5 = .ok (.iload_n 2, 1) := by decide +kernel
theorem dJ7_fill_53178_6 : decode cJ7_fill_53178 6 = .ok (.iload_n 3, 1) := by decide +kernel
theorem dJ7_fill_53178_7 : decode cJ7_fill_53178 7 = .ok (.if_icmp .ge 13, 3) := by decide +kernel
theorem dJ7_fill_53178_10 : decode cJ7_fill_53178 10 = .ok (.aload_n 0, 1) := by decide +kernel
theorem dJ7_fill_53178_11 : decode cJ7_fill_53178 11 = .ok (.iload_n 2, 1) := by decide +kernel
theorem dJ7_fill_53178_12 : decode cJ7_fill_53178 12 = .ok (.iload_n 1, 1) := by decide +kernel
theorem dJ7_fill_53178_13 : decode cJ7_fill_53178 13 = .ok (.iastore, 1) := by decide +kernel
theorem dJ7_fill_53178_14 : decode cJ7_fill_53178 14 = .ok (.iinc 2 1, 3) := by decide +kernel
theorem dJ7_fill_53178_17 : decode cJ7_fill_53178 17 = .ok (.goto (-12), 3) := by decide +kernel
theorem dJ7_fill_53178_20 : decode cJ7_fill_53178 20 = .ok (.return_, 1) := by decide +kernel
theorem dX0_choose_0 : decode cX0_choose 0 = .ok (.lconst 1, 1) := by decide +kernel
theorem dX0_choose_1 : decode cX0_choose 1 = .ok (.lstore_n 2, 1) := by decide +kernel
theorem dX0_choose_2 : decode cX0_choose 2 = .ok (.iconst 1, 1) := by decide +kernel
theorem dX0_choose_3 : decode cX0_choose 3 = .ok (.istore 4, 2) := by decide +kernel
theorem dX0_choose_5 : decode cX0_choose 5 = .ok (.iload 4, 2) := by decide +kernel
theorem dX0_choose_7 : decode cX0_choose 7 = .ok (.iload_n 1, 1) := by decide +kernel
theorem dX0_choose_8 : decode cX0_choose 8 = .ok (.if_icmp .gt 23, 3) := by decide +kernel
theorem dX0_choose_11 : decode cX0_choose 11 = .ok (.lload_n 2, 1) := by decide +kernel
theorem dX0_choose_12 : decode cX0_choose 12 = .ok (.iload_n 0, 1) := by decide +kernel
theorem dX0_choose_13 : decode cX0_choose 13 = .ok (.iload_n 1, 1) := by decide +kernel
theorem dX0_choose_14 : decode cX0_choose 14 = .ok (.isub, 1) := by decide +kernel
theorem dX0_choose_15 : decode cX0_choose 15 = .ok (.iload 4, 2) := by decide +kernel
theorem dX0_choose_17 : decode cX0_choose 17 = .ok (.iadd, 1) := by decide +kernel
theorem dX0_choose_18 : decode cX0_choose 18 = .ok (.i2l, 1) := by decide +kernel
theorem dX0_choose_19 : decode cX0_choose 19 = .ok (.lmul, 1) := by decide +kernel
theorem dX0_choose_20 : decode cX0_choose 20 = .ok (.iload 4, 2) := by decide +kernel
theorem dX0_choose_22 : decode cX0_choose 22 = .ok (.i2l, 1) := by decide +kernel
theorem dX0_choose_23 : decode cX0_choose 23 = .ok (.ldiv, 1) := by decide +kernel
theorem dX0_choose_24 : decode cX0_choose 24 = .ok (.lstore_n 2, 1) := by decide +kernel
theorem dX0_choose_25 : decode cX0_choose 25 = .ok (.iinc 4 1, 3) := by decide +kernel
theorem dX0_choose_28 : decode cX0_choose 28 = .ok (.goto (-23), 3) := by decide +kernel
theorem dX0_choose_31 : decode cX0_choose 31 = .ok (.iload_n 1, 1) := by decide +kernel
theorem dX0_choose_32 : decode cX0_choose 32 = .ok (.ifCond .lt 8, 3) := by decide +kernel
theorem dX0_choose_35 : decode cX0_choose 35 = .ok (.iload_n 1, 1) := by decide +kernel
theorem dX0_choose_36 : decode cX0_choose 36 = .ok (.iload_n 0, 1) := by decide +kernel
theorem dX0_choose_37 : decode cX0_choose 37 = .ok (.if_icmp .le 7, 3) := by decide +kernel
theorem dX0_choose_40 : decode cX0_choose 40 = .ok (.lconst 0, 1) := by decide +kernel
theorem dX0_choose_41 : decode cX0_choose 41 = .ok (.goto 4, 3) := by decide +kernel
theorem dX0_choose_44 : decode cX0_choose 44 = .ok (.lload_n 2, 1) := by decide +kernel
theorem dX0_choose_45 : decode cX0_choose 45 = .ok (.lreturn, 1) := by decide +kernel
theorem dX0_drawsWith_0 : decode cX0_drawsWith 0 = .ok (.lconst 0, 1) := by decide +kernel
theorem dX0_drawsWith_1 : decode cX0_drawsWith 1 = .ok (.lstore 4, 2) := by decide +kernel
theorem dX0_drawsWith_3 : decode cX0_drawsWith 3 = .ok (.iload_n 3, 1) := by decide +kernel
theorem dX0_drawsWith_4 : decode cX0_drawsWith 4 = .ok (.istore 6, 2) := by decide +kernel
theorem dX0_drawsWith_6 : decode cX0_drawsWith 6 = .ok (.iload 6, 2) := by decide +kernel
theorem dX0_drawsWith_8 : decode cX0_drawsWith 8 = .ok (.iload_n 2, 1) := by decide +kernel
theorem dX0_drawsWith_9 : decode cX0_drawsWith 9 = .ok (.iload_n 1, 1) := by decide +kernel
theorem dX0_drawsWith_10 : decode cX0_drawsWith 10 = .ok (.invokestatic 7, 3) := by decide +kernel
theorem dX0_drawsWith_13 : decode cX0_drawsWith 13 = .ok (.if_icmp .gt 31, 3) := by decide +kernel
theorem dX0_drawsWith_16 : decode cX0_drawsWith 16 = .ok (.lload 4, 2) := by decide +kernel
theorem dX0_drawsWith_18 : decode cX0_drawsWith 18 = .ok (.iload_n 1, 1) := by decide +kernel
theorem dX0_drawsWith_19 : decode cX0_drawsWith 19 = .ok (.iload 6, 2) := by decide +kernel
theorem dX0_drawsWith_21 : decode cX0_drawsWith 21 = .ok (.invokestatic 13, 3) := by decide +kernel
theorem dX0_drawsWith_24 : decode cX0_drawsWith 24 = .ok (.iload_n 0, 1) := by decide +kernel
theorem dX0_drawsWith_25 : decode cX0_drawsWith 25 = .ok (.iload_n 1, 1) := by decide +kernel
theorem dX0_drawsWith_26 : decode cX0_drawsWith 26 = .ok (.isub, 1) := by decide +kernel
theorem dX0_drawsWith_27 : decode cX0_drawsWith 27 = .ok (.iload_n 2, 1) := by decide +kernel
theorem dX0_drawsWith_28 : decode cX0_drawsWith 28 = .ok (.iload 6, 2) := by decide +kernel
theorem dX0_drawsWith_30 : decode cX0_drawsWith 30 = .ok (.isub, 1) := by decide +kernel
theorem dX0_drawsWith_31 : decode cX0_drawsWith 31 = .ok (.invokestatic 13, 3) := by decide +kernel
theorem dX0_drawsWith_34 : decode cX0_drawsWith 34 = .ok (.lmul, 1) := by decide +kernel
theorem dX0_drawsWith_35 : decode cX0_drawsWith 35 = .ok (.ladd, 1) := by decide +kernel
theorem dX0_drawsWith_36 : decode cX0_drawsWith 36 = .ok (.lstore 4, 2) := by decide +kernel
theorem dX0_drawsWith_38 : decode cX0_drawsWith 38 = .ok (.iinc 6 1, 3) := by decide +kernel
theorem dX0_drawsWith_41 : decode cX0_drawsWith 41 = .ok (.goto (-35), 3) := by decide +kernel
theorem dX0_drawsWith_44 : decode cX0_drawsWith 44 = .ok (.lload 4, 2) := by decide +kernel
theorem dX0_drawsWith_46 : decode cX0_drawsWith 46 = .ok (.lreturn, 1) := by decide +kernel
theorem dX0_findsSoMany_0 : decode cX0_findsSoMany 0 = .ok (.lconst 0, 1) := by decide +kernel
theorem dX0_findsSoMany_1 : decode cX0_findsSoMany 1 = .ok (.lstore_n 3, 1) := by decide +kernel
theorem dX0_findsSoMany_2 : decode cX0_findsSoMany 2 = .ok (.iload_n 2, 1) := by decide +kernel
theorem dX0_findsSoMany_3 : decode cX0_findsSoMany 3 = .ok (.istore 5, 2) := by decide +kernel
theorem dX0_findsSoMany_5 : decode cX0_findsSoMany 5 = .ok (.iload 5, 2) := by decide +kernel
theorem dX0_findsSoMany_7 : decode cX0_findsSoMany 7 = .ok (.iload_n 1, 1) := by decide +kernel
theorem dX0_findsSoMany_8 : decode cX0_findsSoMany 8 = .ok (.if_icmp .gt 39, 3) := by decide +kernel
theorem dX0_findsSoMany_11 : decode cX0_findsSoMany 11 = .ok (.lload_n 3, 1) := by decide +kernel
theorem dX0_findsSoMany_12 : decode cX0_findsSoMany 12 = .ok (.iload_n 1, 1) := by decide +kernel
theorem dX0_findsSoMany_13 : decode cX0_findsSoMany 13 = .ok (.iload 5, 2) := by decide +kernel
theorem dX0_findsSoMany_15 : decode cX0_findsSoMany 15 = .ok (.invokestatic 13, 3) := by decide +kernel
theorem dX0_findsSoMany_18 : decode cX0_findsSoMany 18 = .ok (.iload_n 0, 1) := by decide +kernel
theorem dX0_findsSoMany_19 : decode cX0_findsSoMany 19 = .ok (.i2l, 1) := by decide +kernel
theorem dX0_findsSoMany_20 : decode cX0_findsSoMany 20 = .ok (.iload 5, 2) := by decide +kernel
theorem dX0_findsSoMany_22 : decode cX0_findsSoMany 22 = .ok (.invokestatic 19, 3) := by decide +kernel
theorem dX0_findsSoMany_25 : decode cX0_findsSoMany 25 = .ok (.lmul, 1) := by decide +kernel
theorem dX0_findsSoMany_26 : decode cX0_findsSoMany 26 = .ok (.bipush 10, 2) := by decide +kernel
theorem dX0_findsSoMany_28 : decode cX0_findsSoMany 28 = .ok (.iload_n 0, 1) := by decide +kernel
theorem dX0_findsSoMany_29 : decode cX0_findsSoMany 29 = .ok (.isub, 1) := by decide +kernel
theorem dX0_findsSoMany_30 : decode cX0_findsSoMany 30 = .ok (.i2l, 1) := by decide +kernel
theorem dX0_findsSoMany_31 : decode cX0_findsSoMany 31 = .ok (.iload_n 1, 1) := by decide +kernel
theorem dX0_findsSoMany_32 : decode cX0_findsSoMany 32 = .ok (.iload 5, 2) := by decide +kernel
theorem dX0_findsSoMany_34 : decode cX0_findsSoMany 34 = .ok (.isub, 1) := by decide +kernel
theorem dX0_findsSoMany_35 : decode cX0_findsSoMany 35 = .ok (.invokestatic 19, 3) := by decide +kernel
theorem dX0_findsSoMany_38 : decode cX0_findsSoMany 38 = .ok (.lmul, 1) := by decide +kernel
theorem dX0_findsSoMany_39 : decode cX0_findsSoMany 39 = .ok (.ladd, 1) := by decide +kernel
theorem dX0_findsSoMany_40 : decode cX0_findsSoMany 40 = .ok (.lstore_n 3, 1) := by decide +kernel
theorem dX0_findsSoMany_41 : decode cX0_findsSoMany 41 = .ok (.iinc 5 1, 3) := by decide +kernel
theorem dX0_findsSoMany_44 : decode cX0_findsSoMany 44 = .ok (.goto (-39), 3) := by decide +kernel
theorem dX0_findsSoMany_47 : decode cX0_findsSoMany 47 = .ok (.lload_n 3, 1) := by decide +kernel
theorem dX0_findsSoMany_48 : decode cX0_findsSoMany 48 = .ok (.lreturn, 1) := by decide +kernel
theorem dX0_lowest_0 : decode cX0_lowest 0 = .ok (.lload_n 2, 1) := by decide +kernel
theorem dX0_lowest_1 : decode cX0_lowest 1 = .ok (.lstore 5, 2) := by decide +kernel
theorem dX0_lowest_3 : decode cX0_lowest 3 = .ok (.lload_n 0, 1) := by decide +kernel
theorem dX0_lowest_4 : decode cX0_lowest 4 = .ok (.lstore 7, 2) := by decide +kernel
theorem dX0_lowest_6 : decode cX0_lowest 6 = .ok (.iconst 0, 1) := by decide +kernel
theorem dX0_lowest_7 : decode cX0_lowest 7 = .ok (.istore 9, 2) := by decide +kernel
theorem dX0_lowest_9 : decode cX0_lowest 9 = .ok (.iload 9, 2) := by decide +kernel
theorem dX0_lowest_11 : decode cX0_lowest 11 = .ok (.sipush 200, 3) := by decide +kernel
theorem dX0_lowest_14 : decode cX0_lowest 14 = .ok (.if_icmp .ge 31, 3) := by decide +kernel
theorem dX0_lowest_17 : decode cX0_lowest 17 = .ok (.lload 7, 2) := by decide +kernel
theorem dX0_lowest_19 : decode cX0_lowest 19 = .ok (.lconst 0, 1) := by decide +kernel
theorem dX0_lowest_20 : decode cX0_lowest 20 = .ok (.lcmp, 1) := by decide +kernel
theorem dX0_lowest_21 : decode cX0_lowest 21 = .ok (.ifCond .eq 24, 3) := by decide +kernel
theorem dX0_lowest_24 : decode cX0_lowest 24 = .ok (.lload 5, 2) := by decide +kernel
theorem dX0_lowest_26 : decode cX0_lowest 26 = .ok (.lload 7, 2) := by decide +kernel
theorem dX0_lowest_28 : decode cX0_lowest 28 = .ok (.lrem, 1) := by decide +kernel
theorem dX0_lowest_29 : decode cX0_lowest 29 = .ok (.lstore 10, 2) := by decide +kernel
theorem dX0_lowest_31 : decode cX0_lowest 31 = .ok (.lload 7, 2) := by decide +kernel
theorem dX0_lowest_33 : decode cX0_lowest 33 = .ok (.lstore 5, 2) := by decide +kernel
theorem dX0_lowest_35 : decode cX0_lowest 35 = .ok (.lload 10, 2) := by decide +kernel
theorem dX0_lowest_37 : decode cX0_lowest 37 = .ok (.lstore 7, 2) := by decide +kernel
theorem dX0_lowest_39 : decode cX0_lowest 39 = .ok (.iinc 9 1, 3) := by decide +kernel
theorem dX0_lowest_42 : decode cX0_lowest 42 = .ok (.goto (-33), 3) := by decide +kernel
theorem dX0_lowest_45 : decode cX0_lowest 45 = .ok (.iload 4, 2) := by decide +kernel
theorem dX0_lowest_47 : decode cX0_lowest 47 = .ok (.ifCond .ne 7, 3) := by decide +kernel
theorem dX0_lowest_50 : decode cX0_lowest 50 = .ok (.lload_n 0, 1) := by decide +kernel
theorem dX0_lowest_51 : decode cX0_lowest 51 = .ok (.goto 4, 3) := by decide +kernel
theorem dX0_lowest_54 : decode cX0_lowest 54 = .ok (.lload_n 2, 1) := by decide +kernel
theorem dX0_lowest_55 : decode cX0_lowest 55 = .ok (.lstore 9, 2) := by decide +kernel
theorem dX0_lowest_57 : decode cX0_lowest 57 = .ok (.lload 5, 2) := by decide +kernel
theorem dX0_lowest_59 : decode cX0_lowest 59 = .ok (.lconst 0, 1) := by decide +kernel
theorem dX0_lowest_60 : decode cX0_lowest 60 = .ok (.lcmp, 1) := by decide +kernel
theorem dX0_lowest_61 : decode cX0_lowest 61 = .ok (.ifCond .ne 8, 3) := by decide +kernel
theorem dX0_lowest_64 : decode cX0_lowest 64 = .ok (.lload 9, 2) := by decide +kernel
theorem dX0_lowest_66 : decode cX0_lowest 66 = .ok (.goto 8, 3) := by decide +kernel
theorem dX0_lowest_69 : decode cX0_lowest 69 = .ok (.lload 9, 2) := by decide +kernel
theorem dX0_lowest_71 : decode cX0_lowest 71 = .ok (.lload 5, 2) := by decide +kernel
theorem dX0_lowest_73 : decode cX0_lowest 73 = .ok (.ldiv, 1) := by decide +kernel
theorem dX0_lowest_74 : decode cX0_lowest 74 = .ok (.lreturn, 1) := by decide +kernel
theorem dX0_power_0 : decode cX0_power 0 = .ok (.lconst 1, 1) := by decide +kernel
theorem dX0_power_1 : decode cX0_power 1 = .ok (.lstore_n 3, 1) := by decide +kernel
theorem dX0_power_2 : decode cX0_power 2 = .ok (.iconst 0, 1) := by decide +kernel
theorem dX0_power_3 : decode cX0_power 3 = .ok (.istore 5, 2) := by decide +kernel
theorem dX0_power_5 : decode cX0_power 5 = .ok (.iload 5, 2) := by decide +kernel
theorem dX0_power_7 : decode cX0_power 7 = .ok (.iload_n 2, 1) := by decide +kernel
theorem dX0_power_8 : decode cX0_power 8 = .ok (.if_icmp .ge 13, 3) := by decide +kernel
theorem dX0_power_11 : decode cX0_power 11 = .ok (.lload_n 3, 1) := by decide +kernel
theorem dX0_power_12 : decode cX0_power 12 = .ok (.lload_n 0, 1) := by decide +kernel
theorem dX0_power_13 : decode cX0_power 13 = .ok (.lmul, 1) := by decide +kernel
theorem dX0_power_14 : decode cX0_power 14 = .ok (.lstore_n 3, 1) := by decide +kernel
theorem dX0_power_15 : decode cX0_power 15 = .ok (.iinc 5 1, 3) := by decide +kernel
theorem dX0_power_18 : decode cX0_power 18 = .ok (.goto (-13), 3) := by decide +kernel
theorem dX0_power_21 : decode cX0_power 21 = .ok (.lload_n 3, 1) := by decide +kernel
theorem dX0_power_22 : decode cX0_power 22 = .ok (.lreturn, 1) := by decide +kernel
theorem dX10_addToTally_0 : decode cX10_addToTally 0 = .ok (.iload_n 3, 1) := by decide +kernel
theorem dX10_addToTally_1 : decode cX10_addToTally 1 = .ok (.ifCond .eq 7, 3) := by decide +kernel
theorem dX10_addToTally_4 : decode cX10_addToTally 4 = .ok (.iconst 3, 1) := by decide +kernel
theorem dX10_addToTally_5 : decode cX10_addToTally 5 = .ok (.goto 4, 3) := by decide +kernel
theorem dX10_addToTally_8 : decode cX10_addToTally 8 = .ok (.iconst 0, 1) := by decide +kernel
theorem dX10_addToTally_9 : decode cX10_addToTally 9 = .ok (.istore 4, 2) := by decide +kernel
theorem dX10_addToTally_11 : decode cX10_addToTally 11 = .ok (.aload_n 0, 1) := by decide +kernel
theorem dX10_addToTally_12 : decode cX10_addToTally 12 = .ok (.getfield 30, 3) := by decide +kernel
theorem dX10_addToTally_15 : decode cX10_addToTally 15 = .ok (.iload 4, 2) := by decide +kernel
theorem dX10_addToTally_17 : decode cX10_addToTally 17 = .ok (.dup2, 1) := by decide +kernel
theorem dX10_addToTally_18 : decode cX10_addToTally 18 = .ok (.iaload, 1) := by decide +kernel
theorem dX10_addToTally_19 : decode cX10_addToTally 19 = .ok (.iconst 1, 1) := by decide +kernel
theorem dX10_addToTally_20 : decode cX10_addToTally 20 = .ok (.iadd, 1) := by decide +kernel
theorem dX10_addToTally_21 : decode cX10_addToTally 21 = .ok (.iastore, 1) := by decide +kernel
theorem dX10_addToTally_22 : decode cX10_addToTally 22 = .ok (.aload_n 0, 1) := by decide +kernel
theorem dX10_addToTally_23 : decode cX10_addToTally 23 = .ok (.getfield 30, 3) := by decide +kernel
theorem dX10_addToTally_26 : decode cX10_addToTally 26 = .ok (.iload 4, 2) := by decide +kernel
theorem dX10_addToTally_28 : decode cX10_addToTally 28 = .ok (.iconst 1, 1) := by decide +kernel
theorem dX10_addToTally_29 : decode cX10_addToTally 29 = .ok (.iadd, 1) := by decide +kernel
theorem dX10_addToTally_30 : decode cX10_addToTally 30 = .ok (.dup2, 1) := by decide +kernel
theorem dX10_addToTally_31 : decode cX10_addToTally 31 = .ok (.iaload, 1) := by decide +kernel
theorem dX10_addToTally_32 : decode cX10_addToTally 32 = .ok (.iload_n 2, 1) := by decide +kernel
theorem dX10_addToTally_33 : decode cX10_addToTally 33 = .ok (.iconst 2, 1) := by decide +kernel
theorem dX10_addToTally_34 : decode cX10_addToTally 34 = .ok (.if_icmp .ne 7, 3) := by decide +kernel
theorem dX10_addToTally_37 : decode cX10_addToTally 37 = .ok (.iconst 1, 1) := by decide +kernel
theorem dX10_addToTally_38 : decode cX10_addToTally 38 = .ok (.goto 4, 3) := by decide +kernel
theorem dX10_addToTally_41 : decode cX10_addToTally 41 = .ok (.iconst 0, 1) := by decide +kernel
theorem dX10_addToTally_42 : decode cX10_addToTally 42 = .ok (.iadd, 1) := by decide +kernel
theorem dX10_addToTally_43 : decode cX10_addToTally 43 = .ok (.iastore, 1) := by decide +kernel
theorem dX10_addToTally_44 : decode cX10_addToTally 44 = .ok (.aload_n 0, 1) := by decide +kernel
theorem dX10_addToTally_45 : decode cX10_addToTally 45 = .ok (.getfield 30, 3) := by decide +kernel
theorem dX10_addToTally_48 : decode cX10_addToTally 48 = .ok (.iload 4, 2) := by decide +kernel
theorem dX10_addToTally_50 : decode cX10_addToTally 50 = .ok (.iconst 2, 1) := by decide +kernel
theorem dX10_addToTally_51 : decode cX10_addToTally 51 = .ok (.iadd, 1) := by decide +kernel
theorem dX10_addToTally_52 : decode cX10_addToTally 52 = .ok (.dup2, 1) := by decide +kernel
theorem dX10_addToTally_53 : decode cX10_addToTally 53 = .ok (.iaload, 1) := by decide +kernel
theorem dX10_addToTally_54 : decode cX10_addToTally 54 = .ok (.iload_n 2, 1) := by decide +kernel
theorem dX10_addToTally_55 : decode cX10_addToTally 55 = .ok (.iconst 1, 1) := by decide +kernel
theorem dX10_addToTally_56 : decode cX10_addToTally 56 = .ok (.if_icmp .ne 7, 3) := by decide +kernel
theorem dX10_addToTally_59 : decode cX10_addToTally 59 = .ok (.iconst 1, 1) := by decide +kernel
theorem dX10_addToTally_60 : decode cX10_addToTally 60 = .ok (.goto 4, 3) := by decide +kernel
theorem dX10_addToTally_63 : decode cX10_addToTally 63 = .ok (.iconst 0, 1) := by decide +kernel
theorem dX10_addToTally_64 : decode cX10_addToTally 64 = .ok (.iadd, 1) := by decide +kernel
theorem dX10_addToTally_65 : decode cX10_addToTally 65 = .ok (.iastore, 1) := by decide +kernel
theorem dX10_addToTally_66 : decode cX10_addToTally 66 = .ok (.iconst 0, 1) := by decide +kernel
theorem dX10_addToTally_67 : decode cX10_addToTally 67 = .ok (.istore 5, 2) := by decide +kernel
theorem dX10_addToTally_69 : decode cX10_addToTally 69 = .ok (.iload 5, 2) := by decide +kernel
theorem dX10_addToTally_71 : decode cX10_addToTally 71 = .ok (.bipush 8, 2) := by decide +kernel
theorem dX10_addToTally_73 : decode cX10_addToTally 73 = .ok (.if_icmp .ge 42, 3) := by decide +kernel
theorem dX10_addToTally_76 : decode cX10_addToTally 76 = .ok (.iload_n 1, 1) := by decide +kernel
theorem dX10_addToTally_77 : decode cX10_addToTally 77 = .ok (.iload 5, 2) := by decide +kernel
theorem dX10_addToTally_79 : decode cX10_addToTally 79 = .ok (.ishr, 1) := by decide +kernel
theorem dX10_addToTally_80 : decode cX10_addToTally 80 = .ok (.iconst 1, 1) := by decide +kernel
theorem dX10_addToTally_81 : decode cX10_addToTally 81 = .ok (.iand, 1) := by decide +kernel
theorem dX10_addToTally_82 : decode cX10_addToTally 82 = .ok (.istore 6, 2) := by decide +kernel
theorem dX10_addToTally_84 : decode cX10_addToTally 84 = .ok (.aload_n 0, 1) := by decide +kernel
theorem dX10_addToTally_85 : decode cX10_addToTally 85 = .ok (.getfield 30, 3) := by decide +kernel
theorem dX10_addToTally_88 : decode cX10_addToTally 88 = .ok (.bipush 6, 2) := by decide +kernel
theorem dX10_addToTally_90 : decode cX10_addToTally 90 = .ok (.iload 5, 2) := by decide +kernel
theorem dX10_addToTally_92 : decode cX10_addToTally 92 = .ok (.iadd, 1) := by decide +kernel
theorem dX10_addToTally_93 : decode cX10_addToTally 93 = .ok (.dup2, 1) := by decide +kernel
theorem dX10_addToTally_94 : decode cX10_addToTally 94 = .ok (.iaload, 1) := by decide +kernel
theorem dX10_addToTally_95 : decode cX10_addToTally 95 = .ok (.iload_n 3, 1) := by decide +kernel
theorem dX10_addToTally_96 : decode cX10_addToTally 96 = .ok (.ifCond .eq 8, 3) := by decide +kernel
theorem dX10_addToTally_99 : decode cX10_addToTally 99 = .ok (.iload 6, 2) := by decide +kernel
theorem dX10_addToTally_101 : decode cX10_addToTally 101 = .ok (.goto 6, 3) := by decide +kernel
theorem dX10_addToTally_104 : decode cX10_addToTally 104 = .ok (.iload 6, 2) := by decide +kernel
theorem dX10_addToTally_106 : decode cX10_addToTally 106 = .ok (.ineg, 1) := by decide +kernel
theorem dX10_addToTally_107 : decode cX10_addToTally 107 = .ok (.iadd, 1) := by decide +kernel
theorem dX10_addToTally_108 : decode cX10_addToTally 108 = .ok (.iastore, 1) := by decide +kernel
theorem dX10_addToTally_109 : decode cX10_addToTally 109 = .ok (.iinc 5 1, 3) := by decide +kernel
theorem dX10_addToTally_112 : decode cX10_addToTally 112 = .ok (.goto (-43), 3) := by decide +kernel
theorem dX10_addToTally_115 : decode cX10_addToTally 115 = .ok (.return_, 1) := by decide +kernel
theorem dX10_draw_0 : decode cX10_draw 0 = .ok (.aload_n 0, 1) := by decide +kernel
theorem dX10_draw_1 : decode cX10_draw 1 = .ok (.aload_n 0, 1) := by decide +kernel
theorem dX10_draw_2 : decode cX10_draw 2 = .ok (.getfield 77, 3) := by decide +kernel
theorem dX10_draw_5 : decode cX10_draw 5 = .ok (.ldc2_w 115, 3) := by decide +kernel
theorem dX10_draw_8 : decode cX10_draw 8 = .ok (.lmul, 1) := by decide +kernel
theorem dX10_draw_9 : decode cX10_draw 9 = .ok (.ldc2_w 117, 3) := by decide +kernel
theorem dX10_draw_12 : decode cX10_draw 12 = .ok (.ladd, 1) := by decide +kernel
theorem dX10_draw_13 : decode cX10_draw 13 = .ok (.ldc2_w 119, 3) := by decide +kernel
theorem dX10_draw_16 : decode cX10_draw 16 = .ok (.land, 1) := by decide +kernel
theorem dX10_draw_17 : decode cX10_draw 17 = .ok (.putfield 77, 3) := by decide +kernel
theorem dX10_draw_20 : decode cX10_draw 20 = .ok (.aload_n 0, 1) := by decide +kernel
theorem dX10_draw_21 : decode cX10_draw 21 = .ok (.getfield 77, 3) := by decide +kernel
theorem dX10_draw_24 : decode cX10_draw 24 = .ok (.ldc2_w 121, 3) := by decide +kernel
theorem dX10_draw_27 : decode cX10_draw 27 = .ok (.ldiv, 1) := by decide +kernel
theorem dX10_draw_28 : decode cX10_draw 28 = .ok (.ldc2_w 123, 3) := by decide +kernel
theorem dX10_draw_31 : decode cX10_draw 31 = .ok (.lrem, 1) := by decide +kernel
theorem dX10_draw_32 : decode cX10_draw 32 = .ok (.l2i, 1) := by decide +kernel
theorem dX10_draw_33 : decode cX10_draw 33 = .ok (.ireturn, 1) := by decide +kernel
theorem dX10_drawLayer_0 : decode cX10_drawLayer 0 = .ok (.aload_n 0, 1) := by decide +kernel
theorem dX10_drawLayer_1 : decode cX10_drawLayer 1 = .ok (.getfield 43, 3) := by decide +kernel
theorem dX10_drawLayer_4 : decode cX10_drawLayer 4 = .ok (.iload_n 1, 1) := by decide +kernel
theorem dX10_drawLayer_5 : decode cX10_drawLayer 5 = .ok (.invokevirtual 125, 3) := by decide +kernel
theorem dX10_drawLayer_8 : decode cX10_drawLayer 8 = .ok (.istore_n 2, 1) := by decide +kernel
theorem dX10_drawLayer_9 : decode cX10_drawLayer 9 = .ok (.iload_n 2, 1) := by decide +kernel
theorem dX10_drawLayer_10 : decode cX10_drawLayer 10 = .ok (.ifCond .le 20, 3) := by decide +kernel
theorem dX10_drawLayer_13 : decode cX10_drawLayer 13 = .ok (.aload_n 0, 1) := by decide +kernel
theorem dX10_drawLayer_14 : decode cX10_drawLayer 14 = .ok (.getfield 43, 3) := by decide +kernel
theorem dX10_drawLayer_17 : decode cX10_drawLayer 17 = .ok (.iload_n 1, 1) := by decide +kernel
theorem dX10_drawLayer_18 : decode cX10_drawLayer 18 = .ok (.aload_n 0, 1) := by decide +kernel
theorem dX10_drawLayer_19 : decode cX10_drawLayer 19 = .ok (.invokevirtual 130, 3) := by decide +kernel
theorem dX10_drawLayer_22 : decode cX10_drawLayer 22 = .ok (.iload_n 2, 1) := by decide +kernel
theorem dX10_drawLayer_23 : decode cX10_drawLayer 23 = .ok (.irem, 1) := by decide +kernel
theorem dX10_drawLayer_24 : decode cX10_drawLayer 24 = .ok (.invokevirtual 134, 3) := by decide +kernel
theorem dX10_drawLayer_27 : decode cX10_drawLayer 27 = .ok (.goto 4, 3) := by decide +kernel
theorem dX10_drawLayer_30 : decode cX10_drawLayer 30 = .ok (.iconst (-1), 1) := by decide +kernel
theorem dX10_drawLayer_31 : decode cX10_drawLayer 31 = .ok (.ireturn, 1) := by decide +kernel
theorem dX10_forget_0 : decode cX10_forget 0 = .ok (.aload_n 0, 1) := by decide +kernel
theorem dX10_forget_1 : decode cX10_forget 1 = .ok (.iconst (-1), 1) := by decide +kernel
theorem dX10_forget_2 : decode cX10_forget 2 = .ok (.putfield 36, 3) := by decide +kernel
theorem dX10_forget_5 : decode cX10_forget 5 = .ok (.aload_n 0, 1) := by decide +kernel
theorem dX10_forget_6 : decode cX10_forget 6 = .ok (.iconst 0, 1) := by decide +kernel
theorem dX10_forget_7 : decode cX10_forget 7 = .ok (.putfield 55, 3) := by decide +kernel
theorem dX10_forget_10 : decode cX10_forget 10 = .ok (.return_, 1) := by decide +kernel
theorem dX10_leftOver_0 : decode cX10_leftOver 0 = .ok (.iconst 0, 1) := by decide +kernel
theorem dX10_leftOver_1 : decode cX10_leftOver 1 = .ok (.istore_n 1, 1) := by decide +kernel
theorem dX10_leftOver_2 : decode cX10_leftOver 2 = .ok (.iconst 0, 1) := by decide +kernel
theorem dX10_leftOver_3 : decode cX10_leftOver 3 = .ok (.istore_n 2, 1) := by decide +kernel
theorem dX10_leftOver_4 : decode cX10_leftOver 4 = .ok (.iload_n 2, 1) := by decide +kernel
theorem dX10_leftOver_5 : decode cX10_leftOver 5 = .ok (.bipush 8, 2) := by decide +kernel
theorem dX10_leftOver_7 : decode cX10_leftOver 7 = .ok (.if_icmp .ge 18, 3) := by decide +kernel
theorem dX10_leftOver_10 : decode cX10_leftOver 10 = .ok (.iload_n 1, 1) := by decide +kernel
theorem dX10_leftOver_11 : decode cX10_leftOver 11 = .ok (.aload_n 0, 1) := by decide +kernel
theorem dX10_leftOver_12 : decode cX10_leftOver 12 = .ok (.getfield 24, 3) := by decide +kernel
theorem dX10_leftOver_15 : decode cX10_leftOver 15 = .ok (.iload_n 2, 1) := by decide +kernel
theorem dX10_leftOver_16 : decode cX10_leftOver 16 = .ok (.iaload, 1) := by decide +kernel
theorem dX10_leftOver_17 : decode cX10_leftOver 17 = .ok (.iadd, 1) := by decide +kernel
theorem dX10_leftOver_18 : decode cX10_leftOver 18 = .ok (.istore_n 1, 1) := by decide +kernel
theorem dX10_leftOver_19 : decode cX10_leftOver 19 = .ok (.iinc 2 1, 3) := by decide +kernel
theorem dX10_leftOver_22 : decode cX10_leftOver 22 = .ok (.goto (-18), 3) := by decide +kernel
theorem dX10_leftOver_25 : decode cX10_leftOver 25 = .ok (.iload_n 1, 1) := by decide +kernel
theorem dX10_leftOver_26 : decode cX10_leftOver 26 = .ok (.ireturn, 1) := by decide +kernel
theorem dX10_live_0 : decode cX10_live 0 = .ok (.aload_n 0, 1) := by decide +kernel
theorem dX10_live_1 : decode cX10_live 1 = .ok (.getfield 36, 3) := by decide +kernel
theorem dX10_live_4 : decode cX10_live 4 = .ok (.iload_n 1, 1) := by decide +kernel
theorem dX10_live_5 : decode cX10_live 5 = .ok (.if_icmp .ne 4, 3) := by decide +kernel
theorem dX10_live_8 : decode cX10_live 8 = .ok (.return_, 1) := by decide +kernel
theorem dX10_live_9 : decode cX10_live 9 = .ok (.aload_n 0, 1) := by decide +kernel
theorem dX10_live_10 : decode cX10_live 10 = .ok (.getfield 47, 3) := by decide +kernel
theorem dX10_live_13 : decode cX10_live 13 = .ok (.invokevirtual 72, 3) := by decide +kernel
theorem dX10_live_16 : decode cX10_live 16 = .ok (.aload_n 0, 1) := by decide +kernel
theorem dX10_live_17 : decode cX10_live 17 = .ok (.iload_n 1, 1) := by decide +kernel
theorem dX10_live_18 : decode cX10_live 18 = .ok (.i2l, 1) := by decide +kernel
theorem dX10_live_19 : decode cX10_live 19 = .ok (.putfield 77, 3) := by decide +kernel
theorem dX10_live_22 : decode cX10_live 22 = .ok (.aload_n 0, 1) := by decide +kernel
theorem dX10_live_23 : decode cX10_live 23 = .ok (.iconst 0, 1) := by decide +kernel
theorem dX10_live_24 : decode cX10_live 24 = .ok (.putfield 81, 3) := by decide +kernel
theorem dX10_live_27 : decode cX10_live 27 = .ok (.aload_n 0, 1) := by decide +kernel
theorem dX10_live_28 : decode cX10_live 28 = .ok (.iconst (-1), 1) := by decide +kernel
theorem dX10_live_29 : decode cX10_live 29 = .ok (.putfield 84, 3) := by decide +kernel
theorem dX10_live_32 : decode cX10_live 32 = .ok (.aload_n 0, 1) := by decide +kernel
theorem dX10_live_33 : decode cX10_live 33 = .ok (.getfield 24, 3) := by decide +kernel
theorem dX10_live_36 : decode cX10_live 36 = .ok (.iconst 0, 1) := by decide +kernel
theorem dX10_live_37 : decode cX10_live 37 = .ok (.invokestatic 87, 3) := by decide +kernel
theorem dX10_live_40 : decode cX10_live 40 = .ok (.aload_n 0, 1) := by decide +kernel
theorem dX10_live_41 : decode cX10_live 41 = .ok (.getfield 30, 3) := by decide +kernel
theorem dX10_live_44 : decode cX10_live 44 = .ok (.iconst 0, 1) := by decide +kernel
theorem dX10_live_45 : decode cX10_live 45 = .ok (.invokestatic 87, 3) := by decide +kernel
theorem dX10_live_48 : decode cX10_live 48 = .ok (.aload_n 0, 1) := by decide +kernel
theorem dX10_live_49 : decode cX10_live 49 = .ok (.getfield 33, 3) := by decide +kernel
theorem dX10_live_52 : decode cX10_live 52 = .ok (.iconst 0, 1) := by decide +kernel
theorem dX10_live_53 : decode cX10_live 53 = .ok (.invokestatic 87, 3) := by decide +kernel
theorem dX10_live_56 : decode cX10_live 56 = .ok (.iconst 0, 1) := by decide +kernel
theorem dX10_live_57 : decode cX10_live 57 = .ok (.istore_n 2, 1) := by decide +kernel
theorem dX10_live_58 : decode cX10_live 58 = .ok (.iload_n 2, 1) := by decide +kernel
theorem dX10_live_59 : decode cX10_live 59 = .ok (.aload_n 0, 1) := by decide +kernel
theorem dX10_live_60 : decode cX10_live 60 = .ok (.getfield 47, 3) := by decide +kernel
theorem dX10_live_63 : decode cX10_live 63 = .ok (.getfield 93, 3) := by decide +kernel
theorem dX10_live_66 : decode cX10_live 66 = .ok (.if_icmp .ge 106, 3) := by decide +kernel
theorem dX10_live_69 : decode cX10_live 69 = .ok (.iconst 0, 1) := by decide +kernel
theorem dX10_live_70 : decode cX10_live 70 = .ok (.istore_n 3, 1) := by decide +kernel
theorem dX10_live_71 : decode cX10_live 71 = .ok (.iload_n 3, 1) := by decide +kernel
theorem dX10_live_72 : decode cX10_live 72 = .ok (.bipush 24, 2) := by decide +kernel
theorem dX10_live_74 : decode cX10_live 74 = .ok (.if_icmp .ge 92, 3) := by decide +kernel
theorem dX10_live_77 : decode cX10_live 77 = .ok (.aload_n 0, 1) := by decide +kernel
theorem dX10_live_78 : decode cX10_live 78 = .ok (.getfield 47, 3) := by decide +kernel
theorem dX10_live_81 : decode cX10_live 81 = .ok (.getfield 94, 3) := by decide +kernel
theorem dX10_live_84 : decode cX10_live 84 = .ok (.iload_n 2, 1) := by decide +kernel
theorem dX10_live_85 : decode cX10_live 85 = .ok (.iaload, 1) := by decide +kernel
theorem dX10_live_86 : decode cX10_live 86 = .ok (.i2l, 1) := by decide +kernel
theorem dX10_live_87 : decode cX10_live 87 = .ok (.iload_n 3, 1) := by decide +kernel
theorem dX10_live_88 : decode cX10_live 88 = .ok (.invokestatic 58, 3) := by decide +kernel
theorem dX10_live_91 : decode cX10_live 91 = .ok (.ifCond .eq 69, 3) := by decide +kernel
theorem dX10_live_94 : decode cX10_live 94 = .ok (.aload_n 0, 1) := by decide +kernel
theorem dX10_live_95 : decode cX10_live 95 = .ok (.iload_n 2, 1) := by decide +kernel
theorem dX10_live_96 : decode cX10_live 96 = .ok (.iload_n 3, 1) := by decide +kernel
theorem dX10_live_97 : decode cX10_live 97 = .ok (.invokevirtual 97, 3) := by decide +kernel
theorem dX10_live_100 : decode cX10_live 100 = .ok (.aload_n 0, 1) := by decide +kernel
theorem dX10_live_101 : decode cX10_live 101 = .ok (.getfield 24, 3) := by decide +kernel
theorem dX10_live_104 : decode cX10_live 104 = .ok (.aload_n 0, 1) := by decide +kernel
theorem dX10_live_105 : decode cX10_live 105 = .ok (.getfield 47, 3) := by decide +kernel
theorem dX10_live_108 : decode cX10_live 108 = .ok (.getfield 101, 3) := by decide +kernel
theorem dX10_live_111 : decode cX10_live 111 = .ok (.iload_n 2, 1) := by decide +kernel
theorem dX10_live_112 : decode cX10_live 112 = .ok (.iaload, 1) := by decide +kernel
theorem dX10_live_113 : decode cX10_live 113 = .ok (.iaload, 1) := by decide +kernel
theorem dX10_live_114 : decode cX10_live 114 = .ok (.ifCond .le 7, 3) := by decide +kernel
theorem dX10_live_117 : decode cX10_live 117 = .ok (.iconst 1, 1) := by decide +kernel
theorem dX10_live_118 : decode cX10_live 118 = .ok (.goto 4, 3) := by decide +kernel
theorem dX10_live_121 : decode cX10_live 121 = .ok (.iconst 0, 1) := by decide +kernel
theorem dX10_live_122 : decode cX10_live 122 = .ok (.istore 4, 2) := by decide +kernel
theorem dX10_live_124 : decode cX10_live 124 = .ok (.iload 4, 2) := by decide +kernel
theorem dX10_live_126 : decode cX10_live 126 = .ok (.ifCond .eq 11, 3) := by decide +kernel
theorem dX10_live_129 : decode cX10_live 129 = .ok (.aload_n 0, 1) := by decide +kernel
theorem dX10_live_130 : decode cX10_live 130 = .ok (.iload_n 2, 1) := by decide +kernel
theorem dX10_live_131 : decode cX10_live 131 = .ok (.invokevirtual 104, 3) := by decide +kernel
theorem dX10_live_134 : decode cX10_live 134 = .ok (.goto 8, 3) := by decide +kernel
theorem dX10_live_137 : decode cX10_live 137 = .ok (.aload_n 0, 1) := by decide +kernel
theorem dX10_live_138 : decode cX10_live 138 = .ok (.iload_n 2, 1) := by decide +kernel
theorem dX10_live_139 : decode cX10_live 139 = .ok (.invokevirtual 108, 3) := by decide +kernel
theorem dX10_live_142 : decode cX10_live 142 = .ok (.istore 5, 2) := by decide +kernel
theorem dX10_live_144 : decode cX10_live 144 = .ok (.iload 5, 2) := by decide +kernel
theorem dX10_live_146 : decode cX10_live 146 = .ok (.iconst (-1), 1) := by decide +kernel
theorem dX10_live_147 : decode cX10_live 147 = .ok (.if_icmp .eq 13, 3) := by decide +kernel
theorem dX10_live_150 : decode cX10_live 150 = .ok (.aload_n 0, 1) := by decide +kernel
theorem dX10_live_151 : decode cX10_live 151 = .ok (.iload_n 2, 1) := by decide +kernel
theorem dX10_live_152 : decode cX10_live 152 = .ok (.iload_n 3, 1) := by decide +kernel
theorem dX10_live_153 : decode cX10_live 153 = .ok (.iload 5, 2) := by decide +kernel
theorem dX10_live_155 : decode cX10_live 155 = .ok (.iload 4, 2) := by decide +kernel
theorem dX10_live_157 : decode cX10_live 157 = .ok (.invokevirtual 111, 3) := by decide +kernel
theorem dX10_live_160 : decode cX10_live 160 = .ok (.iinc 3 1, 3) := by decide +kernel
theorem dX10_live_163 : decode cX10_live 163 = .ok (.goto (-92), 3) := by decide +kernel
theorem dX10_live_166 : decode cX10_live 166 = .ok (.iinc 2 1, 3) := by decide +kernel
theorem dX10_live_169 : decode cX10_live 169 = .ok (.goto (-111), 3) := by decide +kernel
theorem dX10_live_172 : decode cX10_live 172 = .ok (.aload_n 0, 1) := by decide +kernel
theorem dX10_live_173 : decode cX10_live 173 = .ok (.iload_n 1, 1) := by decide +kernel
theorem dX10_live_174 : decode cX10_live 174 = .ok (.putfield 36, 3) := by decide +kernel
theorem dX10_live_177 : decode cX10_live 177 = .ok (.return_, 1) := by decide +kernel
theorem dX10_luckiest_0 : decode cX10_luckiest 0 = .ok (.iconst (-1), 1) := by decide +kernel
theorem dX10_luckiest_1 : decode cX10_luckiest 1 = .ok (.istore_n 1, 1) := by decide +kernel
theorem dX10_luckiest_2 : decode cX10_luckiest 2 = .ok (.iconst 0, 1) := by decide +kernel
theorem dX10_luckiest_3 : decode cX10_luckiest 3 = .ok (.istore_n 2, 1) := by decide +kernel
theorem dX10_luckiest_4 : decode cX10_luckiest 4 = .ok (.iconst 0, 1) := by decide +kernel
theorem dX10_luckiest_5 : decode cX10_luckiest 5 = .ok (.istore_n 3, 1) := by decide +kernel
theorem dX10_luckiest_6 : decode cX10_luckiest 6 = .ok (.iload_n 3, 1) := by decide +kernel
theorem dX10_luckiest_7 : decode cX10_luckiest 7 = .ok (.bipush 10, 2) := by decide +kernel
theorem dX10_luckiest_9 : decode cX10_luckiest 9 = .ok (.if_icmp .ge 28, 3) := by decide +kernel
theorem dX10_luckiest_12 : decode cX10_luckiest 12 = .ok (.aload_n 0, 1) := by decide +kernel
theorem dX10_luckiest_13 : decode cX10_luckiest 13 = .ok (.getfield 33, 3) := by decide +kernel
theorem dX10_luckiest_16 : decode cX10_luckiest 16 = .ok (.iload_n 3, 1) := by decide +kernel
theorem dX10_luckiest_17 : decode cX10_luckiest 17 = .ok (.iaload, 1) := by decide +kernel
theorem dX10_luckiest_18 : decode cX10_luckiest 18 = .ok (.iload_n 2, 1) := by decide +kernel
theorem dX10_luckiest_19 : decode cX10_luckiest 19 = .ok (.if_icmp .le 12, 3) := by decide +kernel
theorem dX10_luckiest_22 : decode cX10_luckiest 22 = .ok (.aload_n 0, 1) := by decide +kernel
theorem dX10_luckiest_23 : decode cX10_luckiest 23 = .ok (.getfield 33, 3) := by decide +kernel
theorem dX10_luckiest_26 : decode cX10_luckiest 26 = .ok (.iload_n 3, 1) := by decide +kernel
theorem dX10_luckiest_27 : decode cX10_luckiest 27 = .ok (.iaload, 1) := by decide +kernel
theorem dX10_luckiest_28 : decode cX10_luckiest 28 = .ok (.istore_n 2, 1) := by decide +kernel
theorem dX10_luckiest_29 : decode cX10_luckiest 29 = .ok (.iload_n 3, 1) := by decide +kernel
theorem dX10_luckiest_30 : decode cX10_luckiest 30 = .ok (.istore_n 1, 1) := by decide +kernel
theorem dX10_luckiest_31 : decode cX10_luckiest 31 = .ok (.iinc 3 1, 3) := by decide +kernel
theorem dX10_luckiest_34 : decode cX10_luckiest 34 = .ok (.goto (-28), 3) := by decide +kernel
theorem dX10_luckiest_37 : decode cX10_luckiest 37 = .ok (.iload_n 1, 1) := by decide +kernel
theorem dX10_luckiest_38 : decode cX10_luckiest 38 = .ok (.ireturn, 1) := by decide +kernel
theorem dX10_partOf_0 : decode cX10_partOf 0 = .ok (.aload_n 0, 1) := by decide +kernel
theorem dX10_partOf_1 : decode cX10_partOf 1 = .ok (.getfield 27, 3) := by decide +kernel
theorem dX10_partOf_4 : decode cX10_partOf 4 = .ok (.iload_n 1, 1) := by decide +kernel
theorem dX10_partOf_5 : decode cX10_partOf 5 = .ok (.iaload, 1) := by decide +kernel
theorem dX10_partOf_6 : decode cX10_partOf 6 = .ok (.istore_n 3, 1) := by decide +kernel
theorem dX10_partOf_7 : decode cX10_partOf 7 = .ok (.iload_n 2, 1) := by decide +kernel
theorem dX10_partOf_8 : decode cX10_partOf 8 = .ok (.tableswitch 72 0 4 #[36, 40, 48, 56, 64], 36) := by decide +kernel
theorem dX10_partOf_44 : decode cX10_partOf 44 = .ok (.iload_n 3, 1) := by decide +kernel
theorem dX10_partOf_45 : decode cX10_partOf 45 = .ok (.iconst 1, 1) := by decide +kernel
theorem dX10_partOf_46 : decode cX10_partOf 46 = .ok (.iand, 1) := by decide +kernel
theorem dX10_partOf_47 : decode cX10_partOf 47 = .ok (.ireturn, 1) := by decide +kernel
theorem dX10_partOf_48 : decode cX10_partOf 48 = .ok (.iload_n 3, 1) := by decide +kernel
theorem dX10_partOf_49 : decode cX10_partOf 49 = .ok (.iconst 1, 1) := by decide +kernel
theorem dX10_partOf_50 : decode cX10_partOf 50 = .ok (.ishr, 1) := by decide +kernel
theorem dX10_partOf_51 : decode cX10_partOf 51 = .ok (.sipush 255, 3) := by decide +kernel
theorem dX10_partOf_54 : decode cX10_partOf 54 = .ok (.iand, 1) := by decide +kernel
theorem dX10_partOf_55 : decode cX10_partOf 55 = .ok (.ireturn, 1) := by decide +kernel
theorem dX10_partOf_56 : decode cX10_partOf 56 = .ok (.iload_n 3, 1) := by decide +kernel
theorem dX10_partOf_57 : decode cX10_partOf 57 = .ok (.bipush 9, 2) := by decide +kernel
theorem dX10_partOf_59 : decode cX10_partOf 59 = .ok (.ishr, 1) := by decide +kernel
theorem dX10_partOf_60 : decode cX10_partOf 60 = .ok (.bipush 15, 2) := by decide +kernel
theorem dX10_partOf_62 : decode cX10_partOf 62 = .ok (.iand, 1) := by decide +kernel
theorem dX10_partOf_63 : decode cX10_partOf 63 = .ok (.ireturn, 1) := by decide +kernel
theorem dX10_partOf_64 : decode cX10_partOf 64 = .ok (.iload_n 3, 1) := by decide +kernel
theorem dX10_partOf_65 : decode cX10_partOf 65 = .ok (.bipush 13, 2) := by decide +kernel
theorem dX10_partOf_67 : decode cX10_partOf 67 = .ok (.ishr, 1) := by decide +kernel
theorem dX10_partOf_68 : decode cX10_partOf 68 = .ok (.bipush 15, 2) := by decide +kernel
theorem dX10_partOf_70 : decode cX10_partOf 70 = .ok (.iand, 1) := by decide +kernel
theorem dX10_partOf_71 : decode cX10_partOf 71 = .ok (.ireturn, 1) := by decide +kernel
theorem dX10_partOf_72 : decode cX10_partOf 72 = .ok (.iload_n 3, 1) := by decide +kernel
theorem dX10_partOf_73 : decode cX10_partOf 73 = .ok (.bipush 17, 2) := by decide +kernel
theorem dX10_partOf_75 : decode cX10_partOf 75 = .ok (.ishr, 1) := by decide +kernel
theorem dX10_partOf_76 : decode cX10_partOf 76 = .ok (.bipush 127, 2) := by decide +kernel
theorem dX10_partOf_78 : decode cX10_partOf 78 = .ok (.iand, 1) := by decide +kernel
theorem dX10_partOf_79 : decode cX10_partOf 79 = .ok (.ireturn, 1) := by decide +kernel
theorem dX10_partOf_80 : decode cX10_partOf 80 = .ok (.iload_n 3, 1) := by decide +kernel
theorem dX10_partOf_81 : decode cX10_partOf 81 = .ok (.bipush 24, 2) := by decide +kernel
theorem dX10_partOf_83 : decode cX10_partOf 83 = .ok (.ishr, 1) := by decide +kernel
theorem dX10_partOf_84 : decode cX10_partOf 84 = .ok (.iconst 3, 1) := by decide +kernel
theorem dX10_partOf_85 : decode cX10_partOf 85 = .ok (.iand, 1) := by decide +kernel
theorem dX10_partOf_86 : decode cX10_partOf 86 = .ok (.ireturn, 1) := by decide +kernel
theorem dX10_putOne_0 : decode cX10_putOne 0 = .ok (.aload_n 0, 1) := by decide +kernel
theorem dX10_putOne_1 : decode cX10_putOne 1 = .ok (.getfield 47, 3) := by decide +kernel
theorem dX10_putOne_4 : decode cX10_putOne 4 = .ok (.getfield 138, 3) := by decide +kernel
theorem dX10_putOne_7 : decode cX10_putOne 7 = .ok (.iload_n 1, 1) := by decide +kernel
theorem dX10_putOne_8 : decode cX10_putOne 8 = .ok (.iaload, 1) := by decide +kernel
theorem dX10_putOne_9 : decode cX10_putOne 9 = .ok (.i2l, 1) := by decide +kernel
theorem dX10_putOne_10 : decode cX10_putOne 10 = .ok (.iload_n 2, 1) := by decide +kernel
theorem dX10_putOne_11 : decode cX10_putOne 11 = .ok (.invokestatic 58, 3) := by decide +kernel
theorem dX10_putOne_14 : decode cX10_putOne 14 = .ok (.ifCond .ne 4, 3) := by decide +kernel
theorem dX10_putOne_17 : decode cX10_putOne 17 = .ok (.return_, 1) := by decide +kernel
theorem dX10_putOne_18 : decode cX10_putOne 18 = .ok (.aload_n 0, 1) := by decide +kernel
theorem dX10_putOne_19 : decode cX10_putOne 19 = .ok (.getfield 47, 3) := by decide +kernel
theorem dX10_putOne_22 : decode cX10_putOne 22 = .ok (.getfield 101, 3) := by decide +kernel
theorem dX10_putOne_25 : decode cX10_putOne 25 = .ok (.iload_n 1, 1) := by decide +kernel
theorem dX10_putOne_26 : decode cX10_putOne 26 = .ok (.iaload, 1) := by decide +kernel
theorem dX10_putOne_27 : decode cX10_putOne 27 = .ok (.istore_n 3, 1) := by decide +kernel
theorem dX10_putOne_28 : decode cX10_putOne 28 = .ok (.aload_n 0, 1) := by decide +kernel
theorem dX10_putOne_29 : decode cX10_putOne 29 = .ok (.invokevirtual 130, 3) := by decide +kernel
theorem dX10_putOne_32 : decode cX10_putOne 32 = .ok (.aload_n 0, 1) := by decide +kernel
theorem dX10_putOne_33 : decode cX10_putOne 33 = .ok (.getfield 15, 3) := by decide +kernel
theorem dX10_putOne_36 : decode cX10_putOne 36 = .ok (.aload_n 0, 1) := by decide +kernel
theorem dX10_putOne_37 : decode cX10_putOne 37 = .ok (.getfield 47, 3) := by decide +kernel
theorem dX10_putOne_40 : decode cX10_putOne 40 = .ok (.getfield 141, 3) := by decide +kernel
theorem dX10_putOne_43 : decode cX10_putOne 43 = .ok (.iload_n 1, 1) := by decide +kernel
theorem dX10_putOne_44 : decode cX10_putOne 44 = .ok (.iaload, 1) := by decide +kernel
theorem dX10_putOne_45 : decode cX10_putOne 45 = .ok (.iaload, 1) := by decide +kernel
theorem dX10_putOne_46 : decode cX10_putOne 46 = .ok (.if_icmp .ge 55, 3) := by decide +kernel
theorem dX10_putOne_49 : decode cX10_putOne 49 = .ok (.aload_n 0, 1) := by decide +kernel
theorem dX10_putOne_50 : decode cX10_putOne 50 = .ok (.getfield 24, 3) := by decide +kernel
theorem dX10_putOne_53 : decode cX10_putOne 53 = .ok (.iload_n 3, 1) := by decide +kernel
theorem dX10_putOne_54 : decode cX10_putOne 54 = .ok (.iaload, 1) := by decide +kernel
theorem dX10_putOne_55 : decode cX10_putOne 55 = .ok (.bipush 9, 2) := by decide +kernel
theorem dX10_putOne_57 : decode cX10_putOne 57 = .ok (.if_icmp .ge 44, 3) := by decide +kernel
theorem dX10_putOne_60 : decode cX10_putOne 60 = .ok (.aload_n 0, 1) := by decide +kernel
theorem dX10_putOne_61 : decode cX10_putOne 61 = .ok (.iload_n 3, 1) := by decide +kernel
theorem dX10_putOne_62 : decode cX10_putOne 62 = .ok (.invokevirtual 144, 3) := by decide +kernel
theorem dX10_putOne_65 : decode cX10_putOne 65 = .ok (.istore 4, 2) := by decide +kernel
theorem dX10_putOne_67 : decode cX10_putOne 67 = .ok (.iload 4, 2) := by decide +kernel
theorem dX10_putOne_69 : decode cX10_putOne 69 = .ok (.iconst (-1), 1) := by decide +kernel
theorem dX10_putOne_70 : decode cX10_putOne 70 = .ok (.if_icmp .eq 31, 3) := by decide +kernel
theorem dX10_putOne_73 : decode cX10_putOne 73 = .ok (.aload_n 0, 1) := by decide +kernel
theorem dX10_putOne_74 : decode cX10_putOne 74 = .ok (.getfield 21, 3) := by decide +kernel
theorem dX10_putOne_77 : decode cX10_putOne 77 = .ok (.iload_n 3, 1) := by decide +kernel
theorem dX10_putOne_78 : decode cX10_putOne 78 = .ok (.bipush 9, 2) := by decide +kernel
theorem dX10_putOne_80 : decode cX10_putOne 80 = .ok (.imul, 1) := by decide +kernel
theorem dX10_putOne_81 : decode cX10_putOne 81 = .ok (.aload_n 0, 1) := by decide +kernel
theorem dX10_putOne_82 : decode cX10_putOne 82 = .ok (.getfield 24, 3) := by decide +kernel
theorem dX10_putOne_85 : decode cX10_putOne 85 = .ok (.iload_n 3, 1) := by decide +kernel
theorem dX10_putOne_86 : decode cX10_putOne 86 = .ok (.iaload, 1) := by decide +kernel
theorem dX10_putOne_87 : decode cX10_putOne 87 = .ok (.iadd, 1) := by decide +kernel
theorem dX10_putOne_88 : decode cX10_putOne 88 = .ok (.iload 4, 2) := by decide +kernel
theorem dX10_putOne_90 : decode cX10_putOne 90 = .ok (.iastore, 1) := by decide +kernel
theorem dX10_putOne_91 : decode cX10_putOne 91 = .ok (.aload_n 0, 1) := by decide +kernel
theorem dX10_putOne_92 : decode cX10_putOne 92 = .ok (.getfield 24, 3) := by decide +kernel
theorem dX10_putOne_95 : decode cX10_putOne 95 = .ok (.iload_n 3, 1) := by decide +kernel
theorem dX10_putOne_96 : decode cX10_putOne 96 = .ok (.dup2, 1) := by decide +kernel
theorem dX10_putOne_97 : decode cX10_putOne 97 = .ok (.iaload, 1) := by decide +kernel
theorem dX10_putOne_98 : decode cX10_putOne 98 = .ok (.iconst 1, 1) := by decide +kernel
theorem dX10_putOne_99 : decode cX10_putOne 99 = .ok (.iadd, 1) := by decide +kernel
theorem dX10_putOne_100 : decode cX10_putOne 100 = .ok (.iastore, 1) := by decide +kernel
theorem dX10_putOne_101 : decode cX10_putOne 101 = .ok (.return_, 1) := by decide +kernel
theorem dX10_seekLain_0 : decode cX10_seekLain 0 = .ok (.aload_n 0, 1) := by decide +kernel
theorem dX10_seekLain_1 : decode cX10_seekLain 1 = .ok (.aload_n 0, 1) := by decide +kernel
theorem dX10_seekLain_2 : decode cX10_seekLain 2 = .ok (.getfield 47, 3) := by decide +kernel
theorem dX10_seekLain_5 : decode cX10_seekLain 5 = .ok (.getfield 101, 3) := by decide +kernel
theorem dX10_seekLain_8 : decode cX10_seekLain 8 = .ok (.iload_n 1, 1) := by decide +kernel
theorem dX10_seekLain_9 : decode cX10_seekLain 9 = .ok (.iaload, 1) := by decide +kernel
theorem dX10_seekLain_10 : decode cX10_seekLain 10 = .ok (.invokevirtual 144, 3) := by decide +kernel
theorem dX10_seekLain_13 : decode cX10_seekLain 13 = .ok (.istore_n 2, 1) := by decide +kernel
theorem dX10_seekLain_14 : decode cX10_seekLain 14 = .ok (.iload_n 2, 1) := by decide +kernel
theorem dX10_seekLain_15 : decode cX10_seekLain 15 = .ok (.iconst (-1), 1) := by decide +kernel
theorem dX10_seekLain_16 : decode cX10_seekLain 16 = .ok (.if_icmp .ne 5, 3) := by decide +kernel
theorem dX10_seekLain_19 : decode cX10_seekLain 19 = .ok (.iconst (-1), 1) := by decide +kernel
theorem dX10_seekLain_20 : decode cX10_seekLain 20 = .ok (.ireturn, 1) := by decide +kernel
theorem dX10_seekLain_21 : decode cX10_seekLain 21 = .ok (.aload_n 0, 1) := by decide +kernel
theorem dX10_seekLain_22 : decode cX10_seekLain 22 = .ok (.invokevirtual 130, 3) := by decide +kernel
theorem dX10_seekLain_25 : decode cX10_seekLain 25 = .ok (.aload_n 0, 1) := by decide +kernel
theorem dX10_seekLain_26 : decode cX10_seekLain 26 = .ok (.getfield 43, 3) := by decide +kernel
theorem dX10_seekLain_29 : decode cX10_seekLain 29 = .ok (.getfield 150, 3) := by decide +kernel
theorem dX10_seekLain_32 : decode cX10_seekLain 32 = .ok (.aload_n 0, 1) := by decide +kernel
theorem dX10_seekLain_33 : decode cX10_seekLain 33 = .ok (.getfield 47, 3) := by decide +kernel
theorem dX10_seekLain_36 : decode cX10_seekLain 36 = .ok (.getfield 101, 3) := by decide +kernel
theorem dX10_seekLain_39 : decode cX10_seekLain 39 = .ok (.iload_n 1, 1) := by decide +kernel
theorem dX10_seekLain_40 : decode cX10_seekLain 40 = .ok (.iaload, 1) := by decide +kernel
theorem dX10_seekLain_41 : decode cX10_seekLain 41 = .ok (.bipush 10, 2) := by decide +kernel
theorem dX10_seekLain_43 : decode cX10_seekLain 43 = .ok (.imul, 1) := by decide +kernel
theorem dX10_seekLain_44 : decode cX10_seekLain 44 = .ok (.iload_n 2, 1) := by decide +kernel
theorem dX10_seekLain_45 : decode cX10_seekLain 45 = .ok (.iadd, 1) := by decide +kernel
theorem dX10_seekLain_46 : decode cX10_seekLain 46 = .ok (.iaload, 1) := by decide +kernel
theorem dX10_seekLain_47 : decode cX10_seekLain 47 = .ok (.if_icmp .ge 7, 3) := by decide +kernel
theorem dX10_seekLain_50 : decode cX10_seekLain 50 = .ok (.iconst 1, 1) := by decide +kernel
theorem dX10_seekLain_51 : decode cX10_seekLain 51 = .ok (.goto 4, 3) := by decide +kernel
theorem dX10_seekLain_54 : decode cX10_seekLain 54 = .ok (.iconst 0, 1) := by decide +kernel
theorem dX10_seekLain_55 : decode cX10_seekLain 55 = .ok (.istore_n 3, 1) := by decide +kernel
theorem dX10_seekLain_56 : decode cX10_seekLain 56 = .ok (.aload_n 0, 1) := by decide +kernel
theorem dX10_seekLain_57 : decode cX10_seekLain 57 = .ok (.invokevirtual 130, 3) := by decide +kernel
theorem dX10_seekLain_60 : decode cX10_seekLain 60 = .ok (.aload_n 0, 1) := by decide +kernel
theorem dX10_seekLain_61 : decode cX10_seekLain 61 = .ok (.getfield 11, 3) := by decide +kernel
theorem dX10_seekLain_64 : decode cX10_seekLain 64 = .ok (.aload_n 0, 1) := by decide +kernel
theorem dX10_seekLain_65 : decode cX10_seekLain 65 = .ok (.getfield 47, 3) := by decide +kernel
theorem dX10_seekLain_68 : decode cX10_seekLain 68 = .ok (.getfield 141, 3) := by decide +kernel
theorem dX10_seekLain_71 : decode cX10_seekLain 71 = .ok (.iload_n 1, 1) := by decide +kernel
theorem dX10_seekLain_72 : decode cX10_seekLain 72 = .ok (.iaload, 1) := by decide +kernel
theorem dX10_seekLain_73 : decode cX10_seekLain 73 = .ok (.iaload, 1) := by decide +kernel
theorem dX10_seekLain_74 : decode cX10_seekLain 74 = .ok (.if_icmp .ge 7, 3) := by decide +kernel
theorem dX10_seekLain_77 : decode cX10_seekLain 77 = .ok (.iconst 1, 1) := by decide +kernel
theorem dX10_seekLain_78 : decode cX10_seekLain 78 = .ok (.goto 4, 3) := by decide +kernel
theorem dX10_seekLain_81 : decode cX10_seekLain 81 = .ok (.iconst 0, 1) := by decide +kernel
theorem dX10_seekLain_82 : decode cX10_seekLain 82 = .ok (.istore 4, 2) := by decide +kernel
theorem dX10_seekLain_84 : decode cX10_seekLain 84 = .ok (.iload_n 3, 1) := by decide +kernel
theorem dX10_seekLain_85 : decode cX10_seekLain 85 = .ok (.ifCond .eq 12, 3) := by decide +kernel
theorem dX10_seekLain_88 : decode cX10_seekLain 88 = .ok (.iload 4, 2) := by decide +kernel
theorem dX10_seekLain_90 : decode cX10_seekLain 90 = .ok (.ifCond .eq 7, 3) := by decide +kernel
theorem dX10_seekLain_93 : decode cX10_seekLain 93 = .ok (.iload_n 2, 1) := by decide +kernel
theorem dX10_seekLain_94 : decode cX10_seekLain 94 = .ok (.goto 4, 3) := by decide +kernel
theorem dX10_seekLain_97 : decode cX10_seekLain 97 = .ok (.iconst (-1), 1) := by decide +kernel
theorem dX10_seekLain_98 : decode cX10_seekLain 98 = .ok (.ireturn, 1) := by decide +kernel
theorem dX10_seekPut_0 : decode cX10_seekPut 0 = .ok (.aload_n 0, 1) := by decide +kernel
theorem dX10_seekPut_1 : decode cX10_seekPut 1 = .ok (.invokevirtual 130, 3) := by decide +kernel
theorem dX10_seekPut_4 : decode cX10_seekPut 4 = .ok (.aload_n 0, 1) := by decide +kernel
theorem dX10_seekPut_5 : decode cX10_seekPut 5 = .ok (.getfield 11, 3) := by decide +kernel
theorem dX10_seekPut_8 : decode cX10_seekPut 8 = .ok (.aload_n 0, 1) := by decide +kernel
theorem dX10_seekPut_9 : decode cX10_seekPut 9 = .ok (.getfield 47, 3) := by decide +kernel
theorem dX10_seekPut_12 : decode cX10_seekPut 12 = .ok (.getfield 141, 3) := by decide +kernel
theorem dX10_seekPut_15 : decode cX10_seekPut 15 = .ok (.iload_n 1, 1) := by decide +kernel
theorem dX10_seekPut_16 : decode cX10_seekPut 16 = .ok (.iaload, 1) := by decide +kernel
theorem dX10_seekPut_17 : decode cX10_seekPut 17 = .ok (.iaload, 1) := by decide +kernel
theorem dX10_seekPut_18 : decode cX10_seekPut 18 = .ok (.if_icmp .ge 19, 3) := by decide +kernel
theorem dX10_seekPut_21 : decode cX10_seekPut 21 = .ok (.aload_n 0, 1) := by decide +kernel
theorem dX10_seekPut_22 : decode cX10_seekPut 22 = .ok (.aload_n 0, 1) := by decide +kernel
theorem dX10_seekPut_23 : decode cX10_seekPut 23 = .ok (.getfield 47, 3) := by decide +kernel
theorem dX10_seekPut_26 : decode cX10_seekPut 26 = .ok (.getfield 101, 3) := by decide +kernel
theorem dX10_seekPut_29 : decode cX10_seekPut 29 = .ok (.iload_n 1, 1) := by decide +kernel
theorem dX10_seekPut_30 : decode cX10_seekPut 30 = .ok (.iaload, 1) := by decide +kernel
theorem dX10_seekPut_31 : decode cX10_seekPut 31 = .ok (.invokevirtual 147, 3) := by decide +kernel
theorem dX10_seekPut_34 : decode cX10_seekPut 34 = .ok (.goto 4, 3) := by decide +kernel
theorem dX10_seekPut_37 : decode cX10_seekPut 37 = .ok (.iconst (-1), 1) := by decide +kernel
theorem dX10_seekPut_38 : decode cX10_seekPut 38 = .ok (.ireturn, 1) := by decide +kernel
theorem dX10_take_0 : decode cX10_take 0 = .ok (.iconst 0, 1) := by decide +kernel
theorem dX10_take_1 : decode cX10_take 1 = .ok (.istore 5, 2) := by decide +kernel
theorem dX10_take_3 : decode cX10_take 3 = .ok (.iconst 0, 1) := by decide +kernel
theorem dX10_take_4 : decode cX10_take 4 = .ok (.istore 6, 2) := by decide +kernel
theorem dX10_take_6 : decode cX10_take 6 = .ok (.iload 6, 2) := by decide +kernel
theorem dX10_take_8 : decode cX10_take 8 = .ok (.bipush 8, 2) := by decide +kernel
theorem dX10_take_10 : decode cX10_take 10 = .ok (.if_icmp .ge 45, 3) := by decide +kernel
theorem dX10_take_13 : decode cX10_take 13 = .ok (.aload_n 0, 1) := by decide +kernel
theorem dX10_take_14 : decode cX10_take 14 = .ok (.invokevirtual 130, 3) := by decide +kernel
theorem dX10_take_17 : decode cX10_take 17 = .ok (.aload_n 0, 1) := by decide +kernel
theorem dX10_take_18 : decode cX10_take 18 = .ok (.getfield 18, 3) := by decide +kernel
theorem dX10_take_21 : decode cX10_take 21 = .ok (.iload 4, 2) := by decide +kernel
theorem dX10_take_23 : decode cX10_take 23 = .ok (.ifCond .eq 11, 3) := by decide +kernel
theorem dX10_take_26 : decode cX10_take 26 = .ok (.bipush 8, 2) := by decide +kernel
theorem dX10_take_28 : decode cX10_take 28 = .ok (.iload 6, 2) := by decide +kernel
theorem dX10_take_30 : decode cX10_take 30 = .ok (.iadd, 1) := by decide +kernel
theorem dX10_take_31 : decode cX10_take 31 = .ok (.goto 5, 3) := by decide +kernel
theorem dX10_take_34 : decode cX10_take 34 = .ok (.iload 6, 2) := by decide +kernel
theorem dX10_take_36 : decode cX10_take 36 = .ok (.iaload, 1) := by decide +kernel
theorem dX10_take_37 : decode cX10_take 37 = .ok (.if_icmp .ge 12, 3) := by decide +kernel
theorem dX10_take_40 : decode cX10_take 40 = .ok (.iload 5, 2) := by decide +kernel
theorem dX10_take_42 : decode cX10_take 42 = .ok (.iconst 1, 1) := by decide +kernel
theorem dX10_take_43 : decode cX10_take 43 = .ok (.iload 6, 2) := by decide +kernel
theorem dX10_take_45 : decode cX10_take 45 = .ok (.ishl, 1) := by decide +kernel
theorem dX10_take_46 : decode cX10_take 46 = .ok (.ior, 1) := by decide +kernel
theorem dX10_take_47 : decode cX10_take 47 = .ok (.istore 5, 2) := by decide +kernel
theorem dX10_take_49 : decode cX10_take 49 = .ok (.iinc 6 1, 3) := by decide +kernel
theorem dX10_take_52 : decode cX10_take 52 = .ok (.goto (-46), 3) := by decide +kernel
theorem dX10_take_55 : decode cX10_take 55 = .ok (.aload_n 0, 1) := by decide +kernel
theorem dX10_take_56 : decode cX10_take 56 = .ok (.invokevirtual 130, 3) := by decide +kernel
theorem dX10_take_59 : decode cX10_take 59 = .ok (.istore 6, 2) := by decide +kernel
theorem dX10_take_61 : decode cX10_take 61 = .ok (.iload 6, 2) := by decide +kernel
theorem dX10_take_63 : decode cX10_take 63 = .ok (.bipush 10, 2) := by decide +kernel
theorem dX10_take_65 : decode cX10_take 65 = .ok (.imul, 1) := by decide +kernel
theorem dX10_take_66 : decode cX10_take 66 = .ok (.aload_n 0, 1) := by decide +kernel
theorem dX10_take_67 : decode cX10_take 67 = .ok (.invokevirtual 130, 3) := by decide +kernel
theorem dX10_take_70 : decode cX10_take 70 = .ok (.iadd, 1) := by decide +kernel
theorem dX10_take_71 : decode cX10_take 71 = .ok (.istore 7, 2) := by decide +kernel
theorem dX10_take_73 : decode cX10_take 73 = .ok (.aload_n 0, 1) := by decide +kernel
theorem dX10_take_74 : decode cX10_take 74 = .ok (.getfield 51, 3) := by decide +kernel
theorem dX10_take_77 : decode cX10_take 77 = .ok (.iload_n 1, 1) := by decide +kernel
theorem dX10_take_78 : decode cX10_take 78 = .ok (.iload_n 2, 1) := by decide +kernel
theorem dX10_take_79 : decode cX10_take 79 = .ok (.iload_n 3, 1) := by decide +kernel
theorem dX10_take_80 : decode cX10_take 80 = .ok (.iload 5, 2) := by decide +kernel
theorem dX10_take_82 : decode cX10_take 82 = .ok (.iload 7, 2) := by decide +kernel
theorem dX10_take_84 : decode cX10_take 84 = .ok (.aload_n 0, 1) := by decide +kernel
theorem dX10_take_85 : decode cX10_take 85 = .ok (.getfield 84, 3) := by decide +kernel
theorem dX10_take_88 : decode cX10_take 88 = .ok (.invokevirtual 153, 3) := by decide +kernel
theorem dX10_take_91 : decode cX10_take 91 = .ok (.istore 8, 2) := by decide +kernel
theorem dX10_take_93 : decode cX10_take 93 = .ok (.aload_n 0, 1) := by decide +kernel
theorem dX10_take_94 : decode cX10_take 94 = .ok (.getfield 47, 3) := by decide +kernel
theorem dX10_take_97 : decode cX10_take 97 = .ok (.getfield 141, 3) := by decide +kernel
theorem dX10_take_100 : decode cX10_take 100 = .ok (.iload_n 1, 1) := by decide +kernel
theorem dX10_take_101 : decode cX10_take 101 = .ok (.iaload, 1) := by decide +kernel
theorem dX10_take_102 : decode cX10_take 102 = .ok (.istore 9, 2) := by decide +kernel
theorem dX10_take_104 : decode cX10_take 104 = .ok (.aload_n 0, 1) := by decide +kernel
theorem dX10_take_105 : decode cX10_take 105 = .ok (.aload_n 0, 1) := by decide +kernel
theorem dX10_take_106 : decode cX10_take 106 = .ok (.getfield 84, 3) := by decide +kernel
theorem dX10_take_109 : decode cX10_take 109 = .ok (.aload_n 0, 1) := by decide +kernel
theorem dX10_take_110 : decode cX10_take 110 = .ok (.getfield 43, 3) := by decide +kernel
theorem dX10_take_113 : decode cX10_take 113 = .ok (.aload_n 0, 1) := by decide +kernel
theorem dX10_take_114 : decode cX10_take 114 = .ok (.getfield 47, 3) := by decide +kernel
theorem dX10_take_117 : decode cX10_take 117 = .ok (.getfield 101, 3) := by decide +kernel
theorem dX10_take_120 : decode cX10_take 120 = .ok (.iload_n 1, 1) := by decide +kernel
theorem dX10_take_121 : decode cX10_take 121 = .ok (.iaload, 1) := by decide +kernel
theorem dX10_take_122 : decode cX10_take 122 = .ok (.iload_n 3, 1) := by decide +kernel
theorem dX10_take_123 : decode cX10_take 123 = .ok (.invokevirtual 159, 3) := by decide +kernel
theorem dX10_take_126 : decode cX10_take 126 = .ok (.invokestatic 162, 3) := by decide +kernel
theorem dX10_take_129 : decode cX10_take 129 = .ok (.putfield 84, 3) := by decide +kernel
theorem dX10_take_132 : decode cX10_take 132 = .ok (.aload_n 0, 1) := by decide +kernel
theorem dX10_take_133 : decode cX10_take 133 = .ok (.getfield 33, 3) := by decide +kernel
theorem dX10_take_136 : decode cX10_take 136 = .ok (.iload 9, 2) := by decide +kernel
theorem dX10_take_138 : decode cX10_take 138 = .ok (.dup2, 1) := by decide +kernel
theorem dX10_take_139 : decode cX10_take 139 = .ok (.iaload, 1) := by decide +kernel
theorem dX10_take_140 : decode cX10_take 140 = .ok (.iconst 1, 1) := by decide +kernel
theorem dX10_take_141 : decode cX10_take 141 = .ok (.iadd, 1) := by decide +kernel
theorem dX10_take_142 : decode cX10_take 142 = .ok (.iastore, 1) := by decide +kernel
theorem dX10_take_143 : decode cX10_take 143 = .ok (.aload_n 0, 1) := by decide +kernel
theorem dX10_take_144 : decode cX10_take 144 = .ok (.iload 5, 2) := by decide +kernel
theorem dX10_take_146 : decode cX10_take 146 = .ok (.iload 8, 2) := by decide +kernel
theorem dX10_take_148 : decode cX10_take 148 = .ok (.iload 4, 2) := by decide +kernel
theorem dX10_take_150 : decode cX10_take 150 = .ok (.invokevirtual 167, 3) := by decide +kernel
theorem dX10_take_153 : decode cX10_take 153 = .ok (.aload_n 0, 1) := by decide +kernel
theorem dX10_take_154 : decode cX10_take 154 = .ok (.getfield 81, 3) := by decide +kernel
theorem dX10_take_157 : decode cX10_take 157 = .ok (.aload_n 0, 1) := by decide +kernel
theorem dX10_take_158 : decode cX10_take 158 = .ok (.getfield 27, 3) := by decide +kernel
theorem dX10_take_161 : decode cX10_take 161 = .ok (.arraylength, 1) := by decide +kernel
theorem dX10_take_162 : decode cX10_take 162 = .ok (.if_icmp .ge 60, 3) := by decide +kernel
theorem dX10_take_165 : decode cX10_take 165 = .ok (.aload_n 0, 1) := by decide +kernel
theorem dX10_take_166 : decode cX10_take 166 = .ok (.getfield 27, 3) := by decide +kernel
theorem dX10_take_169 : decode cX10_take 169 = .ok (.aload_n 0, 1) := by decide +kernel
theorem dX10_take_170 : decode cX10_take 170 = .ok (.getfield 81, 3) := by decide +kernel
theorem dX10_take_173 : decode cX10_take 173 = .ok (.iload 4, 2) := by decide +kernel
theorem dX10_take_175 : decode cX10_take 175 = .ok (.ifCond .eq 7, 3) := by decide +kernel
theorem dX10_take_178 : decode cX10_take 178 = .ok (.iconst 1, 1) := by decide +kernel
theorem dX10_take_179 : decode cX10_take 179 = .ok (.goto 4, 3) := by decide +kernel
theorem dX10_take_182 : decode cX10_take 182 = .ok (.iconst 0, 1) := by decide +kernel
theorem dX10_take_183 : decode cX10_take 183 = .ok (.iload 5, 2) := by decide +kernel
theorem dX10_take_185 : decode cX10_take 185 = .ok (.iconst 1, 1) := by decide +kernel
theorem dX10_take_186 : decode cX10_take 186 = .ok (.ishl, 1) := by decide +kernel
theorem dX10_take_187 : decode cX10_take 187 = .ok (.ior, 1) := by decide +kernel
theorem dX10_take_188 : decode cX10_take 188 = .ok (.iload_n 3, 1) := by decide +kernel
theorem dX10_take_189 : decode cX10_take 189 = .ok (.bipush 9, 2) := by decide +kernel
theorem dX10_take_191 : decode cX10_take 191 = .ok (.ishl, 1) := by decide +kernel
theorem dX10_take_192 : decode cX10_take 192 = .ok (.ior, 1) := by decide +kernel
theorem dX10_take_193 : decode cX10_take 193 = .ok (.iload 9, 2) := by decide +kernel
theorem dX10_take_195 : decode cX10_take 195 = .ok (.bipush 13, 2) := by decide +kernel
theorem dX10_take_197 : decode cX10_take 197 = .ok (.ishl, 1) := by decide +kernel
theorem dX10_take_198 : decode cX10_take 198 = .ok (.ior, 1) := by decide +kernel
theorem dX10_take_199 : decode cX10_take 199 = .ok (.iload 7, 2) := by decide +kernel
theorem dX10_take_201 : decode cX10_take 201 = .ok (.bipush 17, 2) := by decide +kernel
theorem dX10_take_203 : decode cX10_take 203 = .ok (.ishl, 1) := by decide +kernel
theorem dX10_take_204 : decode cX10_take 204 = .ok (.ior, 1) := by decide +kernel
theorem dX10_take_205 : decode cX10_take 205 = .ok (.iload 8, 2) := by decide +kernel
theorem dX10_take_207 : decode cX10_take 207 = .ok (.bipush 24, 2) := by decide +kernel
theorem dX10_take_209 : decode cX10_take 209 = .ok (.ishl, 1) := by decide +kernel
theorem dX10_take_210 : decode cX10_take 210 = .ok (.ior, 1) := by decide +kernel
theorem dX10_take_211 : decode cX10_take 211 = .ok (.iastore, 1) := by decide +kernel
theorem dX10_take_212 : decode cX10_take 212 = .ok (.aload_n 0, 1) := by decide +kernel
theorem dX10_take_213 : decode cX10_take 213 = .ok (.dup, 1) := by decide +kernel
theorem dX10_take_214 : decode cX10_take 214 = .ok (.getfield 81, 3) := by decide +kernel
theorem dX10_take_217 : decode cX10_take 217 = .ok (.iconst 1, 1) := by decide +kernel
theorem dX10_take_218 : decode cX10_take 218 = .ok (.iadd, 1) := by decide +kernel
theorem dX10_take_219 : decode cX10_take 219 = .ok (.putfield 81, 3) := by decide +kernel
theorem dX10_take_222 : decode cX10_take 222 = .ok (.return_, 1) := by decide +kernel
theorem dX10_takeEarliest_0 : decode cX10_takeEarliest 0 = .ok (.iload_n 1, 1) := by decide +kernel
theorem dX10_takeEarliest_1 : decode cX10_takeEarliest 1 = .ok (.bipush 9, 2) := by decide +kernel
theorem dX10_takeEarliest_3 : decode cX10_takeEarliest 3 = .ok (.imul, 1) := by decide +kernel
theorem dX10_takeEarliest_4 : decode cX10_takeEarliest 4 = .ok (.istore_n 2, 1) := by decide +kernel
theorem dX10_takeEarliest_5 : decode cX10_takeEarliest 5 = .ok (.aload_n 0, 1) := by decide +kernel
theorem dX10_takeEarliest_6 : decode cX10_takeEarliest 6 = .ok (.getfield 21, 3) := by decide +kernel
theorem dX10_takeEarliest_9 : decode cX10_takeEarliest 9 = .ok (.iload_n 2, 1) := by decide +kernel
theorem dX10_takeEarliest_10 : decode cX10_takeEarliest 10 = .ok (.iaload, 1) := by decide +kernel
theorem dX10_takeEarliest_11 : decode cX10_takeEarliest 11 = .ok (.istore_n 3, 1) := by decide +kernel
theorem dX10_takeEarliest_12 : decode cX10_takeEarliest 12 = .ok (.aload_n 0, 1) := by decide +kernel
theorem dX10_takeEarliest_13 : decode cX10_takeEarliest 13 = .ok (.getfield 24, 3) := by decide +kernel
theorem dX10_takeEarliest_16 : decode cX10_takeEarliest 16 = .ok (.iload_n 1, 1) := by decide +kernel
theorem dX10_takeEarliest_17 : decode cX10_takeEarliest 17 = .ok (.dup2, 1) := by decide +kernel
theorem dX10_takeEarliest_18 : decode cX10_takeEarliest 18 = .ok (.iaload, 1) := by decide +kernel
theorem dX10_takeEarliest_19 : decode cX10_takeEarliest 19 = .ok (.iconst 1, 1) := by decide +kernel
theorem dX10_takeEarliest_20 : decode cX10_takeEarliest 20 = .ok (.isub, 1) := by decide +kernel
theorem dX10_takeEarliest_21 : decode cX10_takeEarliest 21 = .ok (.iastore, 1) := by decide +kernel
theorem dX10_takeEarliest_22 : decode cX10_takeEarliest 22 = .ok (.aload_n 0, 1) := by decide +kernel
theorem dX10_takeEarliest_23 : decode cX10_takeEarliest 23 = .ok (.getfield 21, 3) := by decide +kernel
theorem dX10_takeEarliest_26 : decode cX10_takeEarliest 26 = .ok (.iload_n 2, 1) := by decide +kernel
theorem dX10_takeEarliest_27 : decode cX10_takeEarliest 27 = .ok (.iconst 1, 1) := by decide +kernel
theorem dX10_takeEarliest_28 : decode cX10_takeEarliest 28 = .ok (.iadd, 1) := by decide +kernel
theorem dX10_takeEarliest_29 : decode cX10_takeEarliest 29 = .ok (.aload_n 0, 1) := by decide +kernel
theorem dX10_takeEarliest_30 : decode cX10_takeEarliest 30 = .ok (.getfield 21, 3) := by decide +kernel
theorem dX10_takeEarliest_33 : decode cX10_takeEarliest 33 = .ok (.iload_n 2, 1) := by decide +kernel
theorem dX10_takeEarliest_34 : decode cX10_takeEarliest 34 = .ok (.aload_n 0, 1) := by decide +kernel
theorem dX10_takeEarliest_35 : decode cX10_takeEarliest 35 = .ok (.getfield 24, 3) := by decide +kernel
theorem dX10_takeEarliest_38 : decode cX10_takeEarliest 38 = .ok (.iload_n 1, 1) := by decide +kernel
theorem dX10_takeEarliest_39 : decode cX10_takeEarliest 39 = .ok (.iaload, 1) := by decide +kernel
theorem dX10_takeEarliest_40 : decode cX10_takeEarliest 40 = .ok (.invokestatic 66, 3) := by decide +kernel
theorem dX10_takeEarliest_43 : decode cX10_takeEarliest 43 = .ok (.iload_n 3, 1) := by decide +kernel
theorem dX10_takeEarliest_44 : decode cX10_takeEarliest 44 = .ok (.ireturn, 1) := by decide +kernel
theorem dX10_tallyOfFirst_0 : decode cX10_tallyOfFirst 0 = .ok (.iconst 0, 1) := by decide +kernel
theorem dX10_tallyOfFirst_1 : decode cX10_tallyOfFirst 1 = .ok (.istore_n 3, 1) := by decide +kernel
theorem dX10_tallyOfFirst_2 : decode cX10_tallyOfFirst 2 = .ok (.iconst 0, 1) := by decide +kernel
theorem dX10_tallyOfFirst_3 : decode cX10_tallyOfFirst 3 = .ok (.istore 4, 2) := by decide +kernel
theorem dX10_tallyOfFirst_5 : decode cX10_tallyOfFirst 5 = .ok (.iload 4, 2) := by decide +kernel
theorem dX10_tallyOfFirst_7 : decode cX10_tallyOfFirst 7 = .ok (.iload_n 1, 1) := by decide +kernel
theorem dX10_tallyOfFirst_8 : decode cX10_tallyOfFirst 8 = .ok (.if_icmp .ge 75, 3) := by decide +kernel
theorem dX10_tallyOfFirst_11 : decode cX10_tallyOfFirst 11 = .ok (.aload_n 0, 1) := by decide +kernel
theorem dX10_tallyOfFirst_12 : decode cX10_tallyOfFirst 12 = .ok (.getfield 55, 3) := by decide +kernel
theorem dX10_tallyOfFirst_15 : decode cX10_tallyOfFirst 15 = .ok (.i2l, 1) := by decide +kernel
theorem dX10_tallyOfFirst_16 : decode cX10_tallyOfFirst 16 = .ok (.iload 4, 2) := by decide +kernel
theorem dX10_tallyOfFirst_18 : decode cX10_tallyOfFirst 18 = .ok (.invokestatic 58, 3) := by decide +kernel
theorem dX10_tallyOfFirst_21 : decode cX10_tallyOfFirst 21 = .ok (.ifCond .ne 41, 3) := by decide +kernel
theorem dX10_tallyOfFirst_24 : decode cX10_tallyOfFirst 24 = .ok (.aload_n 0, 1) := by decide +kernel
theorem dX10_tallyOfFirst_25 : decode cX10_tallyOfFirst 25 = .ok (.iload 4, 2) := by decide +kernel
theorem dX10_tallyOfFirst_27 : decode cX10_tallyOfFirst 27 = .ok (.invokevirtual 62, 3) := by decide +kernel
theorem dX10_tallyOfFirst_30 : decode cX10_tallyOfFirst 30 = .ok (.aload_n 0, 1) := by decide +kernel
theorem dX10_tallyOfFirst_31 : decode cX10_tallyOfFirst 31 = .ok (.getfield 30, 3) := by decide +kernel
theorem dX10_tallyOfFirst_34 : decode cX10_tallyOfFirst 34 = .ok (.iconst 0, 1) := by decide +kernel
theorem dX10_tallyOfFirst_35 : decode cX10_tallyOfFirst 35 = .ok (.aload_n 0, 1) := by decide +kernel
theorem dX10_tallyOfFirst_36 : decode cX10_tallyOfFirst 36 = .ok (.getfield 40, 3) := by decide +kernel
theorem dX10_tallyOfFirst_39 : decode cX10_tallyOfFirst 39 = .ok (.iload 4, 2) := by decide +kernel
theorem dX10_tallyOfFirst_41 : decode cX10_tallyOfFirst 41 = .ok (.bipush 14, 2) := by decide +kernel
theorem dX10_tallyOfFirst_43 : decode cX10_tallyOfFirst 43 = .ok (.imul, 1) := by decide +kernel
theorem dX10_tallyOfFirst_44 : decode cX10_tallyOfFirst 44 = .ok (.bipush 14, 2) := by decide +kernel
theorem dX10_tallyOfFirst_46 : decode cX10_tallyOfFirst 46 = .ok (.invokestatic 66, 3) := by decide +kernel
theorem dX10_tallyOfFirst_49 : decode cX10_tallyOfFirst 49 = .ok (.aload_n 0, 1) := by decide +kernel
theorem dX10_tallyOfFirst_50 : decode cX10_tallyOfFirst 50 = .ok (.dup, 1) := by decide +kernel
theorem dX10_tallyOfFirst_51 : decode cX10_tallyOfFirst 51 = .ok (.getfield 55, 3) := by decide +kernel
theorem dX10_tallyOfFirst_54 : decode cX10_tallyOfFirst 54 = .ok (.iconst 1, 1) := by decide +kernel
theorem dX10_tallyOfFirst_55 : decode cX10_tallyOfFirst 55 = .ok (.iload 4, 2) := by decide +kernel
theorem dX10_tallyOfFirst_57 : decode cX10_tallyOfFirst 57 = .ok (.ishl, 1) := by decide +kernel
theorem dX10_tallyOfFirst_58 : decode cX10_tallyOfFirst 58 = .ok (.ior, 1) := by decide +kernel
theorem dX10_tallyOfFirst_59 : decode cX10_tallyOfFirst 59 = .ok (.putfield 55, 3) := by decide +kernel
theorem dX10_tallyOfFirst_62 : decode cX10_tallyOfFirst 62 = .ok (.iload_n 3, 1) := by decide +kernel
theorem dX10_tallyOfFirst_63 : decode cX10_tallyOfFirst 63 = .ok (.aload_n 0, 1) := by decide +kernel
theorem dX10_tallyOfFirst_64 : decode cX10_tallyOfFirst 64 = .ok (.getfield 40, 3) := by decide +kernel
theorem dX10_tallyOfFirst_67 : decode cX10_tallyOfFirst 67 = .ok (.iload 4, 2) := by decide +kernel
theorem dX10_tallyOfFirst_69 : decode cX10_tallyOfFirst 69 = .ok (.bipush 14, 2) := by decide +kernel
theorem dX10_tallyOfFirst_71 : decode cX10_tallyOfFirst 71 = .ok (.imul, 1) := by decide +kernel
theorem dX10_tallyOfFirst_72 : decode cX10_tallyOfFirst 72 = .ok (.iload_n 2, 1) := by decide +kernel
theorem dX10_tallyOfFirst_73 : decode cX10_tallyOfFirst 73 = .ok (.iadd, 1) := by decide +kernel
theorem dX10_tallyOfFirst_74 : decode cX10_tallyOfFirst 74 = .ok (.iaload, 1) := by decide +kernel
theorem dX10_tallyOfFirst_75 : decode cX10_tallyOfFirst 75 = .ok (.iadd, 1) := by decide +kernel
theorem dX10_tallyOfFirst_76 : decode cX10_tallyOfFirst 76 = .ok (.istore_n 3, 1) := by decide +kernel
theorem dX10_tallyOfFirst_77 : decode cX10_tallyOfFirst 77 = .ok (.iinc 4 1, 3) := by decide +kernel
theorem dX10_tallyOfFirst_80 : decode cX10_tallyOfFirst 80 = .ok (.goto (-75), 3) := by decide +kernel
theorem dX10_tallyOfFirst_83 : decode cX10_tallyOfFirst 83 = .ok (.iload_n 3, 1) := by decide +kernel
theorem dX10_tallyOfFirst_84 : decode cX10_tallyOfFirst 84 = .ok (.ireturn, 1) := by decide +kernel
theorem dX11_again_0 : decode cX11_again 0 = .ok (.iload_n 1, 1) := by decide +kernel
theorem dX11_again_1 : decode cX11_again 1 = .ok (.bipush 8, 2) := by decide +kernel
theorem dX11_again_3 : decode cX11_again 3 = .ok (.invokestatic 91, 3) := by decide +kernel
theorem dX11_again_6 : decode cX11_again 6 = .ok (.ifCond .eq 22, 3) := by decide +kernel
theorem dX11_again_9 : decode cX11_again 9 = .ok (.iload_n 2, 1) := by decide +kernel
theorem dX11_again_10 : decode cX11_again 10 = .ok (.iconst (-1), 1) := by decide +kernel
theorem dX11_again_11 : decode cX11_again 11 = .ok (.if_icmp .eq 12, 3) := by decide +kernel
theorem dX11_again_14 : decode cX11_again 14 = .ok (.iload_n 2, 1) := by decide +kernel
theorem dX11_again_15 : decode cX11_again 15 = .ok (.bipush 8, 2) := by decide +kernel
theorem dX11_again_17 : decode cX11_again 17 = .ok (.invokestatic 91, 3) := by decide +kernel
theorem dX11_again_20 : decode cX11_again 20 = .ok (.ifCond .eq 8, 3) := by decide +kernel
theorem dX11_again_23 : decode cX11_again 23 = .ok (.iload_n 1, 1) := by decide +kernel
theorem dX11_again_24 : decode cX11_again 24 = .ok (.iload_n 2, 1) := by decide +kernel
theorem dX11_again_25 : decode cX11_again 25 = .ok (.if_icmp .ne 5, 3) := by decide +kernel
theorem dX11_again_28 : decode cX11_again 28 = .ok (.iconst (-1), 1) := by decide +kernel
theorem dX11_again_29 : decode cX11_again 29 = .ok (.ireturn, 1) := by decide +kernel
theorem dX11_again_30 : decode cX11_again 30 = .ok (.aload_n 0, 1) := by decide +kernel
theorem dX11_again_31 : decode cX11_again 31 = .ok (.iconst 2, 1) := by decide +kernel
theorem dX11_again_32 : decode cX11_again 32 = .ok (.invokevirtual 156, 3) := by decide +kernel
theorem dX11_again_35 : decode cX11_again 35 = .ok (.aload_n 0, 1) := by decide +kernel
theorem dX11_again_36 : decode cX11_again 36 = .ok (.getfield 74, 3) := by decide +kernel
theorem dX11_again_39 : decode cX11_again 39 = .ok (.iload_n 2, 1) := by decide +kernel
theorem dX11_again_40 : decode cX11_again 40 = .ok (.iconst (-1), 1) := by decide +kernel
theorem dX11_again_41 : decode cX11_again 41 = .ok (.if_icmp .ne 9, 3) := by decide +kernel
theorem dX11_again_44 : decode cX11_again 44 = .ok (.iconst 1, 1) := by decide +kernel
theorem dX11_again_45 : decode cX11_again 45 = .ok (.iload_n 1, 1) := by decide +kernel
theorem dX11_again_46 : decode cX11_again 46 = .ok (.ishl, 1) := by decide +kernel
theorem dX11_again_47 : decode cX11_again 47 = .ok (.goto 10, 3) := by decide +kernel
theorem dX11_again_50 : decode cX11_again 50 = .ok (.iconst 1, 1) := by decide +kernel
theorem dX11_again_51 : decode cX11_again 51 = .ok (.iload_n 1, 1) := by decide +kernel
theorem dX11_again_52 : decode cX11_again 52 = .ok (.ishl, 1) := by decide +kernel
theorem dX11_again_53 : decode cX11_again 53 = .ok (.iconst 1, 1) := by decide +kernel
theorem dX11_again_54 : decode cX11_again 54 = .ok (.iload_n 2, 1) := by decide +kernel
theorem dX11_again_55 : decode cX11_again 55 = .ok (.ishl, 1) := by decide +kernel
theorem dX11_again_56 : decode cX11_again 56 = .ok (.ior, 1) := by decide +kernel
theorem dX11_again_57 : decode cX11_again 57 = .ok (.aload_n 0, 1) := by decide +kernel
theorem dX11_again_58 : decode cX11_again 58 = .ok (.getfield 65, 3) := by decide +kernel
theorem dX11_again_61 : decode cX11_again 61 = .ok (.getfield 265, 3) := by decide +kernel
theorem dX11_again_64 : decode cX11_again 64 = .ok (.invokevirtual 272, 3) := by decide +kernel
theorem dX11_again_67 : decode cX11_again 67 = .ok (.ireturn, 1) := by decide +kernel
theorem dX11_can_0 : decode cX11_can 0 = .ok (.iload_n 1, 1) := by decide +kernel
theorem dX11_can_1 : decode cX11_can 1 = .ok (.aload_n 0, 1) := by decide +kernel
theorem dX11_can_2 : decode cX11_can 2 = .ok (.getfield 26, 3) := by decide +kernel
theorem dX11_can_5 : decode cX11_can 5 = .ok (.getfield 146, 3) := by decide +kernel
theorem dX11_can_8 : decode cX11_can 8 = .ok (.invokestatic 91, 3) := by decide +kernel
theorem dX11_can_11 : decode cX11_can 11 = .ok (.ifCond .ne 5, 3) := by decide +kernel
theorem dX11_can_14 : decode cX11_can 14 = .ok (.iconst (-1), 1) := by decide +kernel
theorem dX11_can_15 : decode cX11_can 15 = .ok (.ireturn, 1) := by decide +kernel
theorem dX11_can_16 : decode cX11_can 16 = .ok (.aload_n 0, 1) := by decide +kernel
theorem dX11_can_17 : decode cX11_can 17 = .ok (.iconst 2, 1) := by decide +kernel
theorem dX11_can_18 : decode cX11_can 18 = .ok (.invokevirtual 156, 3) := by decide +kernel
theorem dX11_can_21 : decode cX11_can 21 = .ok (.aload_n 0, 1) := by decide +kernel
theorem dX11_can_22 : decode cX11_can 22 = .ok (.getfield 65, 3) := by decide +kernel
theorem dX11_can_25 : decode cX11_can 25 = .ok (.getfield 215, 3) := by decide +kernel
theorem dX11_can_28 : decode cX11_can 28 = .ok (.iload_n 1, 1) := by decide +kernel
theorem dX11_can_29 : decode cX11_can 29 = .ok (.iaload, 1) := by decide +kernel
theorem dX11_can_30 : decode cX11_can 30 = .ok (.ireturn, 1) := by decide +kernel
theorem dX11_changed_0 : decode cX11_changed 0 = .ok (.aload_n 0, 1) := by decide +kernel
theorem dX11_changed_1 : decode cX11_changed 1 = .ok (.iconst 0, 1) := by decide +kernel
theorem dX11_changed_2 : decode cX11_changed 2 = .ok (.putfield 87, 3) := by decide +kernel
theorem dX11_changed_5 : decode cX11_changed 5 = .ok (.aload_n 0, 1) := by decide +kernel
theorem dX11_changed_6 : decode cX11_changed 6 = .ok (.getfield 56, 3) := by decide +kernel
theorem dX11_changed_9 : decode cX11_changed 9 = .ok (.invokevirtual 357, 3) := by decide +kernel
theorem dX11_changed_12 : decode cX11_changed 12 = .ok (.aload_n 0, 1) := by decide +kernel
theorem dX11_changed_13 : decode cX11_changed 13 = .ok (.getfield 74, 3) := by decide +kernel
theorem dX11_changed_16 : decode cX11_changed 16 = .ok (.invokevirtual 360, 3) := by decide +kernel
theorem dX11_changed_19 : decode cX11_changed 19 = .ok (.aload_n 0, 1) := by decide +kernel
theorem dX11_changed_20 : decode cX11_changed 20 = .ok (.getfield 83, 3) := by decide +kernel
theorem dX11_changed_23 : decode cX11_changed 23 = .ok (.invokevirtual 361, 3) := by decide +kernel
theorem dX11_changed_26 : decode cX11_changed 26 = .ok (.return_, 1) := by decide +kernel
theorem dX11_count_0 : decode cX11_count 0 = .ok (.iload_n 1, 1) := by decide +kernel
theorem dX11_count_1 : decode cX11_count 1 = .ok (.tableswitch 111 0 7 #[47, 55, 63, 71, 79, 87, 95, 103], 47) := by decide +kernel
theorem dX11_count_48 : decode cX11_count 48 = .ok (.aload_n 0, 1) := by decide +kernel
theorem dX11_count_49 : decode cX11_count 49 = .ok (.getfield 26, 3) := by decide +kernel
theorem dX11_count_52 : decode cX11_count 52 = .ok (.getfield 146, 3) := by decide +kernel
theorem dX11_count_55 : decode cX11_count 55 = .ok (.ireturn, 1) := by decide +kernel
theorem dX11_count_56 : decode cX11_count 56 = .ok (.aload_n 0, 1) := by decide +kernel
theorem dX11_count_57 : decode cX11_count 57 = .ok (.getfield 19, 3) := by decide +kernel
theorem dX11_count_60 : decode cX11_count 60 = .ok (.getfield 294, 3) := by decide +kernel
theorem dX11_count_63 : decode cX11_count 63 = .ok (.ireturn, 1) := by decide +kernel
theorem dX11_count_64 : decode cX11_count 64 = .ok (.aload_n 0, 1) := by decide +kernel
theorem dX11_count_65 : decode cX11_count 65 = .ok (.getfield 26, 3) := by decide +kernel
theorem dX11_count_68 : decode cX11_count 68 = .ok (.getfield 306, 3) := by decide +kernel
theorem dX11_count_71 : decode cX11_count 71 = .ok (.ireturn, 1) := by decide +kernel
theorem dX11_count_72 : decode cX11_count 72 = .ok (.aload_n 0, 1) := by decide +kernel
theorem dX11_count_73 : decode cX11_count 73 = .ok (.getfield 26, 3) := by decide +kernel
theorem dX11_count_76 : decode cX11_count 76 = .ok (.getfield 309, 3) := by decide +kernel
theorem dX11_count_79 : decode cX11_count 79 = .ok (.ireturn, 1) := by decide +kernel
theorem dX11_count_80 : decode cX11_count 80 = .ok (.aload_n 0, 1) := by decide +kernel
theorem dX11_count_81 : decode cX11_count 81 = .ok (.getfield 74, 3) := by decide +kernel
theorem dX11_count_84 : decode cX11_count 84 = .ok (.getfield 295, 3) := by decide +kernel
theorem dX11_count_87 : decode cX11_count 87 = .ok (.ireturn, 1) := by decide +kernel
theorem dX11_count_88 : decode cX11_count 88 = .ok (.aload_n 0, 1) := by decide +kernel
theorem dX11_count_89 : decode cX11_count 89 = .ok (.getfield 40, 3) := by decide +kernel
theorem dX11_count_92 : decode cX11_count 92 = .ok (.invokevirtual 351, 3) := by decide +kernel
theorem dX11_count_95 : decode cX11_count 95 = .ok (.ireturn, 1) := by decide +kernel
theorem dX11_count_96 : decode cX11_count 96 = .ok (.aload_n 0, 1) := by decide +kernel
theorem dX11_count_97 : decode cX11_count 97 = .ok (.getfield 47, 3) := by decide +kernel
theorem dX11_count_100 : decode cX11_count 100 = .ok (.getfield 132, 3) := by decide +kernel
theorem dX11_count_103 : decode cX11_count 103 = .ok (.ireturn, 1) := by decide +kernel
theorem dX11_count_104 : decode cX11_count 104 = .ok (.aload_n 0, 1) := by decide +kernel
theorem dX11_count_105 : decode cX11_count 105 = .ok (.getfield 10, 3) := by decide +kernel
theorem dX11_count_108 : decode cX11_count 108 = .ok (.invokevirtual 354, 3) := by decide +kernel
theorem dX11_count_111 : decode cX11_count 111 = .ok (.ireturn, 1) := by decide +kernel
theorem dX11_count_112 : decode cX11_count 112 = .ok (.iconst (-1), 1) := by decide +kernel
theorem dX11_count_113 : decode cX11_count 113 = .ok (.ireturn, 1) := by decide +kernel
theorem dX11_cut_0 : decode cX11_cut 0 = .ok (.iload_n 1, 1) := by decide +kernel
theorem dX11_cut_1 : decode cX11_cut 1 = .ok (.bipush 12, 2) := by decide +kernel
theorem dX11_cut_3 : decode cX11_cut 3 = .ok (.invokestatic 91, 3) := by decide +kernel
theorem dX11_cut_6 : decode cX11_cut 6 = .ok (.ifCond .eq 11, 3) := by decide +kernel
theorem dX11_cut_9 : decode cX11_cut 9 = .ok (.iload_n 2, 1) := by decide +kernel
theorem dX11_cut_10 : decode cX11_cut 10 = .ok (.iconst 4, 1) := by decide +kernel
theorem dX11_cut_11 : decode cX11_cut 11 = .ok (.invokestatic 91, 3) := by decide +kernel
theorem dX11_cut_14 : decode cX11_cut 14 = .ok (.ifCond .ne 5, 3) := by decide +kernel
theorem dX11_cut_17 : decode cX11_cut 17 = .ok (.iconst (-1), 1) := by decide +kernel
theorem dX11_cut_18 : decode cX11_cut 18 = .ok (.ireturn, 1) := by decide +kernel
theorem dX11_cut_19 : decode cX11_cut 19 = .ok (.aload_n 0, 1) := by decide +kernel
theorem dX11_cut_20 : decode cX11_cut 20 = .ok (.getfield 74, 3) := by decide +kernel
theorem dX11_cut_23 : decode cX11_cut 23 = .ok (.iload_n 1, 1) := by decide +kernel
theorem dX11_cut_24 : decode cX11_cut 24 = .ok (.invokevirtual 259, 3) := by decide +kernel
theorem dX11_cut_27 : decode cX11_cut 27 = .ok (.istore_n 3, 1) := by decide +kernel
theorem dX11_cut_28 : decode cX11_cut 28 = .ok (.iload_n 3, 1) := by decide +kernel
theorem dX11_cut_29 : decode cX11_cut 29 = .ok (.iconst 1, 1) := by decide +kernel
theorem dX11_cut_30 : decode cX11_cut 30 = .ok (.if_icmp .lt 8, 3) := by decide +kernel
theorem dX11_cut_33 : decode cX11_cut 33 = .ok (.iload_n 2, 1) := by decide +kernel
theorem dX11_cut_34 : decode cX11_cut 34 = .ok (.iload_n 3, 1) := by decide +kernel
theorem dX11_cut_35 : decode cX11_cut 35 = .ok (.if_icmp .le 5, 3) := by decide +kernel
theorem dX11_cut_38 : decode cX11_cut 38 = .ok (.iconst (-1), 1) := by decide +kernel
theorem dX11_cut_39 : decode cX11_cut 39 = .ok (.ireturn, 1) := by decide +kernel
theorem dX11_cut_40 : decode cX11_cut 40 = .ok (.iload_n 2, 1) := by decide +kernel
theorem dX11_cut_41 : decode cX11_cut 41 = .ok (.ifCond .ne 7, 3) := by decide +kernel
theorem dX11_cut_44 : decode cX11_cut 44 = .ok (.iload_n 3, 1) := by decide +kernel
theorem dX11_cut_45 : decode cX11_cut 45 = .ok (.goto 14, 3) := by decide +kernel
theorem dX11_cut_48 : decode cX11_cut 48 = .ok (.aload_n 0, 1) := by decide +kernel
theorem dX11_cut_49 : decode cX11_cut 49 = .ok (.getfield 74, 3) := by decide +kernel
theorem dX11_cut_52 : decode cX11_cut 52 = .ok (.getfield 262, 3) := by decide +kernel
theorem dX11_cut_55 : decode cX11_cut 55 = .ok (.iload_n 2, 1) := by decide +kernel
theorem dX11_cut_56 : decode cX11_cut 56 = .ok (.iconst 1, 1) := by decide +kernel
theorem dX11_cut_57 : decode cX11_cut 57 = .ok (.isub, 1) := by decide +kernel
theorem dX11_cut_58 : decode cX11_cut 58 = .ok (.iaload, 1) := by decide +kernel
theorem dX11_cut_59 : decode cX11_cut 59 = .ok (.ireturn, 1) := by decide +kernel
theorem dX11_doubted_0 : decode cX11_doubted 0 = .ok (.iload_n 1, 1) := by decide +kernel
theorem dX11_doubted_1 : decode cX11_doubted 1 = .ok (.aload_n 0, 1) := by decide +kernel
theorem dX11_doubted_2 : decode cX11_doubted 2 = .ok (.getfield 26, 3) := by decide +kernel
theorem dX11_doubted_5 : decode cX11_doubted 5 = .ok (.getfield 146, 3) := by decide +kernel
theorem dX11_doubted_8 : decode cX11_doubted 8 = .ok (.invokestatic 91, 3) := by decide +kernel
theorem dX11_doubted_11 : decode cX11_doubted 11 = .ok (.ifCond .ne 5, 3) := by decide +kernel
theorem dX11_doubted_14 : decode cX11_doubted 14 = .ok (.iconst (-1), 1) := by decide +kernel
theorem dX11_doubted_15 : decode cX11_doubted 15 = .ok (.ireturn, 1) := by decide +kernel
theorem dX11_doubted_16 : decode cX11_doubted 16 = .ok (.aload_n 0, 1) := by decide +kernel
theorem dX11_doubted_17 : decode cX11_doubted 17 = .ok (.iconst 2, 1) := by decide +kernel
theorem dX11_doubted_18 : decode cX11_doubted 18 = .ok (.invokevirtual 156, 3) := by decide +kernel
theorem dX11_doubted_21 : decode cX11_doubted 21 = .ok (.aload_n 0, 1) := by decide +kernel
theorem dX11_doubted_22 : decode cX11_doubted 22 = .ok (.getfield 65, 3) := by decide +kernel
theorem dX11_doubted_25 : decode cX11_doubted 25 = .ok (.getfield 265, 3) := by decide +kernel
theorem dX11_doubted_28 : decode cX11_doubted 28 = .ok (.iload_n 1, 1) := by decide +kernel
theorem dX11_doubted_29 : decode cX11_doubted 29 = .ok (.invokestatic 120, 3) := by decide +kernel
theorem dX11_doubted_32 : decode cX11_doubted 32 = .ok (.ifCond .eq 7, 3) := by decide +kernel
theorem dX11_doubted_35 : decode cX11_doubted 35 = .ok (.iconst 1, 1) := by decide +kernel
theorem dX11_doubted_36 : decode cX11_doubted 36 = .ok (.goto 4, 3) := by decide +kernel
theorem dX11_doubted_39 : decode cX11_doubted 39 = .ok (.iconst 0, 1) := by decide +kernel
theorem dX11_doubted_40 : decode cX11_doubted 40 = .ok (.ireturn, 1) := by decide +kernel
theorem dX11_each_0 : decode cX11_each 0 = .ok (.iload_n 1, 1) := by decide +kernel
theorem dX11_each_1 : decode cX11_each 1 = .ok (.aload_n 0, 1) := by decide +kernel
theorem dX11_each_2 : decode cX11_each 2 = .ok (.getfield 26, 3) := by decide +kernel
theorem dX11_each_5 : decode cX11_each 5 = .ok (.getfield 146, 3) := by decide +kernel
theorem dX11_each_8 : decode cX11_each 8 = .ok (.invokestatic 91, 3) := by decide +kernel
theorem dX11_each_11 : decode cX11_each 11 = .ok (.ifCond .ne 5, 3) := by decide +kernel
theorem dX11_each_14 : decode cX11_each 14 = .ok (.iconst (-1), 1) := by decide +kernel
theorem dX11_each_15 : decode cX11_each 15 = .ok (.ireturn, 1) := by decide +kernel
theorem dX11_each_16 : decode cX11_each 16 = .ok (.aload_n 0, 1) := by decide +kernel
theorem dX11_each_17 : decode cX11_each 17 = .ok (.iconst 1, 1) := by decide +kernel
theorem dX11_each_18 : decode cX11_each 18 = .ok (.invokevirtual 156, 3) := by decide +kernel
theorem dX11_each_21 : decode cX11_each 21 = .ok (.aload_n 0, 1) := by decide +kernel
theorem dX11_each_22 : decode cX11_each 22 = .ok (.getfield 56, 3) := by decide +kernel
theorem dX11_each_25 : decode cX11_each 25 = .ok (.getfield 173, 3) := by decide +kernel
theorem dX11_each_28 : decode cX11_each 28 = .ok (.iload_n 1, 1) := by decide +kernel
theorem dX11_each_29 : decode cX11_each 29 = .ok (.iaload, 1) := by decide +kernel
theorem dX11_each_30 : decode cX11_each 30 = .ok (.ireturn, 1) := by decide +kernel
theorem dX11_enough_0 : decode cX11_enough 0 = .ok (.aload_n 0, 1) := by decide +kernel
theorem dX11_enough_1 : decode cX11_enough 1 = .ok (.iconst 1, 1) := by decide +kernel
theorem dX11_enough_2 : decode cX11_enough 2 = .ok (.invokevirtual 156, 3) := by decide +kernel
theorem dX11_enough_5 : decode cX11_enough 5 = .ok (.aload_n 0, 1) := by decide +kernel
theorem dX11_enough_6 : decode cX11_enough 6 = .ok (.getfield 56, 3) := by decide +kernel
theorem dX11_enough_9 : decode cX11_enough 9 = .ok (.invokevirtual 291, 3) := by decide +kernel
theorem dX11_enough_12 : decode cX11_enough 12 = .ok (.ireturn, 1) := by decide +kernel
theorem dX11_fact_0 : decode cX11_fact 0 = .ok (.iload_n 1, 1) := by decide +kernel
theorem dX11_fact_1 : decode cX11_fact 1 = .ok (.aload_n 0, 1) := by decide +kernel
theorem dX11_fact_2 : decode cX11_fact 2 = .ok (.getfield 26, 3) := by decide +kernel
theorem dX11_fact_5 : decode cX11_fact 5 = .ok (.getfield 146, 3) := by decide +kernel
theorem dX11_fact_8 : decode cX11_fact 8 = .ok (.invokestatic 91, 3) := by decide +kernel
theorem dX11_fact_11 : decode cX11_fact 11 = .ok (.ifCond .eq 12, 3) := by decide +kernel
theorem dX11_fact_14 : decode cX11_fact 14 = .ok (.iload_n 2, 1) := by decide +kernel
theorem dX11_fact_15 : decode cX11_fact 15 = .ok (.bipush 20, 2) := by decide +kernel
theorem dX11_fact_17 : decode cX11_fact 17 = .ok (.invokestatic 91, 3) := by decide +kernel
theorem dX11_fact_20 : decode cX11_fact 20 = .ok (.ifCond .ne 13, 3) := by decide +kernel
theorem dX11_fact_23 : decode cX11_fact 23 = .ok (.new 149, 3) := by decide +kernel
theorem dX11_fact_33 : decode cX11_fact 33 = .ok (.iload_n 2, 1) := by decide +kernel
theorem dX11_fact_34 : decode cX11_fact 34 = .ok (.bipush 17, 2) := by decide +kernel
theorem dX11_fact_36 : decode cX11_fact 36 = .ok (.if_icmp .ge 23, 3) := by decide +kernel
theorem dX11_fact_39 : decode cX11_fact 39 = .ok (.aload_n 0, 1) := by decide +kernel
theorem dX11_fact_40 : decode cX11_fact 40 = .ok (.iconst 1, 1) := by decide +kernel
theorem dX11_fact_41 : decode cX11_fact 41 = .ok (.invokevirtual 156, 3) := by decide +kernel
theorem dX11_fact_44 : decode cX11_fact 44 = .ok (.aload_n 0, 1) := by decide +kernel
theorem dX11_fact_45 : decode cX11_fact 45 = .ok (.getfield 56, 3) := by decide +kernel
theorem dX11_fact_48 : decode cX11_fact 48 = .ok (.getfield 160, 3) := by decide +kernel
theorem dX11_fact_51 : decode cX11_fact 51 = .ok (.iload_n 1, 1) := by decide +kernel
theorem dX11_fact_52 : decode cX11_fact 52 = .ok (.bipush 17, 2) := by decide +kernel
theorem dX11_fact_54 : decode cX11_fact 54 = .ok (.imul, 1) := by decide +kernel
theorem dX11_fact_55 : decode cX11_fact 55 = .ok (.iload_n 2, 1) := by decide +kernel
theorem dX11_fact_56 : decode cX11_fact 56 = .ok (.iadd, 1) := by decide +kernel
theorem dX11_fact_57 : decode cX11_fact 57 = .ok (.iaload, 1) := by decide +kernel
theorem dX11_fact_58 : decode cX11_fact 58 = .ok (.ireturn, 1) := by decide +kernel
theorem dX11_fact_59 : decode cX11_fact 59 = .ok (.iload_n 2, 1) := by decide +kernel
theorem dX11_fact_60 : decode cX11_fact 60 = .ok (.bipush 17, 2) := by decide +kernel
theorem dX11_fact_62 : decode cX11_fact 62 = .ok (.if_icmp .ne 13, 3) := by decide +kernel
theorem dX11_fact_65 : decode cX11_fact 65 = .ok (.aload_n 0, 1) := by decide +kernel
theorem dX11_fact_66 : decode cX11_fact 66 = .ok (.getfield 26, 3) := by decide +kernel
theorem dX11_fact_69 : decode cX11_fact 69 = .ok (.getfield 164, 3) := by decide +kernel
theorem dX11_fact_72 : decode cX11_fact 72 = .ok (.iload_n 1, 1) := by decide +kernel
theorem dX11_fact_73 : decode cX11_fact 73 = .ok (.iaload, 1) := by decide +kernel
theorem dX11_fact_74 : decode cX11_fact 74 = .ok (.ireturn, 1) := by decide +kernel
theorem dX11_fact_75 : decode cX11_fact 75 = .ok (.iload_n 2, 1) := by decide +kernel
theorem dX11_fact_76 : decode cX11_fact 76 = .ok (.bipush 18, 2) := by decide +kernel
theorem dX11_fact_78 : decode cX11_fact 78 = .ok (.if_icmp .ne 15, 3) := by decide +kernel
theorem dX11_fact_81 : decode cX11_fact 81 = .ok (.aload_n 0, 1) := by decide +kernel
theorem dX11_fact_82 : decode cX11_fact 82 = .ok (.getfield 26, 3) := by decide +kernel
theorem dX11_fact_85 : decode cX11_fact 85 = .ok (.getfield 167, 3) := by decide +kernel
theorem dX11_fact_88 : decode cX11_fact 88 = .ok (.iload_n 1, 1) := by decide +kernel
theorem dX11_fact_89 : decode cX11_fact 89 = .ok (.iaload, 1) := by decide +kernel
theorem dX11_fact_90 : decode cX11_fact 90 = .ok (.goto 12, 3) := by decide +kernel
theorem dX11_fact_93 : decode cX11_fact 93 = .ok (.aload_n 0, 1) := by decide +kernel
theorem dX11_fact_94 : decode cX11_fact 94 = .ok (.getfield 26, 3) := by decide +kernel
theorem dX11_fact_97 : decode cX11_fact 97 = .ok (.getfield 170, 3) := by decide +kernel
theorem dX11_fact_100 : decode cX11_fact 100 = .ok (.iload_n 1, 1) := by decide +kernel
theorem dX11_fact_101 : decode cX11_fact 101 = .ok (.iaload, 1) := by decide +kernel
theorem dX11_fact_102 : decode cX11_fact 102 = .ok (.ireturn, 1) := by decide +kernel
theorem dX11_feed_0 : decode cX11_feed 0 = .ok (.aload_n 0, 1) := by decide +kernel
theorem dX11_feed_1 : decode cX11_feed 1 = .ok (.getfield 47, 3) := by decide +kernel
theorem dX11_feed_4 : decode cX11_feed 4 = .ok (.lload_n 1, 1) := by decide +kernel
theorem dX11_feed_5 : decode cX11_feed 5 = .ok (.invokevirtual 128, 3) := by decide +kernel
theorem dX11_feed_8 : decode cX11_feed 8 = .ok (.aload_n 0, 1) := by decide +kernel
theorem dX11_feed_9 : decode cX11_feed 9 = .ok (.getfield 47, 3) := by decide +kernel
theorem dX11_feed_12 : decode cX11_feed 12 = .ok (.lload_n 3, 1) := by decide +kernel
theorem dX11_feed_13 : decode cX11_feed 13 = .ok (.invokevirtual 128, 3) := by decide +kernel
theorem dX11_feed_16 : decode cX11_feed 16 = .ok (.aload_n 0, 1) := by decide +kernel
theorem dX11_feed_17 : decode cX11_feed 17 = .ok (.getfield 47, 3) := by decide +kernel
theorem dX11_feed_20 : decode cX11_feed 20 = .ok (.lload 5, 2) := by decide +kernel
theorem dX11_feed_22 : decode cX11_feed 22 = .ok (.invokevirtual 128, 3) := by decide +kernel
theorem dX11_feed_25 : decode cX11_feed 25 = .ok (.aload_n 0, 1) := by decide +kernel
theorem dX11_feed_26 : decode cX11_feed 26 = .ok (.getfield 47, 3) := by decide +kernel
theorem dX11_feed_29 : decode cX11_feed 29 = .ok (.getfield 132, 3) := by decide +kernel
theorem dX11_feed_32 : decode cX11_feed 32 = .ok (.ireturn, 1) := by decide +kernel
theorem dX11_find_0 : decode cX11_find 0 = .ok (.iload_n 1, 1) := by decide +kernel
theorem dX11_find_1 : decode cX11_find 1 = .ok (.bipush 8, 2) := by decide +kernel
theorem dX11_find_3 : decode cX11_find 3 = .ok (.invokestatic 91, 3) := by decide +kernel
theorem dX11_find_6 : decode cX11_find 6 = .ok (.ifCond .eq 22, 3) := by decide +kernel
theorem dX11_find_9 : decode cX11_find 9 = .ok (.iload_n 2, 1) := by decide +kernel
theorem dX11_find_10 : decode cX11_find 10 = .ok (.bipush 10, 2) := by decide +kernel
theorem dX11_find_12 : decode cX11_find 12 = .ok (.invokestatic 91, 3) := by decide +kernel
theorem dX11_find_15 : decode cX11_find 15 = .ok (.ifCond .eq 13, 3) := by decide +kernel
theorem dX11_find_18 : decode cX11_find 18 = .ok (.iload_n 3, 1) := by decide +kernel
theorem dX11_find_19 : decode cX11_find 19 = .ok (.sipush 1000, 3) := by decide +kernel
theorem dX11_find_22 : decode cX11_find 22 = .ok (.invokestatic 91, 3) := by decide +kernel
theorem dX11_find_25 : decode cX11_find 25 = .ok (.ifCond .ne 5, 3) := by decide +kernel
theorem dX11_find_28 : decode cX11_find 28 = .ok (.iconst (-1), 1) := by decide +kernel
theorem dX11_find_29 : decode cX11_find 29 = .ok (.ireturn, 1) := by decide +kernel
theorem dX11_find_30 : decode cX11_find 30 = .ok (.iload 4, 2) := by decide +kernel
theorem dX11_find_32 : decode cX11_find 32 = .ok (.bipush 24, 2) := by decide +kernel
theorem dX11_find_34 : decode cX11_find 34 = .ok (.invokestatic 91, 3) := by decide +kernel
theorem dX11_find_37 : decode cX11_find 37 = .ok (.ifCond .eq 13, 3) := by decide +kernel
theorem dX11_find_40 : decode cX11_find 40 = .ok (.iload 5, 2) := by decide +kernel
theorem dX11_find_42 : decode cX11_find 42 = .ok (.bipush 10, 2) := by decide +kernel
theorem dX11_find_44 : decode cX11_find 44 = .ok (.invokestatic 91, 3) := by decide +kernel
theorem dX11_find_47 : decode cX11_find 47 = .ok (.ifCond .ne 5, 3) := by decide +kernel
theorem dX11_find_50 : decode cX11_find 50 = .ok (.iconst (-1), 1) := by decide +kernel
theorem dX11_find_51 : decode cX11_find 51 = .ok (.ireturn, 1) := by decide +kernel
theorem dX11_find_52 : decode cX11_find 52 = .ok (.iload 6, 2) := by decide +kernel
theorem dX11_find_54 : decode cX11_find 54 = .ok (.sipush 256, 3) := by decide +kernel
theorem dX11_find_57 : decode cX11_find 57 = .ok (.invokestatic 91, 3) := by decide +kernel
theorem dX11_find_60 : decode cX11_find 60 = .ok (.ifCond .eq 13, 3) := by decide +kernel
theorem dX11_find_63 : decode cX11_find 63 = .ok (.iload 7, 2) := by decide +kernel
theorem dX11_find_65 : decode cX11_find 65 = .ok (.bipush 100, 2) := by decide +kernel
theorem dX11_find_67 : decode cX11_find 67 = .ok (.invokestatic 91, 3) := by decide +kernel
theorem dX11_find_70 : decode cX11_find 70 = .ok (.ifCond .ne 5, 3) := by decide +kernel
theorem dX11_find_73 : decode cX11_find 73 = .ok (.iconst (-1), 1) := by decide +kernel
theorem dX11_find_74 : decode cX11_find 74 = .ok (.ireturn, 1) := by decide +kernel
theorem dX11_find_75 : decode cX11_find 75 = .ok (.aload_n 0, 1) := by decide +kernel
theorem dX11_find_76 : decode cX11_find 76 = .ok (.getfield 10, 3) := by decide +kernel
theorem dX11_find_79 : decode cX11_find 79 = .ok (.iload_n 1, 1) := by decide +kernel
theorem dX11_find_80 : decode cX11_find 80 = .ok (.iload_n 2, 1) := by decide +kernel
theorem dX11_find_81 : decode cX11_find 81 = .ok (.invokevirtual 113, 3) := by decide +kernel
theorem dX11_find_84 : decode cX11_find 84 = .ok (.ifCond .eq 23, 3) := by decide +kernel
theorem dX11_find_87 : decode cX11_find 87 = .ok (.aload_n 0, 1) := by decide +kernel
theorem dX11_find_88 : decode cX11_find 88 = .ok (.getfield 19, 3) := by decide +kernel
theorem dX11_find_91 : decode cX11_find 91 = .ok (.iload_n 1, 1) := by decide +kernel
theorem dX11_find_92 : decode cX11_find 92 = .ok (.iload_n 3, 1) := by decide +kernel
theorem dX11_find_93 : decode cX11_find 93 = .ok (.iload 4, 2) := by decide +kernel
theorem dX11_find_95 : decode cX11_find 95 = .ok (.invokevirtual 116, 3) := by decide +kernel
theorem dX11_find_98 : decode cX11_find 98 = .ok (.i2l, 1) := by decide +kernel
theorem dX11_find_99 : decode cX11_find 99 = .ok (.iload 5, 2) := by decide +kernel
theorem dX11_find_101 : decode cX11_find 101 = .ok (.invokestatic 120, 3) := by decide +kernel
theorem dX11_find_104 : decode cX11_find 104 = .ok (.ifCond .ne 5, 3) := by decide +kernel
theorem dX11_find_107 : decode cX11_find 107 = .ok (.iconst (-1), 1) := by decide +kernel
theorem dX11_find_108 : decode cX11_find 108 = .ok (.ireturn, 1) := by decide +kernel
theorem dX11_find_109 : decode cX11_find 109 = .ok (.aload_n 0, 1) := by decide +kernel
theorem dX11_find_110 : decode cX11_find 110 = .ok (.getfield 26, 3) := by decide +kernel
theorem dX11_find_113 : decode cX11_find 113 = .ok (.iload_n 1, 1) := by decide +kernel
theorem dX11_find_114 : decode cX11_find 114 = .ok (.iload_n 2, 1) := by decide +kernel
theorem dX11_find_115 : decode cX11_find 115 = .ok (.iload_n 3, 1) := by decide +kernel
theorem dX11_find_116 : decode cX11_find 116 = .ok (.iload 4, 2) := by decide +kernel
theorem dX11_find_118 : decode cX11_find 118 = .ok (.iload 5, 2) := by decide +kernel
theorem dX11_find_120 : decode cX11_find 120 = .ok (.iload 6, 2) := by decide +kernel
theorem dX11_find_122 : decode cX11_find 122 = .ok (.iload 7, 2) := by decide +kernel
theorem dX11_find_124 : decode cX11_find 124 = .ok (.invokevirtual 124, 3) := by decide +kernel
theorem dX11_find_127 : decode cX11_find 127 = .ok (.istore 8, 2) := by decide +kernel
theorem dX11_find_129 : decode cX11_find 129 = .ok (.iload 8, 2) := by decide +kernel
theorem dX11_find_131 : decode cX11_find 131 = .ok (.iconst (-1), 1) := by decide +kernel
theorem dX11_find_132 : decode cX11_find 132 = .ok (.if_icmp .eq 7, 3) := by decide +kernel
theorem dX11_find_135 : decode cX11_find 135 = .ok (.aload_n 0, 1) := by decide +kernel
theorem dX11_find_136 : decode cX11_find 136 = .ok (.invokevirtual 99, 3) := by decide +kernel
theorem dX11_find_139 : decode cX11_find 139 = .ok (.iload 8, 2) := by decide +kernel
theorem dX11_find_141 : decode cX11_find 141 = .ok (.ireturn, 1) := by decide +kernel
theorem dX11_found_0 : decode cX11_found 0 = .ok (.iload_n 1, 1) := by decide +kernel
theorem dX11_found_1 : decode cX11_found 1 = .ok (.sipush 10000, 3) := by decide +kernel
theorem dX11_found_4 : decode cX11_found 4 = .ok (.invokestatic 91, 3) := by decide +kernel
theorem dX11_found_7 : decode cX11_found 7 = .ok (.ifCond .eq 12, 3) := by decide +kernel
theorem dX11_found_10 : decode cX11_found 10 = .ok (.iload_n 3, 1) := by decide +kernel
theorem dX11_found_11 : decode cX11_found 11 = .ok (.bipush 6, 2) := by decide +kernel
theorem dX11_found_13 : decode cX11_found 13 = .ok (.invokestatic 91, 3) := by decide +kernel
theorem dX11_found_16 : decode cX11_found 16 = .ok (.ifCond .ne 5, 3) := by decide +kernel
theorem dX11_found_19 : decode cX11_found 19 = .ok (.iconst (-1), 1) := by decide +kernel
theorem dX11_found_20 : decode cX11_found 20 = .ok (.ireturn, 1) := by decide +kernel
theorem dX11_found_21 : decode cX11_found 21 = .ok (.aload_n 0, 1) := by decide +kernel
theorem dX11_found_22 : decode cX11_found 22 = .ok (.getfield 83, 3) := by decide +kernel
theorem dX11_found_25 : decode cX11_found 25 = .ok (.iload_n 1, 1) := by decide +kernel
theorem dX11_found_26 : decode cX11_found 26 = .ok (.invokevirtual 327, 3) := by decide +kernel
theorem dX11_found_29 : decode cX11_found 29 = .ok (.iload_n 2, 1) := by decide +kernel
theorem dX11_found_30 : decode cX11_found 30 = .ok (.aload_n 0, 1) := by decide +kernel
theorem dX11_found_31 : decode cX11_found 31 = .ok (.getfield 83, 3) := by decide +kernel
theorem dX11_found_34 : decode cX11_found 34 = .ok (.getfield 342, 3) := by decide +kernel
theorem dX11_found_37 : decode cX11_found 37 = .ok (.invokestatic 91, 3) := by decide +kernel
theorem dX11_found_40 : decode cX11_found 40 = .ok (.ifCond .eq 15, 3) := by decide +kernel
theorem dX11_found_43 : decode cX11_found 43 = .ok (.aload_n 0, 1) := by decide +kernel
theorem dX11_found_44 : decode cX11_found 44 = .ok (.getfield 83, 3) := by decide +kernel
theorem dX11_found_47 : decode cX11_found 47 = .ok (.iload_n 2, 1) := by decide +kernel
theorem dX11_found_48 : decode cX11_found 48 = .ok (.iload_n 3, 1) := by decide +kernel
theorem dX11_found_49 : decode cX11_found 49 = .ok (.invokevirtual 343, 3) := by decide +kernel
theorem dX11_found_52 : decode cX11_found 52 = .ok (.goto 4, 3) := by decide +kernel
theorem dX11_found_55 : decode cX11_found 55 = .ok (.iconst (-1), 1) := by decide +kernel
theorem dX11_found_56 : decode cX11_found 56 = .ok (.ireturn, 1) := by decide +kernel
theorem dX11_ground_0 : decode cX11_ground 0 = .ok (.iload_n 1, 1) := by decide +kernel
theorem dX11_ground_1 : decode cX11_ground 1 = .ok (.bipush 12, 2) := by decide +kernel
theorem dX11_ground_3 : decode cX11_ground 3 = .ok (.invokestatic 91, 3) := by decide +kernel
theorem dX11_ground_6 : decode cX11_ground 6 = .ok (.ifCond .eq 21, 3) := by decide +kernel
theorem dX11_ground_9 : decode cX11_ground 9 = .ok (.lload_n 2, 1) := by decide +kernel
theorem dX11_ground_10 : decode cX11_ground 10 = .ok (.aload_n 0, 1) := by decide +kernel
theorem dX11_ground_11 : decode cX11_ground 11 = .ok (.getfield 26, 3) := by decide +kernel
theorem dX11_ground_14 : decode cX11_ground 14 = .ok (.invokevirtual 232, 3) := by decide +kernel
theorem dX11_ground_17 : decode cX11_ground 17 = .ok (.ldc2_w 189, 3) := by decide +kernel
theorem dX11_ground_20 : decode cX11_ground 20 = .ok (.lxor, 1) := by decide +kernel
theorem dX11_ground_21 : decode cX11_ground 21 = .ok (.land, 1) := by decide +kernel
theorem dX11_ground_22 : decode cX11_ground 22 = .ok (.lconst 0, 1) := by decide +kernel
theorem dX11_ground_23 : decode cX11_ground 23 = .ok (.lcmp, 1) := by decide +kernel
theorem dX11_ground_24 : decode cX11_ground 24 = .ok (.ifCond .eq 5, 3) := by decide +kernel
theorem dX11_ground_27 : decode cX11_ground 27 = .ok (.iconst 0, 1) := by decide +kernel
theorem dX11_ground_28 : decode cX11_ground 28 = .ok (.ireturn, 1) := by decide +kernel
theorem dX11_ground_29 : decode cX11_ground 29 = .ok (.iload 4, 2) := by decide +kernel
theorem dX11_ground_31 : decode cX11_ground 31 = .ok (.sipush 4096, 3) := by decide +kernel
theorem dX11_ground_34 : decode cX11_ground 34 = .ok (.invokestatic 91, 3) := by decide +kernel
theorem dX11_ground_37 : decode cX11_ground 37 = .ok (.ifCond .eq 14, 3) := by decide +kernel
theorem dX11_ground_40 : decode cX11_ground 40 = .ok (.lload_n 2, 1) := by decide +kernel
theorem dX11_ground_41 : decode cX11_ground 41 = .ok (.lconst 0, 1) := by decide +kernel
theorem dX11_ground_42 : decode cX11_ground 42 = .ok (.lcmp, 1) := by decide +kernel
theorem dX11_ground_43 : decode cX11_ground 43 = .ok (.ifCond .ne 10, 3) := by decide +kernel
theorem dX11_ground_46 : decode cX11_ground 46 = .ok (.iload 4, 2) := by decide +kernel
theorem dX11_ground_48 : decode cX11_ground 48 = .ok (.ifCond .ne 5, 3) := by decide +kernel
theorem dX11_ground_51 : decode cX11_ground 51 = .ok (.iconst 0, 1) := by decide +kernel
theorem dX11_ground_52 : decode cX11_ground 52 = .ok (.ireturn, 1) := by decide +kernel
theorem dX11_ground_53 : decode cX11_ground 53 = .ok (.aload_n 0, 1) := by decide +kernel
theorem dX11_ground_54 : decode cX11_ground 54 = .ok (.getfield 74, 3) := by decide +kernel
theorem dX11_ground_57 : decode cX11_ground 57 = .ok (.iload_n 1, 1) := by decide +kernel
theorem dX11_ground_58 : decode cX11_ground 58 = .ok (.lload_n 2, 1) := by decide +kernel
theorem dX11_ground_59 : decode cX11_ground 59 = .ok (.iload 4, 2) := by decide +kernel
theorem dX11_ground_61 : decode cX11_ground 61 = .ok (.invokevirtual 236, 3) := by decide +kernel
theorem dX11_ground_64 : decode cX11_ground 64 = .ok (.ifCond .ne 5, 3) := by decide +kernel
theorem dX11_ground_67 : decode cX11_ground 67 = .ok (.iconst 0, 1) := by decide +kernel
theorem dX11_ground_68 : decode cX11_ground 68 = .ok (.ireturn, 1) := by decide +kernel
theorem dX11_ground_69 : decode cX11_ground 69 = .ok (.aload_n 0, 1) := by decide +kernel
theorem dX11_ground_70 : decode cX11_ground 70 = .ok (.invokevirtual 99, 3) := by decide +kernel
theorem dX11_ground_73 : decode cX11_ground 73 = .ok (.iconst 1, 1) := by decide +kernel
theorem dX11_ground_74 : decode cX11_ground 74 = .ok (.ireturn, 1) := by decide +kernel
theorem dX11_hasBit_0 : decode cX11_hasBit 0 = .ok (.lload_n 0, 1) := by decide +kernel
theorem dX11_hasBit_1 : decode cX11_hasBit 1 = .ok (.iload_n 2, 1) := by decide +kernel
theorem dX11_hasBit_2 : decode cX11_hasBit 2 = .ok (.lshr, 1) := by decide +kernel
theorem dX11_hasBit_3 : decode cX11_hasBit 3 = .ok (.lconst 1, 1) := by decide +kernel
theorem dX11_hasBit_4 : decode cX11_hasBit 4 = .ok (.land, 1) := by decide +kernel
theorem dX11_hasBit_5 : decode cX11_hasBit 5 = .ok (.lconst 0, 1) := by decide +kernel
theorem dX11_hasBit_6 : decode cX11_hasBit 6 = .ok (.lcmp, 1) := by decide +kernel
theorem dX11_hasBit_7 : decode cX11_hasBit 7 = .ok (.ifCond .eq 7, 3) := by decide +kernel
theorem dX11_hasBit_10 : decode cX11_hasBit 10 = .ok (.iconst 1, 1) := by decide +kernel
theorem dX11_hasBit_11 : decode cX11_hasBit 11 = .ok (.goto 4, 3) := by decide +kernel
theorem dX11_hasBit_14 : decode cX11_hasBit 14 = .ok (.iconst 0, 1) := by decide +kernel
theorem dX11_hasBit_15 : decode cX11_hasBit 15 = .ok (.ireturn, 1) := by decide +kernel
theorem dX11_here_0 : decode cX11_here 0 = .ok (.iload_n 1, 1) := by decide +kernel
theorem dX11_here_1 : decode cX11_here 1 = .ok (.bipush 10, 2) := by decide +kernel
theorem dX11_here_3 : decode cX11_here 3 = .ok (.invokestatic 91, 3) := by decide +kernel
theorem dX11_here_6 : decode cX11_here 6 = .ok (.ifCond .eq 22, 3) := by decide +kernel
theorem dX11_here_9 : decode cX11_here 9 = .ok (.iload_n 2, 1) := by decide +kernel
theorem dX11_here_10 : decode cX11_here 10 = .ok (.bipush 8, 2) := by decide +kernel
theorem dX11_here_12 : decode cX11_here 12 = .ok (.invokestatic 91, 3) := by decide +kernel
theorem dX11_here_15 : decode cX11_here 15 = .ok (.ifCond .eq 13, 3) := by decide +kernel
theorem dX11_here_18 : decode cX11_here 18 = .ok (.iload_n 3, 1) := by decide +kernel
theorem dX11_here_19 : decode cX11_here 19 = .ok (.sipush 1000, 3) := by decide +kernel
theorem dX11_here_22 : decode cX11_here 22 = .ok (.invokestatic 91, 3) := by decide +kernel
theorem dX11_here_25 : decode cX11_here 25 = .ok (.ifCond .ne 5, 3) := by decide +kernel
theorem dX11_here_28 : decode cX11_here 28 = .ok (.iconst 0, 1) := by decide +kernel
theorem dX11_here_29 : decode cX11_here 29 = .ok (.ireturn, 1) := by decide +kernel
theorem dX11_here_30 : decode cX11_here 30 = .ok (.iload 4, 2) := by decide +kernel
theorem dX11_here_32 : decode cX11_here 32 = .ok (.bipush 24, 2) := by decide +kernel
theorem dX11_here_34 : decode cX11_here 34 = .ok (.invokestatic 91, 3) := by decide +kernel
theorem dX11_here_37 : decode cX11_here 37 = .ok (.ifCond .eq 20, 3) := by decide +kernel
theorem dX11_here_40 : decode cX11_here 40 = .ok (.iload 5, 2) := by decide +kernel
theorem dX11_here_42 : decode cX11_here 42 = .ok (.bipush 24, 2) := by decide +kernel
theorem dX11_here_44 : decode cX11_here 44 = .ok (.invokestatic 91, 3) := by decide +kernel
theorem dX11_here_47 : decode cX11_here 47 = .ok (.ifCond .eq 10, 3) := by decide +kernel
theorem dX11_here_50 : decode cX11_here 50 = .ok (.iload 4, 2) := by decide +kernel
theorem dX11_here_52 : decode cX11_here 52 = .ok (.iload 5, 2) := by decide +kernel
theorem dX11_here_54 : decode cX11_here 54 = .ok (.if_icmp .le 5, 3) := by decide +kernel
theorem dX11_here_57 : decode cX11_here 57 = .ok (.iconst 0, 1) := by decide +kernel
theorem dX11_here_58 : decode cX11_here 58 = .ok (.ireturn, 1) := by decide +kernel
theorem dX11_here_59 : decode cX11_here 59 = .ok (.aload_n 0, 1) := by decide +kernel
theorem dX11_here_60 : decode cX11_here 60 = .ok (.getfield 19, 3) := by decide +kernel
theorem dX11_here_63 : decode cX11_here 63 = .ok (.iload_n 1, 1) := by decide +kernel
theorem dX11_here_64 : decode cX11_here 64 = .ok (.iload_n 2, 1) := by decide +kernel
theorem dX11_here_65 : decode cX11_here 65 = .ok (.iload_n 3, 1) := by decide +kernel
theorem dX11_here_66 : decode cX11_here 66 = .ok (.iload 4, 2) := by decide +kernel
theorem dX11_here_68 : decode cX11_here 68 = .ok (.iload 5, 2) := by decide +kernel
theorem dX11_here_70 : decode cX11_here 70 = .ok (.invokestatic 105, 3) := by decide +kernel
theorem dX11_here_73 : decode cX11_here 73 = .ok (.invokevirtual 109, 3) := by decide +kernel
theorem dX11_here_76 : decode cX11_here 76 = .ok (.ifCond .ne 5, 3) := by decide +kernel
theorem dX11_here_79 : decode cX11_here 79 = .ok (.iconst 0, 1) := by decide +kernel
theorem dX11_here_80 : decode cX11_here 80 = .ok (.ireturn, 1) := by decide +kernel
theorem dX11_here_81 : decode cX11_here 81 = .ok (.aload_n 0, 1) := by decide +kernel
theorem dX11_here_82 : decode cX11_here 82 = .ok (.invokevirtual 99, 3) := by decide +kernel
theorem dX11_here_85 : decode cX11_here 85 = .ok (.iconst 1, 1) := by decide +kernel
theorem dX11_here_86 : decode cX11_here 86 = .ok (.ireturn, 1) := by decide +kernel
theorem dX11_hoursAhead_0 : decode cX11_hoursAhead 0 = .ok (.iconst 1, 1) := by decide +kernel
theorem dX11_hoursAhead_1 : decode cX11_hoursAhead 1 = .ok (.iload_n 0, 1) := by decide +kernel
theorem dX11_hoursAhead_2 : decode cX11_hoursAhead 2 = .ok (.ishl, 1) := by decide +kernel
theorem dX11_hoursAhead_3 : decode cX11_hoursAhead 3 = .ok (.iconst 1, 1) := by decide +kernel
theorem dX11_hoursAhead_4 : decode cX11_hoursAhead 4 = .ok (.isub, 1) := by decide +kernel
theorem dX11_hoursAhead_5 : decode cX11_hoursAhead 5 = .ok (.ireturn, 1) := by decide +kernel
theorem dX11_hoursFrom_0 : decode cX11_hoursFrom 0 = .ok (.iconst 2, 1) := by decide +kernel
theorem dX11_hoursFrom_1 : decode cX11_hoursFrom 1 = .ok (.iload_n 1, 1) := by decide +kernel
theorem dX11_hoursFrom_2 : decode cX11_hoursFrom 2 = .ok (.ishl, 1) := by decide +kernel
theorem dX11_hoursFrom_3 : decode cX11_hoursFrom 3 = .ok (.iconst 1, 1) := by decide +kernel
theorem dX11_hoursFrom_4 : decode cX11_hoursFrom 4 = .ok (.iload_n 0, 1) := by decide +kernel
theorem dX11_hoursFrom_5 : decode cX11_hoursFrom 5 = .ok (.ishl, 1) := by decide +kernel
theorem dX11_hoursFrom_6 : decode cX11_hoursFrom 6 = .ok (.isub, 1) := by decide +kernel
theorem dX11_hoursFrom_7 : decode cX11_hoursFrom 7 = .ok (.ireturn, 1) := by decide +kernel
theorem dX11_law_0 : decode cX11_law 0 = .ok (.aload_n 0, 1) := by decide +kernel
theorem dX11_law_1 : decode cX11_law 1 = .ok (.getfield 47, 3) := by decide +kernel
theorem dX11_law_4 : decode cX11_law 4 = .ok (.invokevirtual 135, 3) := by decide +kernel
theorem dX11_law_7 : decode cX11_law 7 = .ok (.istore_n 1, 1) := by decide +kernel
theorem dX11_law_8 : decode cX11_law 8 = .ok (.iload_n 1, 1) := by decide +kernel
theorem dX11_law_9 : decode cX11_law 9 = .ok (.ifCond .ne 21, 3) := by decide +kernel
theorem dX11_law_12 : decode cX11_law 12 = .ok (.aload_n 0, 1) := by decide +kernel
theorem dX11_law_13 : decode cX11_law 13 = .ok (.getfield 40, 3) := by decide +kernel
theorem dX11_law_16 : decode cX11_law 16 = .ok (.aload_n 0, 1) := by decide +kernel
theorem dX11_law_17 : decode cX11_law 17 = .ok (.getfield 47, 3) := by decide +kernel
theorem dX11_law_20 : decode cX11_law 20 = .ok (.getfield 139, 3) := by decide +kernel
theorem dX11_law_23 : decode cX11_law 23 = .ok (.invokevirtual 142, 3) := by decide +kernel
theorem dX11_law_26 : decode cX11_law 26 = .ok (.aload_n 0, 1) := by decide +kernel
theorem dX11_law_27 : decode cX11_law 27 = .ok (.invokevirtual 99, 3) := by decide +kernel
theorem dX11_law_30 : decode cX11_law 30 = .ok (.iload_n 1, 1) := by decide +kernel
theorem dX11_law_31 : decode cX11_law 31 = .ok (.ireturn, 1) := by decide +kernel
theorem dX11_layer_0 : decode cX11_layer 0 = .ok (.iload_n 1, 1) := by decide +kernel
theorem dX11_layer_1 : decode cX11_layer 1 = .ok (.bipush 8, 2) := by decide +kernel
theorem dX11_layer_3 : decode cX11_layer 3 = .ok (.invokestatic 91, 3) := by decide +kernel
theorem dX11_layer_6 : decode cX11_layer 6 = .ok (.ifCond .eq 22, 3) := by decide +kernel
theorem dX11_layer_9 : decode cX11_layer 9 = .ok (.iload_n 2, 1) := by decide +kernel
theorem dX11_layer_10 : decode cX11_layer 10 = .ok (.bipush 10, 2) := by decide +kernel
theorem dX11_layer_12 : decode cX11_layer 12 = .ok (.invokestatic 91, 3) := by decide +kernel
theorem dX11_layer_15 : decode cX11_layer 15 = .ok (.ifCond .eq 13, 3) := by decide +kernel
theorem dX11_layer_18 : decode cX11_layer 18 = .ok (.iload_n 3, 1) := by decide +kernel
theorem dX11_layer_19 : decode cX11_layer 19 = .ok (.sipush 10000, 3) := by decide +kernel
theorem dX11_layer_22 : decode cX11_layer 22 = .ok (.invokestatic 91, 3) := by decide +kernel
theorem dX11_layer_25 : decode cX11_layer 25 = .ok (.ifCond .ne 5, 3) := by decide +kernel
theorem dX11_layer_28 : decode cX11_layer 28 = .ok (.iconst 0, 1) := by decide +kernel
theorem dX11_layer_29 : decode cX11_layer 29 = .ok (.ireturn, 1) := by decide +kernel
theorem dX11_layer_30 : decode cX11_layer 30 = .ok (.aload_n 0, 1) := by decide +kernel
theorem dX11_layer_31 : decode cX11_layer 31 = .ok (.getfield 10, 3) := by decide +kernel
theorem dX11_layer_34 : decode cX11_layer 34 = .ok (.iload_n 1, 1) := by decide +kernel
theorem dX11_layer_35 : decode cX11_layer 35 = .ok (.iload_n 2, 1) := by decide +kernel
theorem dX11_layer_36 : decode cX11_layer 36 = .ok (.iload_n 3, 1) := by decide +kernel
theorem dX11_layer_37 : decode cX11_layer 37 = .ok (.invokevirtual 95, 3) := by decide +kernel
theorem dX11_layer_40 : decode cX11_layer 40 = .ok (.aload_n 0, 1) := by decide +kernel
theorem dX11_layer_41 : decode cX11_layer 41 = .ok (.invokevirtual 99, 3) := by decide +kernel
theorem dX11_layer_44 : decode cX11_layer 44 = .ok (.iconst 1, 1) := by decide +kernel
theorem dX11_layer_45 : decode cX11_layer 45 = .ok (.ireturn, 1) := by decide +kernel
theorem dX11_luck_0 : decode cX11_luck 0 = .ok (.iload_n 1, 1) := by decide +kernel
theorem dX11_luck_1 : decode cX11_luck 1 = .ok (.iconst 1, 1) := by decide +kernel
theorem dX11_luck_2 : decode cX11_luck 2 = .ok (.if_icmp .lt 41, 3) := by decide +kernel
theorem dX11_luck_5 : decode cX11_luck 5 = .ok (.iload_n 1, 1) := by decide +kernel
theorem dX11_luck_6 : decode cX11_luck 6 = .ok (.bipush 9, 2) := by decide +kernel
theorem dX11_luck_8 : decode cX11_luck 8 = .ok (.if_icmp .gt 35, 3) := by decide +kernel
theorem dX11_luck_11 : decode cX11_luck 11 = .ok (.iload_n 2, 1) := by decide +kernel
theorem dX11_luck_12 : decode cX11_luck 12 = .ok (.iconst 1, 1) := by decide +kernel
theorem dX11_luck_13 : decode cX11_luck 13 = .ok (.if_icmp .lt 30, 3) := by decide +kernel
theorem dX11_luck_16 : decode cX11_luck 16 = .ok (.iload_n 2, 1) := by decide +kernel
theorem dX11_luck_17 : decode cX11_luck 17 = .ok (.bipush 6, 2) := by decide +kernel
theorem dX11_luck_19 : decode cX11_luck 19 = .ok (.if_icmp .gt 24, 3) := by decide +kernel
theorem dX11_luck_22 : decode cX11_luck 22 = .ok (.iload_n 3, 1) := by decide +kernel
theorem dX11_luck_23 : decode cX11_luck 23 = .ok (.ifCond .lt 20, 3) := by decide +kernel
theorem dX11_luck_26 : decode cX11_luck 26 = .ok (.iload_n 3, 1) := by decide +kernel
theorem dX11_luck_27 : decode cX11_luck 27 = .ok (.iload_n 2, 1) := by decide +kernel
theorem dX11_luck_28 : decode cX11_luck 28 = .ok (.if_icmp .gt 15, 3) := by decide +kernel
theorem dX11_luck_31 : decode cX11_luck 31 = .ok (.iload 4, 2) := by decide +kernel
theorem dX11_luck_33 : decode cX11_luck 33 = .ok (.iconst 1, 1) := by decide +kernel
theorem dX11_luck_34 : decode cX11_luck 34 = .ok (.if_icmp .lt 9, 3) := by decide +kernel
theorem dX11_luck_37 : decode cX11_luck 37 = .ok (.iload 4, 2) := by decide +kernel
theorem dX11_luck_39 : decode cX11_luck 39 = .ok (.iconst 3, 1) := by decide +kernel
theorem dX11_luck_40 : decode cX11_luck 40 = .ok (.if_icmp .le 7, 3) := by decide +kernel
theorem dX11_luck_43 : decode cX11_luck 43 = .ok (.ldc2_w 189, 3) := by decide +kernel
theorem dX11_luck_46 : decode cX11_luck 46 = .ok (.lreturn, 1) := by decide +kernel
theorem dX11_luck_47 : decode cX11_luck 47 = .ok (.iload 5, 2) := by decide +kernel
theorem dX11_luck_49 : decode cX11_luck 49 = .ok (.iconst 2, 1) := by decide +kernel
theorem dX11_luck_50 : decode cX11_luck 50 = .ok (.invokestatic 91, 3) := by decide +kernel
theorem dX11_luck_53 : decode cX11_luck 53 = .ok (.ifCond .ne 7, 3) := by decide +kernel
theorem dX11_luck_56 : decode cX11_luck 56 = .ok (.ldc2_w 189, 3) := by decide +kernel
theorem dX11_luck_59 : decode cX11_luck 59 = .ok (.lreturn, 1) := by decide +kernel
theorem dX11_luck_60 : decode cX11_luck 60 = .ok (.ldc2_w 205, 3) := by decide +kernel
theorem dX11_luck_63 : decode cX11_luck 63 = .ok (.iload_n 2, 1) := by decide +kernel
theorem dX11_luck_64 : decode cX11_luck 64 = .ok (.invokestatic 207, 3) := by decide +kernel
theorem dX11_luck_67 : decode cX11_luck 67 = .ok (.iload 4, 2) := by decide +kernel
theorem dX11_luck_69 : decode cX11_luck 69 = .ok (.invokestatic 207, 3) := by decide +kernel
theorem dX11_luck_72 : decode cX11_luck 72 = .ok (.lstore 6, 2) := by decide +kernel
theorem dX11_luck_74 : decode cX11_luck 74 = .ok (.ldc2_w 205, 3) := by decide +kernel
theorem dX11_luck_77 : decode cX11_luck 77 = .ok (.iload_n 2, 1) := by decide +kernel
theorem dX11_luck_78 : decode cX11_luck 78 = .ok (.invokestatic 207, 3) := by decide +kernel
theorem dX11_luck_81 : decode cX11_luck 81 = .ok (.iload_n 1, 1) := by decide +kernel
theorem dX11_luck_82 : decode cX11_luck 82 = .ok (.iload_n 2, 1) := by decide +kernel
theorem dX11_luck_83 : decode cX11_luck 83 = .ok (.iload_n 3, 1) := by decide +kernel
theorem dX11_luck_84 : decode cX11_luck 84 = .ok (.invokestatic 211, 3) := by decide +kernel
theorem dX11_luck_87 : decode cX11_luck 87 = .ok (.lsub, 1) := by decide +kernel
theorem dX11_luck_88 : decode cX11_luck 88 = .ok (.iload 4, 2) := by decide +kernel
theorem dX11_luck_90 : decode cX11_luck 90 = .ok (.invokestatic 207, 3) := by decide +kernel
theorem dX11_luck_93 : decode cX11_luck 93 = .ok (.lstore 8, 2) := by decide +kernel
theorem dX11_luck_95 : decode cX11_luck 95 = .ok (.lload 6, 2) := by decide +kernel
theorem dX11_luck_97 : decode cX11_luck 97 = .ok (.lload 8, 2) := by decide +kernel
theorem dX11_luck_99 : decode cX11_luck 99 = .ok (.lsub, 1) := by decide +kernel
theorem dX11_luck_100 : decode cX11_luck 100 = .ok (.lload 6, 2) := by decide +kernel
theorem dX11_luck_102 : decode cX11_luck 102 = .ok (.iload 5, 2) := by decide +kernel
theorem dX11_luck_104 : decode cX11_luck 104 = .ok (.invokestatic 201, 3) := by decide +kernel
theorem dX11_luck_107 : decode cX11_luck 107 = .ok (.lreturn, 1) := by decide +kernel
theorem dX11_mark_0 : decode cX11_mark 0 = .ok (.iload_n 1, 1) := by decide +kernel
theorem dX11_mark_1 : decode cX11_mark 1 = .ok (.iconst 4, 1) := by decide +kernel
theorem dX11_mark_2 : decode cX11_mark 2 = .ok (.invokestatic 91, 3) := by decide +kernel
theorem dX11_mark_5 : decode cX11_mark 5 = .ok (.ifCond .ne 5, 3) := by decide +kernel
theorem dX11_mark_8 : decode cX11_mark 8 = .ok (.iconst 0, 1) := by decide +kernel
theorem dX11_mark_9 : decode cX11_mark 9 = .ok (.ireturn, 1) := by decide +kernel
theorem dX11_mark_10 : decode cX11_mark 10 = .ok (.iload_n 2, 1) := by decide +kernel
theorem dX11_mark_11 : decode cX11_mark 11 = .ok (.ifCond .ne 31, 3) := by decide +kernel
theorem dX11_mark_14 : decode cX11_mark 14 = .ok (.aload_n 0, 1) := by decide +kernel
theorem dX11_mark_15 : decode cX11_mark 15 = .ok (.getfield 33, 3) := by decide +kernel
theorem dX11_mark_18 : decode cX11_mark 18 = .ok (.iload_n 1, 1) := by decide +kernel
theorem dX11_mark_19 : decode cX11_mark 19 = .ok (.aload_n 0, 1) := by decide +kernel
theorem dX11_mark_20 : decode cX11_mark 20 = .ok (.getfield 26, 3) := by decide +kernel
theorem dX11_mark_23 : decode cX11_mark 23 = .ok (.aload_n 0, 1) := by decide +kernel
theorem dX11_mark_24 : decode cX11_mark 24 = .ok (.getfield 19, 3) := by decide +kernel
theorem dX11_mark_27 : decode cX11_mark 27 = .ok (.getfield 294, 3) := by decide +kernel
theorem dX11_mark_30 : decode cX11_mark 30 = .ok (.aload_n 0, 1) := by decide +kernel
theorem dX11_mark_31 : decode cX11_mark 31 = .ok (.getfield 74, 3) := by decide +kernel
theorem dX11_mark_34 : decode cX11_mark 34 = .ok (.getfield 295, 3) := by decide +kernel
theorem dX11_mark_37 : decode cX11_mark 37 = .ok (.invokevirtual 296, 3) := by decide +kernel
theorem dX11_mark_40 : decode cX11_mark 40 = .ok (.iconst 1, 1) := by decide +kernel
theorem dX11_mark_41 : decode cX11_mark 41 = .ok (.ireturn, 1) := by decide +kernel
theorem dX11_mark_42 : decode cX11_mark 42 = .ok (.aload_n 0, 1) := by decide +kernel
theorem dX11_mark_43 : decode cX11_mark 43 = .ok (.getfield 33, 3) := by decide +kernel
theorem dX11_mark_46 : decode cX11_mark 46 = .ok (.iload_n 1, 1) := by decide +kernel
theorem dX11_mark_47 : decode cX11_mark 47 = .ok (.invokevirtual 300, 3) := by decide +kernel
theorem dX11_mark_50 : decode cX11_mark 50 = .ok (.ifCond .ne 5, 3) := by decide +kernel
theorem dX11_mark_53 : decode cX11_mark 53 = .ok (.iconst 0, 1) := by decide +kernel
theorem dX11_mark_54 : decode cX11_mark 54 = .ok (.ireturn, 1) := by decide +kernel
theorem dX11_mark_55 : decode cX11_mark 55 = .ok (.aload_n 0, 1) := by decide +kernel
theorem dX11_mark_56 : decode cX11_mark 56 = .ok (.getfield 26, 3) := by decide +kernel
theorem dX11_mark_59 : decode cX11_mark 59 = .ok (.aload_n 0, 1) := by decide +kernel
theorem dX11_mark_60 : decode cX11_mark 60 = .ok (.getfield 33, 3) := by decide +kernel
theorem dX11_mark_63 : decode cX11_mark 63 = .ok (.iload_n 1, 1) := by decide +kernel
theorem dX11_mark_64 : decode cX11_mark 64 = .ok (.iconst 0, 1) := by decide +kernel
theorem dX11_mark_65 : decode cX11_mark 65 = .ok (.invokevirtual 303, 3) := by decide +kernel
theorem dX11_mark_68 : decode cX11_mark 68 = .ok (.putfield 146, 3) := by decide +kernel
theorem dX11_mark_71 : decode cX11_mark 71 = .ok (.aload_n 0, 1) := by decide +kernel
theorem dX11_mark_72 : decode cX11_mark 72 = .ok (.getfield 26, 3) := by decide +kernel
theorem dX11_mark_75 : decode cX11_mark 75 = .ok (.aload_n 0, 1) := by decide +kernel
theorem dX11_mark_76 : decode cX11_mark 76 = .ok (.getfield 33, 3) := by decide +kernel
theorem dX11_mark_79 : decode cX11_mark 79 = .ok (.iload_n 1, 1) := by decide +kernel
theorem dX11_mark_80 : decode cX11_mark 80 = .ok (.iconst 2, 1) := by decide +kernel
theorem dX11_mark_81 : decode cX11_mark 81 = .ok (.invokevirtual 303, 3) := by decide +kernel
theorem dX11_mark_84 : decode cX11_mark 84 = .ok (.putfield 306, 3) := by decide +kernel
theorem dX11_mark_87 : decode cX11_mark 87 = .ok (.aload_n 0, 1) := by decide +kernel
theorem dX11_mark_88 : decode cX11_mark 88 = .ok (.getfield 26, 3) := by decide +kernel
theorem dX11_mark_91 : decode cX11_mark 91 = .ok (.aload_n 0, 1) := by decide +kernel
theorem dX11_mark_92 : decode cX11_mark 92 = .ok (.getfield 33, 3) := by decide +kernel
theorem dX11_mark_95 : decode cX11_mark 95 = .ok (.iload_n 1, 1) := by decide +kernel
theorem dX11_mark_96 : decode cX11_mark 96 = .ok (.iconst 3, 1) := by decide +kernel
theorem dX11_mark_97 : decode cX11_mark 97 = .ok (.invokevirtual 303, 3) := by decide +kernel
theorem dX11_mark_100 : decode cX11_mark 100 = .ok (.putfield 309, 3) := by decide +kernel
theorem dX11_mark_103 : decode cX11_mark 103 = .ok (.aload_n 0, 1) := by decide +kernel
theorem dX11_mark_104 : decode cX11_mark 104 = .ok (.getfield 19, 3) := by decide +kernel
theorem dX11_mark_107 : decode cX11_mark 107 = .ok (.aload_n 0, 1) := by decide +kernel
theorem dX11_mark_108 : decode cX11_mark 108 = .ok (.getfield 33, 3) := by decide +kernel
theorem dX11_mark_111 : decode cX11_mark 111 = .ok (.iload_n 1, 1) := by decide +kernel
theorem dX11_mark_112 : decode cX11_mark 112 = .ok (.iconst 1, 1) := by decide +kernel
theorem dX11_mark_113 : decode cX11_mark 113 = .ok (.invokevirtual 303, 3) := by decide +kernel
theorem dX11_mark_116 : decode cX11_mark 116 = .ok (.invokevirtual 312, 3) := by decide +kernel
theorem dX11_mark_119 : decode cX11_mark 119 = .ok (.aload_n 0, 1) := by decide +kernel
theorem dX11_mark_120 : decode cX11_mark 120 = .ok (.getfield 74, 3) := by decide +kernel
theorem dX11_mark_123 : decode cX11_mark 123 = .ok (.aload_n 0, 1) := by decide +kernel
theorem dX11_mark_124 : decode cX11_mark 124 = .ok (.getfield 33, 3) := by decide +kernel
theorem dX11_mark_127 : decode cX11_mark 127 = .ok (.iload_n 1, 1) := by decide +kernel
theorem dX11_mark_128 : decode cX11_mark 128 = .ok (.iconst 4, 1) := by decide +kernel
theorem dX11_mark_129 : decode cX11_mark 129 = .ok (.invokevirtual 303, 3) := by decide +kernel
theorem dX11_mark_132 : decode cX11_mark 132 = .ok (.putfield 295, 3) := by decide +kernel
theorem dX11_mark_135 : decode cX11_mark 135 = .ok (.aload_n 0, 1) := by decide +kernel
theorem dX11_mark_136 : decode cX11_mark 136 = .ok (.invokevirtual 99, 3) := by decide +kernel
theorem dX11_mark_139 : decode cX11_mark 139 = .ok (.iconst 1, 1) := by decide +kernel
theorem dX11_mark_140 : decode cX11_mark 140 = .ok (.ireturn, 1) := by decide +kernel
theorem dX11_may_0 : decode cX11_may 0 = .ok (.iload_n 1, 1) := by decide +kernel
theorem dX11_may_1 : decode cX11_may 1 = .ok (.aload_n 0, 1) := by decide +kernel
theorem dX11_may_2 : decode cX11_may 2 = .ok (.getfield 26, 3) := by decide +kernel
theorem dX11_may_5 : decode cX11_may 5 = .ok (.getfield 146, 3) := by decide +kernel
theorem dX11_may_8 : decode cX11_may 8 = .ok (.invokestatic 91, 3) := by decide +kernel
theorem dX11_may_11 : decode cX11_may 11 = .ok (.ifCond .ne 5, 3) := by decide +kernel
theorem dX11_may_14 : decode cX11_may 14 = .ok (.iconst (-1), 1) := by decide +kernel
theorem dX11_may_15 : decode cX11_may 15 = .ok (.ireturn, 1) := by decide +kernel
theorem dX11_may_16 : decode cX11_may 16 = .ok (.aload_n 0, 1) := by decide +kernel
theorem dX11_may_17 : decode cX11_may 17 = .ok (.iconst 2, 1) := by decide +kernel
theorem dX11_may_18 : decode cX11_may 18 = .ok (.invokevirtual 156, 3) := by decide +kernel
theorem dX11_may_21 : decode cX11_may 21 = .ok (.aload_n 0, 1) := by decide +kernel
theorem dX11_may_22 : decode cX11_may 22 = .ok (.getfield 65, 3) := by decide +kernel
theorem dX11_may_25 : decode cX11_may 25 = .ok (.getfield 222, 3) := by decide +kernel
theorem dX11_may_28 : decode cX11_may 28 = .ok (.iload_n 1, 1) := by decide +kernel
theorem dX11_may_29 : decode cX11_may 29 = .ok (.iaload, 1) := by decide +kernel
theorem dX11_may_30 : decode cX11_may 30 = .ok (.ireturn, 1) := by decide +kernel
theorem dX11_odds_0 : decode cX11_odds 0 = .ok (.iload_n 1, 1) := by decide +kernel
theorem dX11_odds_1 : decode cX11_odds 1 = .ok (.bipush 10, 2) := by decide +kernel
theorem dX11_odds_3 : decode cX11_odds 3 = .ok (.invokestatic 91, 3) := by decide +kernel
theorem dX11_odds_6 : decode cX11_odds 6 = .ok (.ifCond .eq 19, 3) := by decide +kernel
theorem dX11_odds_9 : decode cX11_odds 9 = .ok (.iload_n 2, 1) := by decide +kernel
theorem dX11_odds_10 : decode cX11_odds 10 = .ok (.iconst 3, 1) := by decide +kernel
theorem dX11_odds_11 : decode cX11_odds 11 = .ok (.invokestatic 91, 3) := by decide +kernel
theorem dX11_odds_14 : decode cX11_odds 14 = .ok (.ifCond .eq 11, 3) := by decide +kernel
theorem dX11_odds_17 : decode cX11_odds 17 = .ok (.iload_n 3, 1) := by decide +kernel
theorem dX11_odds_18 : decode cX11_odds 18 = .ok (.iconst 2, 1) := by decide +kernel
theorem dX11_odds_19 : decode cX11_odds 19 = .ok (.invokestatic 91, 3) := by decide +kernel
theorem dX11_odds_22 : decode cX11_odds 22 = .ok (.ifCond .ne 7, 3) := by decide +kernel
theorem dX11_odds_25 : decode cX11_odds 25 = .ok (.ldc2_w 189, 3) := by decide +kernel
theorem dX11_odds_28 : decode cX11_odds 28 = .ok (.lreturn, 1) := by decide +kernel
theorem dX11_odds_29 : decode cX11_odds 29 = .ok (.aload_n 0, 1) := by decide +kernel
theorem dX11_odds_30 : decode cX11_odds 30 = .ok (.iconst 1, 1) := by decide +kernel
theorem dX11_odds_31 : decode cX11_odds 31 = .ok (.invokevirtual 156, 3) := by decide +kernel
theorem dX11_odds_34 : decode cX11_odds 34 = .ok (.aload_n 0, 1) := by decide +kernel
theorem dX11_odds_35 : decode cX11_odds 35 = .ok (.getfield 56, 3) := by decide +kernel
theorem dX11_odds_38 : decode cX11_odds 38 = .ok (.iconst (-1), 1) := by decide +kernel
theorem dX11_odds_39 : decode cX11_odds 39 = .ok (.invokevirtual 182, 3) := by decide +kernel
theorem dX11_odds_42 : decode cX11_odds 42 = .ok (.istore 4, 2) := by decide +kernel
theorem dX11_odds_44 : decode cX11_odds 44 = .ok (.aload_n 0, 1) := by decide +kernel
theorem dX11_odds_45 : decode cX11_odds 45 = .ok (.getfield 56, 3) := by decide +kernel
theorem dX11_odds_48 : decode cX11_odds 48 = .ok (.iconst (-1), 1) := by decide +kernel
theorem dX11_odds_49 : decode cX11_odds 49 = .ok (.iload_n 2, 1) := by decide +kernel
theorem dX11_odds_50 : decode cX11_odds 50 = .ok (.invokevirtual 186, 3) := by decide +kernel
theorem dX11_odds_53 : decode cX11_odds 53 = .ok (.istore 5, 2) := by decide +kernel
theorem dX11_odds_55 : decode cX11_odds 55 = .ok (.aload_n 0, 1) := by decide +kernel
theorem dX11_odds_56 : decode cX11_odds 56 = .ok (.getfield 56, 3) := by decide +kernel
theorem dX11_odds_59 : decode cX11_odds 59 = .ok (.iload_n 1, 1) := by decide +kernel
theorem dX11_odds_60 : decode cX11_odds 60 = .ok (.invokevirtual 182, 3) := by decide +kernel
theorem dX11_odds_63 : decode cX11_odds 63 = .ok (.istore 6, 2) := by decide +kernel
theorem dX11_odds_65 : decode cX11_odds 65 = .ok (.aload_n 0, 1) := by decide +kernel
theorem dX11_odds_66 : decode cX11_odds 66 = .ok (.getfield 56, 3) := by decide +kernel
theorem dX11_odds_69 : decode cX11_odds 69 = .ok (.iload_n 1, 1) := by decide +kernel
theorem dX11_odds_70 : decode cX11_odds 70 = .ok (.iload_n 2, 1) := by decide +kernel
theorem dX11_odds_71 : decode cX11_odds 71 = .ok (.invokevirtual 186, 3) := by decide +kernel
theorem dX11_odds_74 : decode cX11_odds 74 = .ok (.istore 7, 2) := by decide +kernel
theorem dX11_odds_76 : decode cX11_odds 76 = .ok (.iload 4, 2) := by decide +kernel
theorem dX11_odds_78 : decode cX11_odds 78 = .ok (.iload 5, 2) := by decide +kernel
theorem dX11_odds_80 : decode cX11_odds 80 = .ok (.iload 6, 2) := by decide +kernel
theorem dX11_odds_82 : decode cX11_odds 82 = .ok (.iload 7, 2) := by decide +kernel
theorem dX11_odds_84 : decode cX11_odds 84 = .ok (.invokestatic 191, 3) := by decide +kernel
theorem dX11_odds_87 : decode cX11_odds 87 = .ok (.lstore 8, 2) := by decide +kernel
theorem dX11_odds_89 : decode cX11_odds 89 = .ok (.lload 8, 2) := by decide +kernel
theorem dX11_odds_91 : decode cX11_odds 91 = .ok (.iload 4, 2) := by decide +kernel
theorem dX11_odds_93 : decode cX11_odds 93 = .ok (.iload 6, 2) := by decide +kernel
theorem dX11_odds_95 : decode cX11_odds 95 = .ok (.invokestatic 197, 3) := by decide +kernel
theorem dX11_odds_98 : decode cX11_odds 98 = .ok (.iload_n 3, 1) := by decide +kernel
theorem dX11_odds_99 : decode cX11_odds 99 = .ok (.invokestatic 201, 3) := by decide +kernel
theorem dX11_odds_102 : decode cX11_odds 102 = .ok (.lreturn, 1) := by decide +kernel
theorem dX11_oldest_0 : decode cX11_oldest 0 = .ok (.iload_n 1, 1) := by decide +kernel
theorem dX11_oldest_1 : decode cX11_oldest 1 = .ok (.iconst (-1), 1) := by decide +kernel
theorem dX11_oldest_2 : decode cX11_oldest 2 = .ok (.if_icmp .eq 14, 3) := by decide +kernel
theorem dX11_oldest_5 : decode cX11_oldest 5 = .ok (.iload_n 1, 1) := by decide +kernel
theorem dX11_oldest_6 : decode cX11_oldest 6 = .ok (.bipush 10, 2) := by decide +kernel
theorem dX11_oldest_8 : decode cX11_oldest 8 = .ok (.invokestatic 91, 3) := by decide +kernel
theorem dX11_oldest_11 : decode cX11_oldest 11 = .ok (.ifCond .ne 5, 3) := by decide +kernel
theorem dX11_oldest_14 : decode cX11_oldest 14 = .ok (.iconst (-1), 1) := by decide +kernel
theorem dX11_oldest_15 : decode cX11_oldest 15 = .ok (.ireturn, 1) := by decide +kernel
theorem dX11_oldest_16 : decode cX11_oldest 16 = .ok (.iconst (-1), 1) := by decide +kernel
theorem dX11_oldest_17 : decode cX11_oldest 17 = .ok (.istore_n 2, 1) := by decide +kernel
theorem dX11_oldest_18 : decode cX11_oldest 18 = .ok (.iconst 0, 1) := by decide +kernel
theorem dX11_oldest_19 : decode cX11_oldest 19 = .ok (.istore_n 3, 1) := by decide +kernel
theorem dX11_oldest_20 : decode cX11_oldest 20 = .ok (.iload_n 3, 1) := by decide +kernel
theorem dX11_oldest_21 : decode cX11_oldest 21 = .ok (.aload_n 0, 1) := by decide +kernel
theorem dX11_oldest_22 : decode cX11_oldest 22 = .ok (.getfield 26, 3) := by decide +kernel
theorem dX11_oldest_25 : decode cX11_oldest 25 = .ok (.getfield 146, 3) := by decide +kernel
theorem dX11_oldest_28 : decode cX11_oldest 28 = .ok (.if_icmp .ge 52, 3) := by decide +kernel
theorem dX11_oldest_31 : decode cX11_oldest 31 = .ok (.aload_n 0, 1) := by decide +kernel
theorem dX11_oldest_32 : decode cX11_oldest 32 = .ok (.getfield 26, 3) := by decide +kernel
theorem dX11_oldest_35 : decode cX11_oldest 35 = .ok (.getfield 170, 3) := by decide +kernel
theorem dX11_oldest_38 : decode cX11_oldest 38 = .ok (.iload_n 3, 1) := by decide +kernel
theorem dX11_oldest_39 : decode cX11_oldest 39 = .ok (.iaload, 1) := by decide +kernel
theorem dX11_oldest_40 : decode cX11_oldest 40 = .ok (.iload_n 1, 1) := by decide +kernel
theorem dX11_oldest_41 : decode cX11_oldest 41 = .ok (.if_icmp .eq 33, 3) := by decide +kernel
theorem dX11_oldest_44 : decode cX11_oldest 44 = .ok (.iload_n 2, 1) := by decide +kernel
theorem dX11_oldest_45 : decode cX11_oldest 45 = .ok (.aload_n 0, 1) := by decide +kernel
theorem dX11_oldest_46 : decode cX11_oldest 46 = .ok (.getfield 10, 3) := by decide +kernel
theorem dX11_oldest_49 : decode cX11_oldest 49 = .ok (.aload_n 0, 1) := by decide +kernel
theorem dX11_oldest_50 : decode cX11_oldest 50 = .ok (.getfield 26, 3) := by decide +kernel
theorem dX11_oldest_53 : decode cX11_oldest 53 = .ok (.getfield 164, 3) := by decide +kernel
theorem dX11_oldest_56 : decode cX11_oldest 56 = .ok (.iload_n 3, 1) := by decide +kernel
theorem dX11_oldest_57 : decode cX11_oldest 57 = .ok (.iaload, 1) := by decide +kernel
theorem dX11_oldest_58 : decode cX11_oldest 58 = .ok (.aload_n 0, 1) := by decide +kernel
theorem dX11_oldest_59 : decode cX11_oldest 59 = .ok (.getfield 26, 3) := by decide +kernel
theorem dX11_oldest_62 : decode cX11_oldest 62 = .ok (.getfield 248, 3) := by decide +kernel
theorem dX11_oldest_65 : decode cX11_oldest 65 = .ok (.iload_n 3, 1) := by decide +kernel
theorem dX11_oldest_66 : decode cX11_oldest 66 = .ok (.iaload, 1) := by decide +kernel
theorem dX11_oldest_67 : decode cX11_oldest 67 = .ok (.invokevirtual 251, 3) := by decide +kernel
theorem dX11_oldest_70 : decode cX11_oldest 70 = .ok (.invokestatic 254, 3) := by decide +kernel
theorem dX11_oldest_73 : decode cX11_oldest 73 = .ok (.istore_n 2, 1) := by decide +kernel
theorem dX11_oldest_74 : decode cX11_oldest 74 = .ok (.iinc 3 1, 3) := by decide +kernel
theorem dX11_oldest_77 : decode cX11_oldest 77 = .ok (.goto (-57), 3) := by decide +kernel
theorem dX11_oldest_80 : decode cX11_oldest 80 = .ok (.iload_n 2, 1) := by decide +kernel
theorem dX11_oldest_81 : decode cX11_oldest 81 = .ok (.ireturn, 1) := by decide +kernel
theorem dX11_paper_0 : decode cX11_paper 0 = .ok (.iload_n 1, 1) := by decide +kernel
theorem dX11_paper_1 : decode cX11_paper 1 = .ok (.sipush 1000, 3) := by decide +kernel
theorem dX11_paper_4 : decode cX11_paper 4 = .ok (.invokestatic 91, 3) := by decide +kernel
theorem dX11_paper_7 : decode cX11_paper 7 = .ok (.ifCond .eq 14, 3) := by decide +kernel
theorem dX11_paper_10 : decode cX11_paper 10 = .ok (.aload_n 0, 1) := by decide +kernel
theorem dX11_paper_11 : decode cX11_paper 11 = .ok (.getfield 26, 3) := by decide +kernel
theorem dX11_paper_14 : decode cX11_paper 14 = .ok (.iload_n 1, 1) := by decide +kernel
theorem dX11_paper_15 : decode cX11_paper 15 = .ok (.invokevirtual 288, 3) := by decide +kernel
theorem dX11_paper_18 : decode cX11_paper 18 = .ok (.ifCond .ne 5, 3) := by decide +kernel
theorem dX11_paper_21 : decode cX11_paper 21 = .ok (.iconst 0, 1) := by decide +kernel
theorem dX11_paper_22 : decode cX11_paper 22 = .ok (.ireturn, 1) := by decide +kernel
theorem dX11_paper_23 : decode cX11_paper 23 = .ok (.aload_n 0, 1) := by decide +kernel
theorem dX11_paper_24 : decode cX11_paper 24 = .ok (.invokevirtual 99, 3) := by decide +kernel
theorem dX11_paper_27 : decode cX11_paper 27 = .ok (.iconst 1, 1) := by decide +kernel
theorem dX11_paper_28 : decode cX11_paper 28 = .ok (.ireturn, 1) := by decide +kernel
theorem dX11_parted_0 : decode cX11_parted 0 = .ok (.iload_n 1, 1) := by decide +kernel
theorem dX11_parted_1 : decode cX11_parted 1 = .ok (.iconst 1, 1) := by decide +kernel
theorem dX11_parted_2 : decode cX11_parted 2 = .ok (.if_icmp .lt 17, 3) := by decide +kernel
theorem dX11_parted_5 : decode cX11_parted 5 = .ok (.iload_n 1, 1) := by decide +kernel
theorem dX11_parted_6 : decode cX11_parted 6 = .ok (.bipush 20, 2) := by decide +kernel
theorem dX11_parted_8 : decode cX11_parted 8 = .ok (.if_icmp .gt 11, 3) := by decide +kernel
theorem dX11_parted_11 : decode cX11_parted 11 = .ok (.iload_n 2, 1) := by decide +kernel
theorem dX11_parted_12 : decode cX11_parted 12 = .ok (.iconst 2, 1) := by decide +kernel
theorem dX11_parted_13 : decode cX11_parted 13 = .ok (.invokestatic 91, 3) := by decide +kernel
theorem dX11_parted_16 : decode cX11_parted 16 = .ok (.ifCond .ne 14, 3) := by decide +kernel
theorem dX11_parted_19 : decode cX11_parted 19 = .ok (.new 149, 3) := by decide +kernel
theorem dX11_parted_30 : decode cX11_parted 30 = .ok (.iconst 0, 1) := by decide +kernel
theorem dX11_parted_31 : decode cX11_parted 31 = .ok (.istore_n 3, 1) := by decide +kernel
theorem dX11_parted_32 : decode cX11_parted 32 = .ok (.aload_n 0, 1) := by decide +kernel
theorem dX11_parted_33 : decode cX11_parted 33 = .ok (.getfield 83, 3) := by decide +kernel
theorem dX11_parted_36 : decode cX11_parted 36 = .ok (.iload_n 1, 1) := by decide +kernel
theorem dX11_parted_37 : decode cX11_parted 37 = .ok (.bipush 6, 2) := by decide +kernel
theorem dX11_parted_39 : decode cX11_parted 39 = .ok (.invokevirtual 346, 3) := by decide +kernel
theorem dX11_parted_42 : decode cX11_parted 42 = .ok (.istore 4, 2) := by decide +kernel
theorem dX11_parted_44 : decode cX11_parted 44 = .ok (.iconst 1, 1) := by decide +kernel
theorem dX11_parted_45 : decode cX11_parted 45 = .ok (.istore 5, 2) := by decide +kernel
theorem dX11_parted_47 : decode cX11_parted 47 = .ok (.iload 5, 2) := by decide +kernel
theorem dX11_parted_49 : decode cX11_parted 49 = .ok (.bipush 8, 2) := by decide +kernel
theorem dX11_parted_51 : decode cX11_parted 51 = .ok (.if_icmp .ge 38, 3) := by decide +kernel
theorem dX11_parted_54 : decode cX11_parted 54 = .ok (.aload_n 0, 1) := by decide +kernel
theorem dX11_parted_55 : decode cX11_parted 55 = .ok (.getfield 83, 3) := by decide +kernel
theorem dX11_parted_58 : decode cX11_parted 58 = .ok (.iload_n 1, 1) := by decide +kernel
theorem dX11_parted_59 : decode cX11_parted 59 = .ok (.bipush 6, 2) := by decide +kernel
theorem dX11_parted_61 : decode cX11_parted 61 = .ok (.iload 5, 2) := by decide +kernel
theorem dX11_parted_63 : decode cX11_parted 63 = .ok (.iadd, 1) := by decide +kernel
theorem dX11_parted_64 : decode cX11_parted 64 = .ok (.invokevirtual 346, 3) := by decide +kernel
theorem dX11_parted_67 : decode cX11_parted 67 = .ok (.istore 6, 2) := by decide +kernel
theorem dX11_parted_69 : decode cX11_parted 69 = .ok (.iload 6, 2) := by decide +kernel
theorem dX11_parted_71 : decode cX11_parted 71 = .ok (.iload 4, 2) := by decide +kernel
theorem dX11_parted_73 : decode cX11_parted 73 = .ok (.if_icmp .le 10, 3) := by decide +kernel
theorem dX11_parted_76 : decode cX11_parted 76 = .ok (.iload 6, 2) := by decide +kernel
theorem dX11_parted_78 : decode cX11_parted 78 = .ok (.istore 4, 2) := by decide +kernel
theorem dX11_parted_80 : decode cX11_parted 80 = .ok (.iload 5, 2) := by decide +kernel
theorem dX11_parted_82 : decode cX11_parted 82 = .ok (.istore_n 3, 1) := by decide +kernel
theorem dX11_parted_83 : decode cX11_parted 83 = .ok (.iinc 5 1, 3) := by decide +kernel
theorem dX11_parted_86 : decode cX11_parted 86 = .ok (.goto (-39), 3) := by decide +kernel
theorem dX11_parted_89 : decode cX11_parted 89 = .ok (.iload_n 2, 1) := by decide +kernel
theorem dX11_parted_90 : decode cX11_parted 90 = .ok (.ifCond .ne 7, 3) := by decide +kernel
theorem dX11_parted_93 : decode cX11_parted 93 = .ok (.iload_n 3, 1) := by decide +kernel
theorem dX11_parted_94 : decode cX11_parted 94 = .ok (.goto 5, 3) := by decide +kernel
theorem dX11_parted_97 : decode cX11_parted 97 = .ok (.iload 4, 2) := by decide +kernel
theorem dX11_parted_99 : decode cX11_parted 99 = .ok (.ireturn, 1) := by decide +kernel
theorem dX11_present_0 : decode cX11_present 0 = .ok (.iload_n 1, 1) := by decide +kernel
theorem dX11_present_1 : decode cX11_present 1 = .ok (.bipush 8, 2) := by decide +kernel
theorem dX11_present_3 : decode cX11_present 3 = .ok (.invokestatic 91, 3) := by decide +kernel
theorem dX11_present_6 : decode cX11_present 6 = .ok (.ifCond .eq 22, 3) := by decide +kernel
theorem dX11_present_9 : decode cX11_present 9 = .ok (.iload_n 2, 1) := by decide +kernel
theorem dX11_present_10 : decode cX11_present 10 = .ok (.sipush 1000, 3) := by decide +kernel
theorem dX11_present_13 : decode cX11_present 13 = .ok (.invokestatic 91, 3) := by decide +kernel
theorem dX11_present_16 : decode cX11_present 16 = .ok (.ifCond .eq 12, 3) := by decide +kernel
theorem dX11_present_19 : decode cX11_present 19 = .ok (.iload_n 3, 1) := by decide +kernel
theorem dX11_present_20 : decode cX11_present 20 = .ok (.bipush 24, 2) := by decide +kernel
theorem dX11_present_22 : decode cX11_present 22 = .ok (.invokestatic 91, 3) := by decide +kernel
theorem dX11_present_25 : decode cX11_present 25 = .ok (.ifCond .ne 5, 3) := by decide +kernel
theorem dX11_present_28 : decode cX11_present 28 = .ok (.iconst (-1), 1) := by decide +kernel
theorem dX11_present_29 : decode cX11_present 29 = .ok (.ireturn, 1) := by decide +kernel
theorem dX11_present_30 : decode cX11_present 30 = .ok (.aload_n 0, 1) := by decide +kernel
theorem dX11_present_31 : decode cX11_present 31 = .ok (.getfield 19, 3) := by decide +kernel
theorem dX11_present_34 : decode cX11_present 34 = .ok (.iload_n 1, 1) := by decide +kernel
theorem dX11_present_35 : decode cX11_present 35 = .ok (.iload_n 2, 1) := by decide +kernel
theorem dX11_present_36 : decode cX11_present 36 = .ok (.iload_n 3, 1) := by decide +kernel
theorem dX11_present_37 : decode cX11_present 37 = .ok (.invokevirtual 116, 3) := by decide +kernel
theorem dX11_present_40 : decode cX11_present 40 = .ok (.ireturn, 1) := by decide +kernel
theorem dX11_put_0 : decode cX11_put 0 = .ok (.iload_n 1, 1) := by decide +kernel
theorem dX11_put_1 : decode cX11_put 1 = .ok (.aload_n 0, 1) := by decide +kernel
theorem dX11_put_2 : decode cX11_put 2 = .ok (.getfield 26, 3) := by decide +kernel
theorem dX11_put_5 : decode cX11_put 5 = .ok (.getfield 146, 3) := by decide +kernel
theorem dX11_put_8 : decode cX11_put 8 = .ok (.invokestatic 91, 3) := by decide +kernel
theorem dX11_put_11 : decode cX11_put 11 = .ok (.ifCond .ne 5, 3) := by decide +kernel
theorem dX11_put_14 : decode cX11_put 14 = .ok (.iconst (-1), 1) := by decide +kernel
theorem dX11_put_15 : decode cX11_put 15 = .ok (.ireturn, 1) := by decide +kernel
theorem dX11_put_16 : decode cX11_put 16 = .ok (.aload_n 0, 1) := by decide +kernel
theorem dX11_put_17 : decode cX11_put 17 = .ok (.iconst 2, 1) := by decide +kernel
theorem dX11_put_18 : decode cX11_put 18 = .ok (.invokevirtual 156, 3) := by decide +kernel
theorem dX11_put_21 : decode cX11_put 21 = .ok (.aload_n 0, 1) := by decide +kernel
theorem dX11_put_22 : decode cX11_put 22 = .ok (.getfield 65, 3) := by decide +kernel
theorem dX11_put_25 : decode cX11_put 25 = .ok (.getfield 225, 3) := by decide +kernel
theorem dX11_put_28 : decode cX11_put 28 = .ok (.iload_n 1, 1) := by decide +kernel
theorem dX11_put_29 : decode cX11_put 29 = .ok (.invokestatic 120, 3) := by decide +kernel
theorem dX11_put_32 : decode cX11_put 32 = .ok (.ifCond .eq 7, 3) := by decide +kernel
theorem dX11_put_35 : decode cX11_put 35 = .ok (.iconst 1, 1) := by decide +kernel
theorem dX11_put_36 : decode cX11_put 36 = .ok (.goto 4, 3) := by decide +kernel
theorem dX11_put_39 : decode cX11_put 39 = .ok (.iconst 0, 1) := by decide +kernel
theorem dX11_put_40 : decode cX11_put 40 = .ok (.ireturn, 1) := by decide +kernel
theorem dX11_rates_0 : decode cX11_rates 0 = .ok (.iload_n 1, 1) := by decide +kernel
theorem dX11_rates_1 : decode cX11_rates 1 = .ok (.iconst 1, 1) := by decide +kernel
theorem dX11_rates_2 : decode cX11_rates 2 = .ok (.if_icmp .lt 18, 3) := by decide +kernel
theorem dX11_rates_5 : decode cX11_rates 5 = .ok (.iload_n 1, 1) := by decide +kernel
theorem dX11_rates_6 : decode cX11_rates 6 = .ok (.bipush 20, 2) := by decide +kernel
theorem dX11_rates_8 : decode cX11_rates 8 = .ok (.if_icmp .gt 12, 3) := by decide +kernel
theorem dX11_rates_11 : decode cX11_rates 11 = .ok (.iload_n 2, 1) := by decide +kernel
theorem dX11_rates_12 : decode cX11_rates 12 = .ok (.bipush 6, 2) := by decide +kernel
theorem dX11_rates_14 : decode cX11_rates 14 = .ok (.invokestatic 91, 3) := by decide +kernel
theorem dX11_rates_17 : decode cX11_rates 17 = .ok (.ifCond .ne 5, 3) := by decide +kernel
theorem dX11_rates_20 : decode cX11_rates 20 = .ok (.iconst (-1), 1) := by decide +kernel
theorem dX11_rates_21 : decode cX11_rates 21 = .ok (.ireturn, 1) := by decide +kernel
theorem dX11_rates_22 : decode cX11_rates 22 = .ok (.aload_n 0, 1) := by decide +kernel
theorem dX11_rates_23 : decode cX11_rates 23 = .ok (.getfield 83, 3) := by decide +kernel
theorem dX11_rates_26 : decode cX11_rates 26 = .ok (.iload_n 1, 1) := by decide +kernel
theorem dX11_rates_27 : decode cX11_rates 27 = .ok (.iload_n 2, 1) := by decide +kernel
theorem dX11_rates_28 : decode cX11_rates 28 = .ok (.invokevirtual 346, 3) := by decide +kernel
theorem dX11_rates_31 : decode cX11_rates 31 = .ok (.ireturn, 1) := by decide +kernel
theorem dX11_row_0 : decode cX11_row 0 = .ok (.iload_n 1, 1) := by decide +kernel
theorem dX11_row_1 : decode cX11_row 1 = .ok (.bipush 10, 2) := by decide +kernel
theorem dX11_row_3 : decode cX11_row 3 = .ok (.invokestatic 91, 3) := by decide +kernel
theorem dX11_row_6 : decode cX11_row 6 = .ok (.ifCond .eq 19, 3) := by decide +kernel
theorem dX11_row_9 : decode cX11_row 9 = .ok (.iload_n 2, 1) := by decide +kernel
theorem dX11_row_10 : decode cX11_row 10 = .ok (.iconst 3, 1) := by decide +kernel
theorem dX11_row_11 : decode cX11_row 11 = .ok (.invokestatic 91, 3) := by decide +kernel
theorem dX11_row_14 : decode cX11_row 14 = .ok (.ifCond .eq 11, 3) := by decide +kernel
theorem dX11_row_17 : decode cX11_row 17 = .ok (.iload_n 3, 1) := by decide +kernel
theorem dX11_row_18 : decode cX11_row 18 = .ok (.iconst 4, 1) := by decide +kernel
theorem dX11_row_19 : decode cX11_row 19 = .ok (.invokestatic 91, 3) := by decide +kernel
theorem dX11_row_22 : decode cX11_row 22 = .ok (.ifCond .ne 5, 3) := by decide +kernel
theorem dX11_row_25 : decode cX11_row 25 = .ok (.iconst (-1), 1) := by decide +kernel
theorem dX11_row_26 : decode cX11_row 26 = .ok (.ireturn, 1) := by decide +kernel
theorem dX11_row_27 : decode cX11_row 27 = .ok (.aload_n 0, 1) := by decide +kernel
theorem dX11_row_28 : decode cX11_row 28 = .ok (.iconst 1, 1) := by decide +kernel
theorem dX11_row_29 : decode cX11_row 29 = .ok (.invokevirtual 156, 3) := by decide +kernel
theorem dX11_row_32 : decode cX11_row 32 = .ok (.iload_n 3, 1) := by decide +kernel
theorem dX11_row_33 : decode cX11_row 33 = .ok (.iconst 2, 1) := by decide +kernel
theorem dX11_row_34 : decode cX11_row 34 = .ok (.if_icmp .ge 7, 3) := by decide +kernel
theorem dX11_row_37 : decode cX11_row 37 = .ok (.iload_n 1, 1) := by decide +kernel
theorem dX11_row_38 : decode cX11_row 38 = .ok (.goto 4, 3) := by decide +kernel
theorem dX11_row_41 : decode cX11_row 41 = .ok (.iconst (-1), 1) := by decide +kernel
theorem dX11_row_42 : decode cX11_row 42 = .ok (.istore 4, 2) := by decide +kernel
theorem dX11_row_44 : decode cX11_row 44 = .ok (.iload_n 3, 1) := by decide +kernel
theorem dX11_row_45 : decode cX11_row 45 = .ok (.iconst 2, 1) := by decide +kernel
theorem dX11_row_46 : decode cX11_row 46 = .ok (.irem, 1) := by decide +kernel
theorem dX11_row_47 : decode cX11_row 47 = .ok (.ifCond .ne 15, 3) := by decide +kernel
theorem dX11_row_50 : decode cX11_row 50 = .ok (.aload_n 0, 1) := by decide +kernel
theorem dX11_row_51 : decode cX11_row 51 = .ok (.getfield 56, 3) := by decide +kernel
theorem dX11_row_54 : decode cX11_row 54 = .ok (.iload 4, 2) := by decide +kernel
theorem dX11_row_56 : decode cX11_row 56 = .ok (.invokevirtual 182, 3) := by decide +kernel
theorem dX11_row_59 : decode cX11_row 59 = .ok (.goto 13, 3) := by decide +kernel
theorem dX11_row_62 : decode cX11_row 62 = .ok (.aload_n 0, 1) := by decide +kernel
theorem dX11_row_63 : decode cX11_row 63 = .ok (.getfield 56, 3) := by decide +kernel
theorem dX11_row_66 : decode cX11_row 66 = .ok (.iload 4, 2) := by decide +kernel
theorem dX11_row_68 : decode cX11_row 68 = .ok (.iload_n 2, 1) := by decide +kernel
theorem dX11_row_69 : decode cX11_row 69 = .ok (.invokevirtual 186, 3) := by decide +kernel
theorem dX11_row_72 : decode cX11_row 72 = .ok (.ireturn, 1) := by decide +kernel
theorem dX11_rules_0 : decode cX11_rules 0 = .ok (.iload_n 1, 1) := by decide +kernel
theorem dX11_rules_1 : decode cX11_rules 1 = .ok (.iconst 2, 1) := by decide +kernel
theorem dX11_rules_2 : decode cX11_rules 2 = .ok (.invokestatic 91, 3) := by decide +kernel
theorem dX11_rules_5 : decode cX11_rules 5 = .ok (.ifCond .ne 5, 3) := by decide +kernel
theorem dX11_rules_8 : decode cX11_rules 8 = .ok (.iconst (-1), 1) := by decide +kernel
theorem dX11_rules_9 : decode cX11_rules 9 = .ok (.ireturn, 1) := by decide +kernel
theorem dX11_rules_10 : decode cX11_rules 10 = .ok (.aload_n 0, 1) := by decide +kernel
theorem dX11_rules_11 : decode cX11_rules 11 = .ok (.iconst 2, 1) := by decide +kernel
theorem dX11_rules_12 : decode cX11_rules 12 = .ok (.invokevirtual 156, 3) := by decide +kernel
theorem dX11_rules_15 : decode cX11_rules 15 = .ok (.aload_n 0, 1) := by decide +kernel
theorem dX11_rules_16 : decode cX11_rules 16 = .ok (.getfield 65, 3) := by decide +kernel
theorem dX11_rules_19 : decode cX11_rules 19 = .ok (.invokevirtual 280, 3) := by decide +kernel
theorem dX11_rules_22 : decode cX11_rules 22 = .ok (.istore_n 2, 1) := by decide +kernel
theorem dX11_rules_23 : decode cX11_rules 23 = .ok (.iload_n 2, 1) := by decide +kernel
theorem dX11_rules_24 : decode cX11_rules 24 = .ok (.iconst (-1), 1) := by decide +kernel
theorem dX11_rules_25 : decode cX11_rules 25 = .ok (.if_icmp .ne 5, 3) := by decide +kernel
theorem dX11_rules_28 : decode cX11_rules 28 = .ok (.iconst (-1), 1) := by decide +kernel
theorem dX11_rules_29 : decode cX11_rules 29 = .ok (.ireturn, 1) := by decide +kernel
theorem dX11_rules_30 : decode cX11_rules 30 = .ok (.iload_n 1, 1) := by decide +kernel
theorem dX11_rules_31 : decode cX11_rules 31 = .ok (.ifCond .ne 10, 3) := by decide +kernel
theorem dX11_rules_34 : decode cX11_rules 34 = .ok (.iload_n 2, 1) := by decide +kernel
theorem dX11_rules_35 : decode cX11_rules 35 = .ok (.invokestatic 283, 3) := by decide +kernel
theorem dX11_rules_38 : decode cX11_rules 38 = .ok (.goto 4, 3) := by decide +kernel
theorem dX11_rules_41 : decode cX11_rules 41 = .ok (.iload_n 2, 1) := by decide +kernel
theorem dX11_rules_42 : decode cX11_rules 42 = .ok (.ireturn, 1) := by decide +kernel
theorem dX11_seen_0 : decode cX11_seen 0 = .ok (.iload_n 1, 1) := by decide +kernel
theorem dX11_seen_1 : decode cX11_seen 1 = .ok (.bipush 10, 2) := by decide +kernel
theorem dX11_seen_3 : decode cX11_seen 3 = .ok (.invokestatic 91, 3) := by decide +kernel
theorem dX11_seen_6 : decode cX11_seen 6 = .ok (.ifCond .eq 22, 3) := by decide +kernel
theorem dX11_seen_9 : decode cX11_seen 9 = .ok (.iload_n 2, 1) := by decide +kernel
theorem dX11_seen_10 : decode cX11_seen 10 = .ok (.bipush 8, 2) := by decide +kernel
theorem dX11_seen_12 : decode cX11_seen 12 = .ok (.invokestatic 91, 3) := by decide +kernel
theorem dX11_seen_15 : decode cX11_seen 15 = .ok (.ifCond .eq 13, 3) := by decide +kernel
theorem dX11_seen_18 : decode cX11_seen 18 = .ok (.iload_n 3, 1) := by decide +kernel
theorem dX11_seen_19 : decode cX11_seen 19 = .ok (.sipush 1000, 3) := by decide +kernel
theorem dX11_seen_22 : decode cX11_seen 22 = .ok (.invokestatic 91, 3) := by decide +kernel
theorem dX11_seen_25 : decode cX11_seen 25 = .ok (.ifCond .ne 5, 3) := by decide +kernel
theorem dX11_seen_28 : decode cX11_seen 28 = .ok (.iconst 0, 1) := by decide +kernel
theorem dX11_seen_29 : decode cX11_seen 29 = .ok (.ireturn, 1) := by decide +kernel
theorem dX11_seen_30 : decode cX11_seen 30 = .ok (.aload_n 0, 1) := by decide +kernel
theorem dX11_seen_31 : decode cX11_seen 31 = .ok (.getfield 26, 3) := by decide +kernel
theorem dX11_seen_34 : decode cX11_seen 34 = .ok (.iload_n 1, 1) := by decide +kernel
theorem dX11_seen_35 : decode cX11_seen 35 = .ok (.iload_n 2, 1) := by decide +kernel
theorem dX11_seen_36 : decode cX11_seen 36 = .ok (.iload_n 3, 1) := by decide +kernel
theorem dX11_seen_37 : decode cX11_seen 37 = .ok (.invokevirtual 218, 3) := by decide +kernel
theorem dX11_seen_40 : decode cX11_seen 40 = .ok (.ifCond .ne 5, 3) := by decide +kernel
theorem dX11_seen_43 : decode cX11_seen 43 = .ok (.iconst 0, 1) := by decide +kernel
theorem dX11_seen_44 : decode cX11_seen 44 = .ok (.ireturn, 1) := by decide +kernel
theorem dX11_seen_45 : decode cX11_seen 45 = .ok (.aload_n 0, 1) := by decide +kernel
theorem dX11_seen_46 : decode cX11_seen 46 = .ok (.invokevirtual 99, 3) := by decide +kernel
theorem dX11_seen_49 : decode cX11_seen 49 = .ok (.iconst 1, 1) := by decide +kernel
theorem dX11_seen_50 : decode cX11_seen 50 = .ok (.ireturn, 1) := by decide +kernel
theorem dX11_settled_0 : decode cX11_settled 0 = .ok (.aload_n 0, 1) := by decide +kernel
theorem dX11_settled_1 : decode cX11_settled 1 = .ok (.iconst 2, 1) := by decide +kernel
theorem dX11_settled_2 : decode cX11_settled 2 = .ok (.invokevirtual 156, 3) := by decide +kernel
theorem dX11_settled_5 : decode cX11_settled 5 = .ok (.aload_n 0, 1) := by decide +kernel
theorem dX11_settled_6 : decode cX11_settled 6 = .ok (.getfield 74, 3) := by decide +kernel
theorem dX11_settled_9 : decode cX11_settled 9 = .ok (.aload_n 0, 1) := by decide +kernel
theorem dX11_settled_10 : decode cX11_settled 10 = .ok (.getfield 26, 3) := by decide +kernel
theorem dX11_settled_13 : decode cX11_settled 13 = .ok (.invokevirtual 232, 3) := by decide +kernel
theorem dX11_settled_16 : decode cX11_settled 16 = .ok (.aload_n 0, 1) := by decide +kernel
theorem dX11_settled_17 : decode cX11_settled 17 = .ok (.getfield 65, 3) := by decide +kernel
theorem dX11_settled_20 : decode cX11_settled 20 = .ok (.getfield 265, 3) := by decide +kernel
theorem dX11_settled_23 : decode cX11_settled 23 = .ok (.ldc2_w 189, 3) := by decide +kernel
theorem dX11_settled_26 : decode cX11_settled 26 = .ok (.lxor, 1) := by decide +kernel
theorem dX11_settled_27 : decode cX11_settled 27 = .ok (.land, 1) := by decide +kernel
theorem dX11_settled_28 : decode cX11_settled 28 = .ok (.aload_n 0, 1) := by decide +kernel
theorem dX11_settled_29 : decode cX11_settled 29 = .ok (.getfield 65, 3) := by decide +kernel
theorem dX11_settled_32 : decode cX11_settled 32 = .ok (.getfield 265, 3) := by decide +kernel
theorem dX11_settled_35 : decode cX11_settled 35 = .ok (.invokevirtual 268, 3) := by decide +kernel
theorem dX11_settled_38 : decode cX11_settled 38 = .ok (.ireturn, 1) := by decide +kernel
theorem dX11_shows_0 : decode cX11_shows 0 = .ok (.iload_n 1, 1) := by decide +kernel
theorem dX11_shows_1 : decode cX11_shows 1 = .ok (.bipush 8, 2) := by decide +kernel
theorem dX11_shows_3 : decode cX11_shows 3 = .ok (.invokestatic 91, 3) := by decide +kernel
theorem dX11_shows_6 : decode cX11_shows 6 = .ok (.ifCond .eq 21, 3) := by decide +kernel
theorem dX11_shows_9 : decode cX11_shows 9 = .ok (.iload_n 2, 1) := by decide +kernel
theorem dX11_shows_10 : decode cX11_shows 10 = .ok (.bipush 10, 2) := by decide +kernel
theorem dX11_shows_12 : decode cX11_shows 12 = .ok (.invokestatic 91, 3) := by decide +kernel
theorem dX11_shows_15 : decode cX11_shows 15 = .ok (.ifCond .eq 12, 3) := by decide +kernel
theorem dX11_shows_18 : decode cX11_shows 18 = .ok (.iload_n 3, 1) := by decide +kernel
theorem dX11_shows_19 : decode cX11_shows 19 = .ok (.bipush 10, 2) := by decide +kernel
theorem dX11_shows_21 : decode cX11_shows 21 = .ok (.invokestatic 91, 3) := by decide +kernel
theorem dX11_shows_24 : decode cX11_shows 24 = .ok (.ifCond .ne 5, 3) := by decide +kernel
theorem dX11_shows_27 : decode cX11_shows 27 = .ok (.iconst 0, 1) := by decide +kernel
theorem dX11_shows_28 : decode cX11_shows 28 = .ok (.ireturn, 1) := by decide +kernel
theorem dX11_shows_29 : decode cX11_shows 29 = .ok (.aload_n 0, 1) := by decide +kernel
theorem dX11_shows_30 : decode cX11_shows 30 = .ok (.getfield 83, 3) := by decide +kernel
theorem dX11_shows_33 : decode cX11_shows 33 = .ok (.getfield 324, 3) := by decide +kernel
theorem dX11_shows_36 : decode cX11_shows 36 = .ok (.iload_n 1, 1) := by decide +kernel
theorem dX11_shows_37 : decode cX11_shows 37 = .ok (.iload_n 2, 1) := by decide +kernel
theorem dX11_shows_38 : decode cX11_shows 38 = .ok (.iastore, 1) := by decide +kernel
theorem dX11_shows_39 : decode cX11_shows 39 = .ok (.aload_n 0, 1) := by decide +kernel
theorem dX11_shows_40 : decode cX11_shows 40 = .ok (.getfield 83, 3) := by decide +kernel
theorem dX11_shows_43 : decode cX11_shows 43 = .ok (.getfield 324, 3) := by decide +kernel
theorem dX11_shows_46 : decode cX11_shows 46 = .ok (.bipush 8, 2) := by decide +kernel
theorem dX11_shows_48 : decode cX11_shows 48 = .ok (.iload_n 1, 1) := by decide +kernel
theorem dX11_shows_49 : decode cX11_shows 49 = .ok (.iadd, 1) := by decide +kernel
theorem dX11_shows_50 : decode cX11_shows 50 = .ok (.iload_n 3, 1) := by decide +kernel
theorem dX11_shows_51 : decode cX11_shows 51 = .ok (.iastore, 1) := by decide +kernel
theorem dX11_shows_52 : decode cX11_shows 52 = .ok (.aload_n 0, 1) := by decide +kernel
theorem dX11_shows_53 : decode cX11_shows 53 = .ok (.invokevirtual 99, 3) := by decide +kernel
theorem dX11_shows_56 : decode cX11_shows 56 = .ok (.iconst 1, 1) := by decide +kernel
theorem dX11_shows_57 : decode cX11_shows 57 = .ok (.ireturn, 1) := by decide +kernel
theorem dX11_skill_0 : decode cX11_skill 0 = .ok (.iload_n 1, 1) := by decide +kernel
theorem dX11_skill_1 : decode cX11_skill 1 = .ok (.bipush 10, 2) := by decide +kernel
theorem dX11_skill_3 : decode cX11_skill 3 = .ok (.invokestatic 91, 3) := by decide +kernel
theorem dX11_skill_6 : decode cX11_skill 6 = .ok (.ifCond .eq 21, 3) := by decide +kernel
theorem dX11_skill_9 : decode cX11_skill 9 = .ok (.iload_n 2, 1) := by decide +kernel
theorem dX11_skill_10 : decode cX11_skill 10 = .ok (.bipush 10, 2) := by decide +kernel
theorem dX11_skill_12 : decode cX11_skill 12 = .ok (.invokestatic 91, 3) := by decide +kernel
theorem dX11_skill_15 : decode cX11_skill 15 = .ok (.ifCond .eq 12, 3) := by decide +kernel
theorem dX11_skill_18 : decode cX11_skill 18 = .ok (.iload_n 3, 1) := by decide +kernel
theorem dX11_skill_19 : decode cX11_skill 19 = .ok (.bipush 10, 2) := by decide +kernel
theorem dX11_skill_21 : decode cX11_skill 21 = .ok (.invokestatic 91, 3) := by decide +kernel
theorem dX11_skill_24 : decode cX11_skill 24 = .ok (.ifCond .ne 5, 3) := by decide +kernel
theorem dX11_skill_27 : decode cX11_skill 27 = .ok (.iconst 0, 1) := by decide +kernel
theorem dX11_skill_28 : decode cX11_skill 28 = .ok (.ireturn, 1) := by decide +kernel
theorem dX11_skill_29 : decode cX11_skill 29 = .ok (.aload_n 0, 1) := by decide +kernel
theorem dX11_skill_30 : decode cX11_skill 30 = .ok (.getfield 83, 3) := by decide +kernel
theorem dX11_skill_33 : decode cX11_skill 33 = .ok (.getfield 315, 3) := by decide +kernel
theorem dX11_skill_36 : decode cX11_skill 36 = .ok (.iload_n 1, 1) := by decide +kernel
theorem dX11_skill_37 : decode cX11_skill 37 = .ok (.iload_n 2, 1) := by decide +kernel
theorem dX11_skill_38 : decode cX11_skill 38 = .ok (.iastore, 1) := by decide +kernel
theorem dX11_skill_39 : decode cX11_skill 39 = .ok (.aload_n 0, 1) := by decide +kernel
theorem dX11_skill_40 : decode cX11_skill 40 = .ok (.getfield 83, 3) := by decide +kernel
theorem dX11_skill_43 : decode cX11_skill 43 = .ok (.getfield 318, 3) := by decide +kernel
theorem dX11_skill_46 : decode cX11_skill 46 = .ok (.iload_n 1, 1) := by decide +kernel
theorem dX11_skill_47 : decode cX11_skill 47 = .ok (.iload_n 3, 1) := by decide +kernel
theorem dX11_skill_48 : decode cX11_skill 48 = .ok (.iastore, 1) := by decide +kernel
theorem dX11_skill_49 : decode cX11_skill 49 = .ok (.aload_n 0, 1) := by decide +kernel
theorem dX11_skill_50 : decode cX11_skill 50 = .ok (.invokevirtual 99, 3) := by decide +kernel
theorem dX11_skill_53 : decode cX11_skill 53 = .ok (.iconst 1, 1) := by decide +kernel
theorem dX11_skill_54 : decode cX11_skill 54 = .ok (.ireturn, 1) := by decide +kernel
theorem dX11_standing_0 : decode cX11_standing 0 = .ok (.iload_n 1, 1) := by decide +kernel
theorem dX11_standing_1 : decode cX11_standing 1 = .ok (.iconst (-1), 1) := by decide +kernel
theorem dX11_standing_2 : decode cX11_standing 2 = .ok (.if_icmp .eq 14, 3) := by decide +kernel
theorem dX11_standing_5 : decode cX11_standing 5 = .ok (.iload_n 1, 1) := by decide +kernel
theorem dX11_standing_6 : decode cX11_standing 6 = .ok (.bipush 10, 2) := by decide +kernel
theorem dX11_standing_8 : decode cX11_standing 8 = .ok (.invokestatic 91, 3) := by decide +kernel
theorem dX11_standing_11 : decode cX11_standing 11 = .ok (.ifCond .ne 5, 3) := by decide +kernel
theorem dX11_standing_14 : decode cX11_standing 14 = .ok (.iconst (-1), 1) := by decide +kernel
theorem dX11_standing_15 : decode cX11_standing 15 = .ok (.ireturn, 1) := by decide +kernel
theorem dX11_standing_16 : decode cX11_standing 16 = .ok (.aload_n 0, 1) := by decide +kernel
theorem dX11_standing_17 : decode cX11_standing 17 = .ok (.getfield 74, 3) := by decide +kernel
theorem dX11_standing_20 : decode cX11_standing 20 = .ok (.aload_n 0, 1) := by decide +kernel
theorem dX11_standing_21 : decode cX11_standing 21 = .ok (.getfield 26, 3) := by decide +kernel
theorem dX11_standing_24 : decode cX11_standing 24 = .ok (.iload_n 1, 1) := by decide +kernel
theorem dX11_standing_25 : decode cX11_standing 25 = .ok (.invokevirtual 240, 3) := by decide +kernel
theorem dX11_standing_28 : decode cX11_standing 28 = .ok (.invokevirtual 244, 3) := by decide +kernel
theorem dX11_standing_31 : decode cX11_standing 31 = .ok (.ireturn, 1) := by decide +kernel
theorem dX11_stops_0 : decode cX11_stops 0 = .ok (.iload_n 1, 1) := by decide +kernel
theorem dX11_stops_1 : decode cX11_stops 1 = .ok (.bipush 8, 2) := by decide +kernel
theorem dX11_stops_3 : decode cX11_stops 3 = .ok (.invokestatic 91, 3) := by decide +kernel
theorem dX11_stops_6 : decode cX11_stops 6 = .ok (.ifCond .eq 31, 3) := by decide +kernel
theorem dX11_stops_9 : decode cX11_stops 9 = .ok (.iload_n 2, 1) := by decide +kernel
theorem dX11_stops_10 : decode cX11_stops 10 = .ok (.aload_n 0, 1) := by decide +kernel
theorem dX11_stops_11 : decode cX11_stops 11 = .ok (.getfield 26, 3) := by decide +kernel
theorem dX11_stops_14 : decode cX11_stops 14 = .ok (.getfield 146, 3) := by decide +kernel
theorem dX11_stops_17 : decode cX11_stops 17 = .ok (.invokestatic 91, 3) := by decide +kernel
theorem dX11_stops_20 : decode cX11_stops 20 = .ok (.ifCond .eq 17, 3) := by decide +kernel
theorem dX11_stops_23 : decode cX11_stops 23 = .ok (.aload_n 0, 1) := by decide +kernel
theorem dX11_stops_24 : decode cX11_stops 24 = .ok (.getfield 40, 3) := by decide +kernel
theorem dX11_stops_27 : decode cX11_stops 27 = .ok (.bipush 12, 2) := by decide +kernel
theorem dX11_stops_29 : decode cX11_stops 29 = .ok (.iload_n 1, 1) := by decide +kernel
theorem dX11_stops_30 : decode cX11_stops 30 = .ok (.iadd, 1) := by decide +kernel
theorem dX11_stops_31 : decode cX11_stops 31 = .ok (.invokevirtual 176, 3) := by decide +kernel
theorem dX11_stops_34 : decode cX11_stops 34 = .ok (.ifCond .ne 5, 3) := by decide +kernel
theorem dX11_stops_37 : decode cX11_stops 37 = .ok (.iconst (-1), 1) := by decide +kernel
theorem dX11_stops_38 : decode cX11_stops 38 = .ok (.ireturn, 1) := by decide +kernel
theorem dX11_stops_39 : decode cX11_stops 39 = .ok (.aload_n 0, 1) := by decide +kernel
theorem dX11_stops_40 : decode cX11_stops 40 = .ok (.iconst 1, 1) := by decide +kernel
theorem dX11_stops_41 : decode cX11_stops 41 = .ok (.invokevirtual 156, 3) := by decide +kernel
theorem dX11_stops_44 : decode cX11_stops 44 = .ok (.aload_n 0, 1) := by decide +kernel
theorem dX11_stops_45 : decode cX11_stops 45 = .ok (.getfield 56, 3) := by decide +kernel
theorem dX11_stops_48 : decode cX11_stops 48 = .ok (.iload_n 1, 1) := by decide +kernel
theorem dX11_stops_49 : decode cX11_stops 49 = .ok (.iload_n 2, 1) := by decide +kernel
theorem dX11_stops_50 : decode cX11_stops 50 = .ok (.invokevirtual 179, 3) := by decide +kernel
theorem dX11_stops_53 : decode cX11_stops 53 = .ok (.ifCond .eq 7, 3) := by decide +kernel
theorem dX11_stops_56 : decode cX11_stops 56 = .ok (.iconst 1, 1) := by decide +kernel
theorem dX11_stops_57 : decode cX11_stops 57 = .ok (.goto 4, 3) := by decide +kernel
theorem dX11_stops_60 : decode cX11_stops 60 = .ok (.iconst 0, 1) := by decide +kernel
theorem dX11_stops_61 : decode cX11_stops 61 = .ok (.ireturn, 1) := by decide +kernel
theorem dX11_stories_0 : decode cX11_stories 0 = .ok (.iload_n 1, 1) := by decide +kernel
theorem dX11_stories_1 : decode cX11_stories 1 = .ok (.iconst 5, 1) := by decide +kernel
theorem dX11_stories_2 : decode cX11_stories 2 = .ok (.invokestatic 91, 3) := by decide +kernel
theorem dX11_stories_5 : decode cX11_stories 5 = .ok (.ifCond .ne 5, 3) := by decide +kernel
theorem dX11_stories_8 : decode cX11_stories 8 = .ok (.iconst (-1), 1) := by decide +kernel
theorem dX11_stories_9 : decode cX11_stories 9 = .ok (.ireturn, 1) := by decide +kernel
theorem dX11_stories_10 : decode cX11_stories 10 = .ok (.aload_n 0, 1) := by decide +kernel
theorem dX11_stories_11 : decode cX11_stories 11 = .ok (.iconst 2, 1) := by decide +kernel
theorem dX11_stories_12 : decode cX11_stories 12 = .ok (.invokevirtual 156, 3) := by decide +kernel
theorem dX11_stories_15 : decode cX11_stories 15 = .ok (.aload_n 0, 1) := by decide +kernel
theorem dX11_stories_16 : decode cX11_stories 16 = .ok (.getfield 65, 3) := by decide +kernel
theorem dX11_stories_19 : decode cX11_stories 19 = .ok (.iload_n 1, 1) := by decide +kernel
theorem dX11_stories_20 : decode cX11_stories 20 = .ok (.invokevirtual 229, 3) := by decide +kernel
theorem dX11_stories_23 : decode cX11_stories 23 = .ok (.ireturn, 1) := by decide +kernel
theorem dX11_study_0 : decode cX11_study 0 = .ok (.aload_n 0, 1) := by decide +kernel
theorem dX11_study_1 : decode cX11_study 1 = .ok (.getfield 87, 3) := by decide +kernel
theorem dX11_study_4 : decode cX11_study 4 = .ok (.iconst 1, 1) := by decide +kernel
theorem dX11_study_5 : decode cX11_study 5 = .ok (.if_icmp .ge 22, 3) := by decide +kernel
theorem dX11_study_8 : decode cX11_study 8 = .ok (.aload_n 0, 1) := by decide +kernel
theorem dX11_study_9 : decode cX11_study 9 = .ok (.getfield 19, 3) := by decide +kernel
theorem dX11_study_12 : decode cX11_study 12 = .ok (.invokevirtual 362, 3) := by decide +kernel
theorem dX11_study_15 : decode cX11_study 15 = .ok (.aload_n 0, 1) := by decide +kernel
theorem dX11_study_16 : decode cX11_study 16 = .ok (.getfield 56, 3) := by decide +kernel
theorem dX11_study_19 : decode cX11_study 19 = .ok (.invokevirtual 365, 3) := by decide +kernel
theorem dX11_study_22 : decode cX11_study 22 = .ok (.aload_n 0, 1) := by decide +kernel
theorem dX11_study_23 : decode cX11_study 23 = .ok (.iconst 1, 1) := by decide +kernel
theorem dX11_study_24 : decode cX11_study 24 = .ok (.putfield 87, 3) := by decide +kernel
theorem dX11_study_27 : decode cX11_study 27 = .ok (.iload_n 1, 1) := by decide +kernel
theorem dX11_study_28 : decode cX11_study 28 = .ok (.iconst 2, 1) := by decide +kernel
theorem dX11_study_29 : decode cX11_study 29 = .ok (.if_icmp .lt 23, 3) := by decide +kernel
theorem dX11_study_32 : decode cX11_study 32 = .ok (.aload_n 0, 1) := by decide +kernel
theorem dX11_study_33 : decode cX11_study 33 = .ok (.getfield 87, 3) := by decide +kernel
theorem dX11_study_36 : decode cX11_study 36 = .ok (.iconst 2, 1) := by decide +kernel
theorem dX11_study_37 : decode cX11_study 37 = .ok (.if_icmp .ge 15, 3) := by decide +kernel
theorem dX11_study_40 : decode cX11_study 40 = .ok (.aload_n 0, 1) := by decide +kernel
theorem dX11_study_41 : decode cX11_study 41 = .ok (.getfield 65, 3) := by decide +kernel
theorem dX11_study_44 : decode cX11_study 44 = .ok (.invokevirtual 368, 3) := by decide +kernel
theorem dX11_study_47 : decode cX11_study 47 = .ok (.aload_n 0, 1) := by decide +kernel
theorem dX11_study_48 : decode cX11_study 48 = .ok (.iconst 2, 1) := by decide +kernel
theorem dX11_study_49 : decode cX11_study 49 = .ok (.putfield 87, 3) := by decide +kernel
theorem dX11_study_52 : decode cX11_study 52 = .ok (.return_, 1) := by decide +kernel
theorem dX11_way_0 : decode cX11_way 0 = .ok (.iload_n 1, 1) := by decide +kernel
theorem dX11_way_1 : decode cX11_way 1 = .ok (.bipush 8, 2) := by decide +kernel
theorem dX11_way_3 : decode cX11_way 3 = .ok (.invokestatic 91, 3) := by decide +kernel
theorem dX11_way_6 : decode cX11_way 6 = .ok (.ifCond .eq 27, 3) := by decide +kernel
theorem dX11_way_9 : decode cX11_way 9 = .ok (.iload_n 2, 1) := by decide +kernel
theorem dX11_way_10 : decode cX11_way 10 = .ok (.bipush 8, 2) := by decide +kernel
theorem dX11_way_12 : decode cX11_way 12 = .ok (.invokestatic 91, 3) := by decide +kernel
theorem dX11_way_15 : decode cX11_way 15 = .ok (.ifCond .eq 18, 3) := by decide +kernel
theorem dX11_way_18 : decode cX11_way 18 = .ok (.iload_n 1, 1) := by decide +kernel
theorem dX11_way_19 : decode cX11_way 19 = .ok (.iload_n 2, 1) := by decide +kernel
theorem dX11_way_20 : decode cX11_way 20 = .ok (.if_icmp .eq 13, 3) := by decide +kernel
theorem dX11_way_23 : decode cX11_way 23 = .ok (.iload_n 3, 1) := by decide +kernel
theorem dX11_way_24 : decode cX11_way 24 = .ok (.sipush 1000, 3) := by decide +kernel
theorem dX11_way_27 : decode cX11_way 27 = .ok (.invokestatic 91, 3) := by decide +kernel
theorem dX11_way_30 : decode cX11_way 30 = .ok (.ifCond .ne 5, 3) := by decide +kernel
theorem dX11_way_33 : decode cX11_way 33 = .ok (.iconst 0, 1) := by decide +kernel
theorem dX11_way_34 : decode cX11_way 34 = .ok (.ireturn, 1) := by decide +kernel
theorem dX11_way_35 : decode cX11_way 35 = .ok (.aload_n 0, 1) := by decide +kernel
theorem dX11_way_36 : decode cX11_way 36 = .ok (.getfield 10, 3) := by decide +kernel
theorem dX11_way_39 : decode cX11_way 39 = .ok (.iload_n 1, 1) := by decide +kernel
theorem dX11_way_40 : decode cX11_way 40 = .ok (.iload_n 2, 1) := by decide +kernel
theorem dX11_way_41 : decode cX11_way 41 = .ok (.iload_n 3, 1) := by decide +kernel
theorem dX11_way_42 : decode cX11_way 42 = .ok (.invokevirtual 102, 3) := by decide +kernel
theorem dX11_way_45 : decode cX11_way 45 = .ok (.aload_n 0, 1) := by decide +kernel
theorem dX11_way_46 : decode cX11_way 46 = .ok (.invokevirtual 99, 3) := by decide +kernel
theorem dX11_way_49 : decode cX11_way 49 = .ok (.iconst 1, 1) := by decide +kernel
theorem dX11_way_50 : decode cX11_way 50 = .ok (.ireturn, 1) := by decide +kernel
theorem dX11_wealth_0 : decode cX11_wealth 0 = .ok (.iload_n 1, 1) := by decide +kernel
theorem dX11_wealth_1 : decode cX11_wealth 1 = .ok (.bipush 8, 2) := by decide +kernel
theorem dX11_wealth_3 : decode cX11_wealth 3 = .ok (.invokestatic 91, 3) := by decide +kernel
theorem dX11_wealth_6 : decode cX11_wealth 6 = .ok (.ifCond .eq 21, 3) := by decide +kernel
theorem dX11_wealth_9 : decode cX11_wealth 9 = .ok (.iload_n 2, 1) := by decide +kernel
theorem dX11_wealth_10 : decode cX11_wealth 10 = .ok (.bipush 10, 2) := by decide +kernel
theorem dX11_wealth_12 : decode cX11_wealth 12 = .ok (.invokestatic 91, 3) := by decide +kernel
theorem dX11_wealth_15 : decode cX11_wealth 15 = .ok (.ifCond .eq 12, 3) := by decide +kernel
theorem dX11_wealth_18 : decode cX11_wealth 18 = .ok (.iload_n 3, 1) := by decide +kernel
theorem dX11_wealth_19 : decode cX11_wealth 19 = .ok (.bipush 10, 2) := by decide +kernel
theorem dX11_wealth_21 : decode cX11_wealth 21 = .ok (.invokestatic 91, 3) := by decide +kernel
theorem dX11_wealth_24 : decode cX11_wealth 24 = .ok (.ifCond .ne 5, 3) := by decide +kernel
theorem dX11_wealth_27 : decode cX11_wealth 27 = .ok (.iconst 0, 1) := by decide +kernel
theorem dX11_wealth_28 : decode cX11_wealth 28 = .ok (.ireturn, 1) := by decide +kernel
theorem dX11_wealth_29 : decode cX11_wealth 29 = .ok (.aload_n 0, 1) := by decide +kernel
theorem dX11_wealth_30 : decode cX11_wealth 30 = .ok (.getfield 10, 3) := by decide +kernel
theorem dX11_wealth_33 : decode cX11_wealth 33 = .ok (.iload_n 1, 1) := by decide +kernel
theorem dX11_wealth_34 : decode cX11_wealth 34 = .ok (.iload_n 2, 1) := by decide +kernel
theorem dX11_wealth_35 : decode cX11_wealth 35 = .ok (.invokevirtual 113, 3) := by decide +kernel
theorem dX11_wealth_38 : decode cX11_wealth 38 = .ok (.ifCond .ne 5, 3) := by decide +kernel
theorem dX11_wealth_41 : decode cX11_wealth 41 = .ok (.iconst 0, 1) := by decide +kernel
theorem dX11_wealth_42 : decode cX11_wealth 42 = .ok (.ireturn, 1) := by decide +kernel
theorem dX11_wealth_43 : decode cX11_wealth 43 = .ok (.aload_n 0, 1) := by decide +kernel
theorem dX11_wealth_44 : decode cX11_wealth 44 = .ok (.getfield 10, 3) := by decide +kernel
theorem dX11_wealth_47 : decode cX11_wealth 47 = .ok (.getfield 321, 3) := by decide +kernel
theorem dX11_wealth_50 : decode cX11_wealth 50 = .ok (.iload_n 1, 1) := by decide +kernel
theorem dX11_wealth_51 : decode cX11_wealth 51 = .ok (.bipush 10, 2) := by decide +kernel
theorem dX11_wealth_53 : decode cX11_wealth 53 = .ok (.imul, 1) := by decide +kernel
theorem dX11_wealth_54 : decode cX11_wealth 54 = .ok (.iload_n 2, 1) := by decide +kernel
theorem dX11_wealth_55 : decode cX11_wealth 55 = .ok (.iadd, 1) := by decide +kernel
theorem dX11_wealth_56 : decode cX11_wealth 56 = .ok (.iload_n 3, 1) := by decide +kernel
theorem dX11_wealth_57 : decode cX11_wealth 57 = .ok (.iastore, 1) := by decide +kernel
theorem dX11_wealth_58 : decode cX11_wealth 58 = .ok (.aload_n 0, 1) := by decide +kernel
theorem dX11_wealth_59 : decode cX11_wealth 59 = .ok (.invokevirtual 99, 3) := by decide +kernel
theorem dX11_wealth_62 : decode cX11_wealth 62 = .ok (.iconst 1, 1) := by decide +kernel
theorem dX11_wealth_63 : decode cX11_wealth 63 = .ok (.ireturn, 1) := by decide +kernel
theorem dX11_where_0 : decode cX11_where 0 = .ok (.iload_n 1, 1) := by decide +kernel
theorem dX11_where_1 : decode cX11_where 1 = .ok (.iconst 1, 1) := by decide +kernel
theorem dX11_where_2 : decode cX11_where 2 = .ok (.if_icmp .lt 17, 3) := by decide +kernel
theorem dX11_where_5 : decode cX11_where 5 = .ok (.iload_n 1, 1) := by decide +kernel
theorem dX11_where_6 : decode cX11_where 6 = .ok (.iconst 2, 1) := by decide +kernel
theorem dX11_where_7 : decode cX11_where 7 = .ok (.if_icmp .gt 12, 3) := by decide +kernel
theorem dX11_where_10 : decode cX11_where 10 = .ok (.iload_n 2, 1) := by decide +kernel
theorem dX11_where_11 : decode cX11_where 11 = .ok (.ifCond .lt 8, 3) := by decide +kernel
theorem dX11_where_14 : decode cX11_where 14 = .ok (.iload_n 2, 1) := by decide +kernel
theorem dX11_where_15 : decode cX11_where 15 = .ok (.iload_n 1, 1) := by decide +kernel
theorem dX11_where_16 : decode cX11_where 16 = .ok (.if_icmp .le 5, 3) := by decide +kernel
theorem dX11_where_19 : decode cX11_where 19 = .ok (.iconst (-1), 1) := by decide +kernel
theorem dX11_where_20 : decode cX11_where 20 = .ok (.ireturn, 1) := by decide +kernel
theorem dX11_where_21 : decode cX11_where 21 = .ok (.aload_n 0, 1) := by decide +kernel
theorem dX11_where_22 : decode cX11_where 22 = .ok (.iconst 2, 1) := by decide +kernel
theorem dX11_where_23 : decode cX11_where 23 = .ok (.invokevirtual 156, 3) := by decide +kernel
theorem dX11_where_26 : decode cX11_where 26 = .ok (.aload_n 0, 1) := by decide +kernel
theorem dX11_where_27 : decode cX11_where 27 = .ok (.getfield 74, 3) := by decide +kernel
theorem dX11_where_30 : decode cX11_where 30 = .ok (.iload_n 1, 1) := by decide +kernel
theorem dX11_where_31 : decode cX11_where 31 = .ok (.iload_n 2, 1) := by decide +kernel
theorem dX11_where_32 : decode cX11_where 32 = .ok (.aload_n 0, 1) := by decide +kernel
theorem dX11_where_33 : decode cX11_where 33 = .ok (.getfield 65, 3) := by decide +kernel
theorem dX11_where_36 : decode cX11_where 36 = .ok (.getfield 265, 3) := by decide +kernel
theorem dX11_where_39 : decode cX11_where 39 = .ok (.invokevirtual 276, 3) := by decide +kernel
theorem dX11_where_42 : decode cX11_where 42 = .ok (.ireturn, 1) := by decide +kernel
theorem dX11_within_0 : decode cX11_within 0 = .ok (.iload_n 0, 1) := by decide +kernel
theorem dX11_within_1 : decode cX11_within 1 = .ok (.ifCond .lt 12, 3) := by decide +kernel
theorem dX11_within_4 : decode cX11_within 4 = .ok (.iload_n 0, 1) := by decide +kernel
theorem dX11_within_5 : decode cX11_within 5 = .ok (.iload_n 1, 1) := by decide +kernel
theorem dX11_within_6 : decode cX11_within 6 = .ok (.if_icmp .ge 7, 3) := by decide +kernel
theorem dX11_within_9 : decode cX11_within 9 = .ok (.iconst 1, 1) := by decide +kernel
theorem dX11_within_10 : decode cX11_within 10 = .ok (.goto 4, 3) := by decide +kernel
theorem dX11_within_13 : decode cX11_within 13 = .ok (.iconst 0, 1) := by decide +kernel
theorem dX11_within_14 : decode cX11_within 14 = .ok (.ireturn, 1) := by decide +kernel
theorem dX11_world_0 : decode cX11_world 0 = .ok (.iload_n 1, 1) := by decide +kernel
theorem dX11_world_1 : decode cX11_world 1 = .ok (.sipush 10000, 3) := by decide +kernel
theorem dX11_world_4 : decode cX11_world 4 = .ok (.invokestatic 91, 3) := by decide +kernel
theorem dX11_world_7 : decode cX11_world 7 = .ok (.ifCond .eq 11, 3) := by decide +kernel
theorem dX11_world_10 : decode cX11_world 10 = .ok (.iload_n 2, 1) := by decide +kernel
theorem dX11_world_11 : decode cX11_world 11 = .ok (.iconst 5, 1) := by decide +kernel
theorem dX11_world_12 : decode cX11_world 12 = .ok (.invokestatic 91, 3) := by decide +kernel
theorem dX11_world_15 : decode cX11_world 15 = .ok (.ifCond .ne 5, 3) := by decide +kernel
theorem dX11_world_18 : decode cX11_world 18 = .ok (.iconst (-1), 1) := by decide +kernel
theorem dX11_world_19 : decode cX11_world 19 = .ok (.ireturn, 1) := by decide +kernel
theorem dX11_world_20 : decode cX11_world 20 = .ok (.aload_n 0, 1) := by decide +kernel
theorem dX11_world_21 : decode cX11_world 21 = .ok (.getfield 83, 3) := by decide +kernel
theorem dX11_world_24 : decode cX11_world 24 = .ok (.iload_n 1, 1) := by decide +kernel
theorem dX11_world_25 : decode cX11_world 25 = .ok (.invokevirtual 327, 3) := by decide +kernel
theorem dX11_world_28 : decode cX11_world 28 = .ok (.iload_n 2, 1) := by decide +kernel
theorem dX11_world_29 : decode cX11_world 29 = .ok (.tableswitch 67 0 3 #[31, 41, 51, 59], 31) := by decide +kernel
theorem dX11_world_60 : decode cX11_world 60 = .ok (.aload_n 0, 1) := by decide +kernel
theorem dX11_world_61 : decode cX11_world 61 = .ok (.getfield 83, 3) := by decide +kernel
theorem dX11_world_64 : decode cX11_world 64 = .ok (.getfield 330, 3) := by decide +kernel
theorem dX11_world_67 : decode cX11_world 67 = .ok (.iconst 0, 1) := by decide +kernel
theorem dX11_world_68 : decode cX11_world 68 = .ok (.iaload, 1) := by decide +kernel
theorem dX11_world_69 : decode cX11_world 69 = .ok (.ireturn, 1) := by decide +kernel
theorem dX11_world_70 : decode cX11_world 70 = .ok (.aload_n 0, 1) := by decide +kernel
theorem dX11_world_71 : decode cX11_world 71 = .ok (.getfield 83, 3) := by decide +kernel
theorem dX11_world_74 : decode cX11_world 74 = .ok (.getfield 330, 3) := by decide +kernel
theorem dX11_world_77 : decode cX11_world 77 = .ok (.iconst 3, 1) := by decide +kernel
theorem dX11_world_78 : decode cX11_world 78 = .ok (.iaload, 1) := by decide +kernel
theorem dX11_world_79 : decode cX11_world 79 = .ok (.ireturn, 1) := by decide +kernel
theorem dX11_world_80 : decode cX11_world 80 = .ok (.aload_n 0, 1) := by decide +kernel
theorem dX11_world_81 : decode cX11_world 81 = .ok (.getfield 83, 3) := by decide +kernel
theorem dX11_world_84 : decode cX11_world 84 = .ok (.invokevirtual 333, 3) := by decide +kernel
theorem dX11_world_87 : decode cX11_world 87 = .ok (.ireturn, 1) := by decide +kernel
theorem dX11_world_88 : decode cX11_world 88 = .ok (.aload_n 0, 1) := by decide +kernel
theorem dX11_world_89 : decode cX11_world 89 = .ok (.getfield 83, 3) := by decide +kernel
theorem dX11_world_92 : decode cX11_world 92 = .ok (.invokevirtual 336, 3) := by decide +kernel
theorem dX11_world_95 : decode cX11_world 95 = .ok (.ireturn, 1) := by decide +kernel
theorem dX11_world_96 : decode cX11_world 96 = .ok (.aload_n 0, 1) := by decide +kernel
theorem dX11_world_97 : decode cX11_world 97 = .ok (.getfield 83, 3) := by decide +kernel
theorem dX11_world_100 : decode cX11_world 100 = .ok (.getfield 339, 3) := by decide +kernel
theorem dX11_world_103 : decode cX11_world 103 = .ok (.ireturn, 1) := by decide +kernel
theorem dX12_again_0 : decode cX12_again 0 = .ok (.aload_n 0, 1) := by decide +kernel
theorem dX12_again_1 : decode cX12_again 1 = .ok (.iconst 0, 1) := by decide +kernel
theorem dX12_again_2 : decode cX12_again 2 = .ok (.putfield 214, 3) := by decide +kernel
theorem dX12_again_5 : decode cX12_again 5 = .ok (.iload_n 1, 1) := by decide +kernel
theorem dX12_again_6 : decode cX12_again 6 = .ok (.invokestatic 217, 3) := by decide +kernel
theorem dX12_again_9 : decode cX12_again 9 = .ok (.ifCond .eq 20, 3) := by decide +kernel
theorem dX12_again_12 : decode cX12_again 12 = .ok (.iload_n 2, 1) := by decide +kernel
theorem dX12_again_13 : decode cX12_again 13 = .ok (.iconst (-1), 1) := by decide +kernel
theorem dX12_again_14 : decode cX12_again 14 = .ok (.if_icmp .eq 10, 3) := by decide +kernel
theorem dX12_again_17 : decode cX12_again 17 = .ok (.iload_n 2, 1) := by decide +kernel
theorem dX12_again_18 : decode cX12_again 18 = .ok (.invokestatic 217, 3) := by decide +kernel
theorem dX12_again_21 : decode cX12_again 21 = .ok (.ifCond .eq 8, 3) := by decide +kernel
theorem dX12_again_24 : decode cX12_again 24 = .ok (.iload_n 1, 1) := by decide +kernel
theorem dX12_again_25 : decode cX12_again 25 = .ok (.iload_n 2, 1) := by decide +kernel
theorem dX12_again_26 : decode cX12_again 26 = .ok (.if_icmp .ne 5, 3) := by decide +kernel
theorem dX12_again_29 : decode cX12_again 29 = .ok (.iconst (-1), 1) := by decide +kernel
theorem dX12_again_30 : decode cX12_again 30 = .ok (.ireturn, 1) := by decide +kernel
theorem dX12_again_31 : decode cX12_again 31 = .ok (.aload_n 0, 1) := by decide +kernel
theorem dX12_again_32 : decode cX12_again 32 = .ok (.invokevirtual 505, 3) := by decide +kernel
theorem dX12_again_35 : decode cX12_again 35 = .ok (.aload_n 0, 1) := by decide +kernel
theorem dX12_again_36 : decode cX12_again 36 = .ok (.iload_n 1, 1) := by decide +kernel
theorem dX12_again_37 : decode cX12_again 37 = .ok (.iload_n 2, 1) := by decide +kernel
theorem dX12_again_38 : decode cX12_again 38 = .ok (.iconst (-1), 1) := by decide +kernel
theorem dX12_again_39 : decode cX12_again 39 = .ok (.if_icmp .ne 7, 3) := by decide +kernel
theorem dX12_again_42 : decode cX12_again 42 = .ok (.iload_n 1, 1) := by decide +kernel
theorem dX12_again_43 : decode cX12_again 43 = .ok (.goto 4, 3) := by decide +kernel
theorem dX12_again_46 : decode cX12_again 46 = .ok (.iload_n 2, 1) := by decide +kernel
theorem dX12_again_47 : decode cX12_again 47 = .ok (.invokevirtual 536, 3) := by decide +kernel
theorem dX12_again_50 : decode cX12_again 50 = .ok (.ireturn, 1) := by decide +kernel
theorem dX12_ageOf_0 : decode cX12_ageOf 0 = .ok (.aload_n 0, 1) := by decide +kernel
theorem dX12_ageOf_1 : decode cX12_ageOf 1 = .ok (.getfield 7, 3) := by decide +kernel
theorem dX12_ageOf_4 : decode cX12_ageOf 4 = .ok (.bipush 10, 2) := by decide +kernel
theorem dX12_ageOf_6 : decode cX12_ageOf 6 = .ok (.aload_n 0, 1) := by decide +kernel
theorem dX12_ageOf_7 : decode cX12_ageOf 7 = .ok (.getfield 31, 3) := by decide +kernel
theorem dX12_ageOf_10 : decode cX12_ageOf 10 = .ok (.iload_n 1, 1) := by decide +kernel
theorem dX12_ageOf_11 : decode cX12_ageOf 11 = .ok (.iaload, 1) := by decide +kernel
theorem dX12_ageOf_12 : decode cX12_ageOf 12 = .ok (.imul, 1) := by decide +kernel
theorem dX12_ageOf_13 : decode cX12_ageOf 13 = .ok (.aload_n 0, 1) := by decide +kernel
theorem dX12_ageOf_14 : decode cX12_ageOf 14 = .ok (.getfield 34, 3) := by decide +kernel
theorem dX12_ageOf_17 : decode cX12_ageOf 17 = .ok (.iload_n 1, 1) := by decide +kernel
theorem dX12_ageOf_18 : decode cX12_ageOf 18 = .ok (.iaload, 1) := by decide +kernel
theorem dX12_ageOf_19 : decode cX12_ageOf 19 = .ok (.iadd, 1) := by decide +kernel
theorem dX12_ageOf_20 : decode cX12_ageOf 20 = .ok (.iaload, 1) := by decide +kernel
theorem dX12_ageOf_21 : decode cX12_ageOf 21 = .ok (.ireturn, 1) := by decide +kernel
theorem dX12_bits_0 : decode cX12_bits 0 = .ok (.iconst 0, 1) := by decide +kernel
theorem dX12_bits_1 : decode cX12_bits 1 = .ok (.istore_n 1, 1) := by decide +kernel
theorem dX12_bits_2 : decode cX12_bits 2 = .ok (.iconst 0, 1) := by decide +kernel
theorem dX12_bits_3 : decode cX12_bits 3 = .ok (.istore_n 2, 1) := by decide +kernel
theorem dX12_bits_4 : decode cX12_bits 4 = .ok (.iload_n 2, 1) := by decide +kernel
theorem dX12_bits_5 : decode cX12_bits 5 = .ok (.bipush 12, 2) := by decide +kernel
theorem dX12_bits_7 : decode cX12_bits 7 = .ok (.if_icmp .ge 17, 3) := by decide +kernel
theorem dX12_bits_10 : decode cX12_bits 10 = .ok (.iload_n 1, 1) := by decide +kernel
theorem dX12_bits_11 : decode cX12_bits 11 = .ok (.iload_n 0, 1) := by decide +kernel
theorem dX12_bits_12 : decode cX12_bits 12 = .ok (.iload_n 2, 1) := by decide +kernel
theorem dX12_bits_13 : decode cX12_bits 13 = .ok (.ishr, 1) := by decide +kernel
theorem dX12_bits_14 : decode cX12_bits 14 = .ok (.iconst 1, 1) := by decide +kernel
theorem dX12_bits_15 : decode cX12_bits 15 = .ok (.iand, 1) := by decide +kernel
theorem dX12_bits_16 : decode cX12_bits 16 = .ok (.iadd, 1) := by decide +kernel
theorem dX12_bits_17 : decode cX12_bits 17 = .ok (.istore_n 1, 1) := by decide +kernel
theorem dX12_bits_18 : decode cX12_bits 18 = .ok (.iinc 2 1, 3) := by decide +kernel
theorem dX12_bits_21 : decode cX12_bits 21 = .ok (.goto (-17), 3) := by decide +kernel
theorem dX12_bits_24 : decode cX12_bits 24 = .ok (.iload_n 1, 1) := by decide +kernel
theorem dX12_bits_25 : decode cX12_bits 25 = .ok (.ireturn, 1) := by decide +kernel
theorem dX12_buries_0 : decode cX12_buries 0 = .ok (.aload_n 0, 1) := by decide +kernel
theorem dX12_buries_1 : decode cX12_buries 1 = .ok (.getfield 19, 3) := by decide +kernel
theorem dX12_buries_4 : decode cX12_buries 4 = .ok (.iload_n 1, 1) := by decide +kernel
theorem dX12_buries_5 : decode cX12_buries 5 = .ok (.iaload, 1) := by decide +kernel
theorem dX12_buries_6 : decode cX12_buries 6 = .ok (.istore_n 3, 1) := by decide +kernel
theorem dX12_buries_7 : decode cX12_buries 7 = .ok (.aload_n 0, 1) := by decide +kernel
theorem dX12_buries_8 : decode cX12_buries 8 = .ok (.getfield 16, 3) := by decide +kernel
theorem dX12_buries_11 : decode cX12_buries 11 = .ok (.iload_n 1, 1) := by decide +kernel
theorem dX12_buries_12 : decode cX12_buries 12 = .ok (.iaload, 1) := by decide +kernel
theorem dX12_buries_13 : decode cX12_buries 13 = .ok (.istore 4, 2) := by decide +kernel
theorem dX12_buries_15 : decode cX12_buries 15 = .ok (.aload_n 0, 1) := by decide +kernel
theorem dX12_buries_16 : decode cX12_buries 16 = .ok (.iload_n 3, 1) := by decide +kernel
theorem dX12_buries_17 : decode cX12_buries 17 = .ok (.aload_n 0, 1) := by decide +kernel
theorem dX12_buries_18 : decode cX12_buries 18 = .ok (.getfield 22, 3) := by decide +kernel
theorem dX12_buries_21 : decode cX12_buries 21 = .ok (.iload_n 1, 1) := by decide +kernel
theorem dX12_buries_22 : decode cX12_buries 22 = .ok (.iaload, 1) := by decide +kernel
theorem dX12_buries_23 : decode cX12_buries 23 = .ok (.iload_n 2, 1) := by decide +kernel
theorem dX12_buries_24 : decode cX12_buries 24 = .ok (.invokevirtual 231, 3) := by decide +kernel
theorem dX12_buries_27 : decode cX12_buries 27 = .ok (.iconst 1, 1) := by decide +kernel
theorem dX12_buries_28 : decode cX12_buries 28 = .ok (.iload 4, 2) := by decide +kernel
theorem dX12_buries_30 : decode cX12_buries 30 = .ok (.ishl, 1) := by decide +kernel
theorem dX12_buries_31 : decode cX12_buries 31 = .ok (.if_icmp .ne 17, 3) := by decide +kernel
theorem dX12_buries_34 : decode cX12_buries 34 = .ok (.aload_n 0, 1) := by decide +kernel
theorem dX12_buries_35 : decode cX12_buries 35 = .ok (.invokevirtual 562, 3) := by decide +kernel
theorem dX12_buries_38 : decode cX12_buries 38 = .ok (.aload_n 0, 1) := by decide +kernel
theorem dX12_buries_39 : decode cX12_buries 39 = .ok (.getfield 159, 3) := by decide +kernel
theorem dX12_buries_42 : decode cX12_buries 42 = .ok (.iload 4, 2) := by decide +kernel
theorem dX12_buries_44 : decode cX12_buries 44 = .ok (.iaload, 1) := by decide +kernel
theorem dX12_buries_45 : decode cX12_buries 45 = .ok (.if_icmp .lt 4, 3) := by decide +kernel
theorem dX12_buries_48 : decode cX12_buries 48 = .ok (.return_, 1) := by decide +kernel
theorem dX12_buries_49 : decode cX12_buries 49 = .ok (.aload_n 0, 1) := by decide +kernel
theorem dX12_buries_50 : decode cX12_buries 50 = .ok (.getfield 174, 3) := by decide +kernel
theorem dX12_buries_53 : decode cX12_buries 53 = .ok (.iload_n 3, 1) := by decide +kernel
theorem dX12_buries_54 : decode cX12_buries 54 = .ok (.iaload, 1) := by decide +kernel
theorem dX12_buries_55 : decode cX12_buries 55 = .ok (.bipush 9, 2) := by decide +kernel
theorem dX12_buries_57 : decode cX12_buries 57 = .ok (.if_icmp .eq 11, 3) := by decide +kernel
theorem dX12_buries_60 : decode cX12_buries 60 = .ok (.aload_n 0, 1) := by decide +kernel
theorem dX12_buries_61 : decode cX12_buries 61 = .ok (.iload_n 3, 1) := by decide +kernel
theorem dX12_buries_62 : decode cX12_buries 62 = .ok (.invokevirtual 565, 3) := by decide +kernel
theorem dX12_buries_65 : decode cX12_buries 65 = .ok (.ifCond .ne 4, 3) := by decide +kernel
theorem dX12_buries_68 : decode cX12_buries 68 = .ok (.return_, 1) := by decide +kernel
theorem dX12_buries_69 : decode cX12_buries 69 = .ok (.aload_n 0, 1) := by decide +kernel
theorem dX12_buries_70 : decode cX12_buries 70 = .ok (.getfield 171, 3) := by decide +kernel
theorem dX12_buries_73 : decode cX12_buries 73 = .ok (.bipush 9, 2) := by decide +kernel
theorem dX12_buries_75 : decode cX12_buries 75 = .ok (.iload_n 3, 1) := by decide +kernel
theorem dX12_buries_76 : decode cX12_buries 76 = .ok (.imul, 1) := by decide +kernel
theorem dX12_buries_77 : decode cX12_buries 77 = .ok (.aload_n 0, 1) := by decide +kernel
theorem dX12_buries_78 : decode cX12_buries 78 = .ok (.getfield 174, 3) := by decide +kernel
theorem dX12_buries_81 : decode cX12_buries 81 = .ok (.iload_n 3, 1) := by decide +kernel
theorem dX12_buries_82 : decode cX12_buries 82 = .ok (.iaload, 1) := by decide +kernel
theorem dX12_buries_83 : decode cX12_buries 83 = .ok (.iadd, 1) := by decide +kernel
theorem dX12_buries_84 : decode cX12_buries 84 = .ok (.aload_n 0, 1) := by decide +kernel
theorem dX12_buries_85 : decode cX12_buries 85 = .ok (.iload_n 3, 1) := by decide +kernel
theorem dX12_buries_86 : decode cX12_buries 86 = .ok (.invokevirtual 571, 3) := by decide +kernel
theorem dX12_buries_89 : decode cX12_buries 89 = .ok (.iastore, 1) := by decide +kernel
theorem dX12_buries_90 : decode cX12_buries 90 = .ok (.aload_n 0, 1) := by decide +kernel
theorem dX12_buries_91 : decode cX12_buries 91 = .ok (.getfield 174, 3) := by decide +kernel
theorem dX12_buries_94 : decode cX12_buries 94 = .ok (.iload_n 3, 1) := by decide +kernel
theorem dX12_buries_95 : decode cX12_buries 95 = .ok (.dup2, 1) := by decide +kernel
theorem dX12_buries_96 : decode cX12_buries 96 = .ok (.iaload, 1) := by decide +kernel
theorem dX12_buries_97 : decode cX12_buries 97 = .ok (.iconst 1, 1) := by decide +kernel
theorem dX12_buries_98 : decode cX12_buries 98 = .ok (.iadd, 1) := by decide +kernel
theorem dX12_buries_99 : decode cX12_buries 99 = .ok (.iastore, 1) := by decide +kernel
theorem dX12_buries_100 : decode cX12_buries 100 = .ok (.return_, 1) := by decide +kernel
theorem dX12_can_0 : decode cX12_can 0 = .ok (.aload_n 0, 1) := by decide +kernel
theorem dX12_can_1 : decode cX12_can 1 = .ok (.iconst 0, 1) := by decide +kernel
theorem dX12_can_2 : decode cX12_can 2 = .ok (.putfield 214, 3) := by decide +kernel
theorem dX12_can_5 : decode cX12_can 5 = .ok (.aload_n 0, 1) := by decide +kernel
theorem dX12_can_6 : decode cX12_can 6 = .ok (.iload_n 1, 1) := by decide +kernel
theorem dX12_can_7 : decode cX12_can 7 = .ok (.invokevirtual 249, 3) := by decide +kernel
theorem dX12_can_10 : decode cX12_can 10 = .ok (.ifCond .eq 11, 3) := by decide +kernel
theorem dX12_can_13 : decode cX12_can 13 = .ok (.aload_n 0, 1) := by decide +kernel
theorem dX12_can_14 : decode cX12_can 14 = .ok (.iload_n 1, 1) := by decide +kernel
theorem dX12_can_15 : decode cX12_can 15 = .ok (.invokevirtual 478, 3) := by decide +kernel
theorem dX12_can_18 : decode cX12_can 18 = .ok (.goto 4, 3) := by decide +kernel
theorem dX12_can_21 : decode cX12_can 21 = .ok (.iconst (-1), 1) := by decide +kernel
theorem dX12_can_22 : decode cX12_can 22 = .ok (.ireturn, 1) := by decide +kernel
theorem dX12_canOf_0 : decode cX12_canOf 0 = .ok (.iconst 0, 1) := by decide +kernel
theorem dX12_canOf_1 : decode cX12_canOf 1 = .ok (.istore_n 2, 1) := by decide +kernel
theorem dX12_canOf_2 : decode cX12_canOf 2 = .ok (.iconst 0, 1) := by decide +kernel
theorem dX12_canOf_3 : decode cX12_canOf 3 = .ok (.istore_n 3, 1) := by decide +kernel
theorem dX12_canOf_4 : decode cX12_canOf 4 = .ok (.iload_n 3, 1) := by decide +kernel
theorem dX12_canOf_5 : decode cX12_canOf 5 = .ok (.aload_n 0, 1) := by decide +kernel
theorem dX12_canOf_6 : decode cX12_canOf 6 = .ok (.getfield 207, 3) := by decide +kernel
theorem dX12_canOf_9 : decode cX12_canOf 9 = .ok (.if_icmp .gt 83, 3) := by decide +kernel
theorem dX12_canOf_12 : decode cX12_canOf 12 = .ok (.aload_n 0, 1) := by decide +kernel
theorem dX12_canOf_13 : decode cX12_canOf 13 = .ok (.getfield 37, 3) := by decide +kernel
theorem dX12_canOf_16 : decode cX12_canOf 16 = .ok (.iload_n 1, 1) := by decide +kernel
theorem dX12_canOf_17 : decode cX12_canOf 17 = .ok (.iaload, 1) := by decide +kernel
theorem dX12_canOf_18 : decode cX12_canOf 18 = .ok (.iload_n 3, 1) := by decide +kernel
theorem dX12_canOf_19 : decode cX12_canOf 19 = .ok (.isub, 1) := by decide +kernel
theorem dX12_canOf_20 : decode cX12_canOf 20 = .ok (.istore 4, 2) := by decide +kernel
theorem dX12_canOf_22 : decode cX12_canOf 22 = .ok (.iconst 0, 1) := by decide +kernel
theorem dX12_canOf_23 : decode cX12_canOf 23 = .ok (.istore 5, 2) := by decide +kernel
theorem dX12_canOf_25 : decode cX12_canOf 25 = .ok (.iload 5, 2) := by decide +kernel
theorem dX12_canOf_27 : decode cX12_canOf 27 = .ok (.iload_n 3, 1) := by decide +kernel
theorem dX12_canOf_28 : decode cX12_canOf 28 = .ok (.ifCond .ne 12, 3) := by decide +kernel
theorem dX12_canOf_31 : decode cX12_canOf 31 = .ok (.aload_n 0, 1) := by decide +kernel
theorem dX12_canOf_32 : decode cX12_canOf 32 = .ok (.getfield 40, 3) := by decide +kernel
theorem dX12_canOf_35 : decode cX12_canOf 35 = .ok (.iload_n 1, 1) := by decide +kernel
theorem dX12_canOf_36 : decode cX12_canOf 36 = .ok (.iaload, 1) := by decide +kernel
theorem dX12_canOf_37 : decode cX12_canOf 37 = .ok (.goto 5, 3) := by decide +kernel
theorem dX12_canOf_40 : decode cX12_canOf 40 = .ok (.bipush 24, 2) := by decide +kernel
theorem dX12_canOf_42 : decode cX12_canOf 42 = .ok (.if_icmp .ge 44, 3) := by decide +kernel
theorem dX12_canOf_45 : decode cX12_canOf 45 = .ok (.iload 4, 2) := by decide +kernel
theorem dX12_canOf_47 : decode cX12_canOf 47 = .ok (.ifCond .lt 39, 3) := by decide +kernel
theorem dX12_canOf_50 : decode cX12_canOf 50 = .ok (.aload_n 0, 1) := by decide +kernel
theorem dX12_canOf_51 : decode cX12_canOf 51 = .ok (.aload_n 0, 1) := by decide +kernel
theorem dX12_canOf_52 : decode cX12_canOf 52 = .ok (.getfield 31, 3) := by decide +kernel
theorem dX12_canOf_55 : decode cX12_canOf 55 = .ok (.iload_n 1, 1) := by decide +kernel
theorem dX12_canOf_56 : decode cX12_canOf 56 = .ok (.iaload, 1) := by decide +kernel
theorem dX12_canOf_57 : decode cX12_canOf 57 = .ok (.iload 4, 2) := by decide +kernel
theorem dX12_canOf_59 : decode cX12_canOf 59 = .ok (.iload 5, 2) := by decide +kernel
theorem dX12_canOf_61 : decode cX12_canOf 61 = .ok (.invokevirtual 231, 3) := by decide +kernel
theorem dX12_canOf_64 : decode cX12_canOf 64 = .ok (.istore 6, 2) := by decide +kernel
theorem dX12_canOf_66 : decode cX12_canOf 66 = .ok (.iload 6, 2) := by decide +kernel
theorem dX12_canOf_68 : decode cX12_canOf 68 = .ok (.invokestatic 242, 3) := by decide +kernel
theorem dX12_canOf_71 : decode cX12_canOf 71 = .ok (.iconst 1, 1) := by decide +kernel
theorem dX12_canOf_72 : decode cX12_canOf 72 = .ok (.if_icmp .ne 8, 3) := by decide +kernel
theorem dX12_canOf_75 : decode cX12_canOf 75 = .ok (.iload_n 2, 1) := by decide +kernel
theorem dX12_canOf_76 : decode cX12_canOf 76 = .ok (.iload 6, 2) := by decide +kernel
theorem dX12_canOf_78 : decode cX12_canOf 78 = .ok (.ior, 1) := by decide +kernel
theorem dX12_canOf_79 : decode cX12_canOf 79 = .ok (.istore_n 2, 1) := by decide +kernel
theorem dX12_canOf_80 : decode cX12_canOf 80 = .ok (.iinc 5 1, 3) := by decide +kernel
theorem dX12_canOf_83 : decode cX12_canOf 83 = .ok (.goto (-58), 3) := by decide +kernel
theorem dX12_canOf_86 : decode cX12_canOf 86 = .ok (.iinc 3 1, 3) := by decide +kernel
theorem dX12_canOf_89 : decode cX12_canOf 89 = .ok (.goto (-85), 3) := by decide +kernel
theorem dX12_canOf_92 : decode cX12_canOf 92 = .ok (.iload_n 2, 1) := by decide +kernel
theorem dX12_canOf_93 : decode cX12_canOf 93 = .ok (.ireturn, 1) := by decide +kernel
theorem dX12_count_0 : decode cX12_count 0 = .ok (.aload_n 0, 1) := by decide +kernel
theorem dX12_count_1 : decode cX12_count 1 = .ok (.iconst 0, 1) := by decide +kernel
theorem dX12_count_2 : decode cX12_count 2 = .ok (.putfield 214, 3) := by decide +kernel
theorem dX12_count_5 : decode cX12_count 5 = .ok (.iload_n 1, 1) := by decide +kernel
theorem dX12_count_6 : decode cX12_count 6 = .ok (.iconst 0, 1) := by decide +kernel
theorem dX12_count_7 : decode cX12_count 7 = .ok (.bipush 7, 2) := by decide +kernel
theorem dX12_count_9 : decode cX12_count 9 = .ok (.invokestatic 221, 3) := by decide +kernel
theorem dX12_count_12 : decode cX12_count 12 = .ok (.ifCond .ne 5, 3) := by decide +kernel
theorem dX12_count_15 : decode cX12_count 15 = .ok (.iconst (-1), 1) := by decide +kernel
theorem dX12_count_16 : decode cX12_count 16 = .ok (.ireturn, 1) := by decide +kernel
theorem dX12_count_17 : decode cX12_count 17 = .ok (.iconst 0, 1) := by decide +kernel
theorem dX12_count_18 : decode cX12_count 18 = .ok (.istore_n 2, 1) := by decide +kernel
theorem dX12_count_19 : decode cX12_count 19 = .ok (.iload_n 1, 1) := by decide +kernel
theorem dX12_count_20 : decode cX12_count 20 = .ok (.bipush 7, 2) := by decide +kernel
theorem dX12_count_22 : decode cX12_count 22 = .ok (.if_icmp .ne 34, 3) := by decide +kernel
theorem dX12_count_25 : decode cX12_count 25 = .ok (.iconst 0, 1) := by decide +kernel
theorem dX12_count_26 : decode cX12_count 26 = .ok (.istore_n 3, 1) := by decide +kernel
theorem dX12_count_27 : decode cX12_count 27 = .ok (.iload_n 3, 1) := by decide +kernel
theorem dX12_count_28 : decode cX12_count 28 = .ok (.bipush 80, 2) := by decide +kernel
theorem dX12_count_30 : decode cX12_count 30 = .ok (.if_icmp .ge 26, 3) := by decide +kernel
theorem dX12_count_33 : decode cX12_count 33 = .ok (.iload_n 2, 1) := by decide +kernel
theorem dX12_count_34 : decode cX12_count 34 = .ok (.aload_n 0, 1) := by decide +kernel
theorem dX12_count_35 : decode cX12_count 35 = .ok (.getfield 7, 3) := by decide +kernel
theorem dX12_count_38 : decode cX12_count 38 = .ok (.iload_n 3, 1) := by decide +kernel
theorem dX12_count_39 : decode cX12_count 39 = .ok (.iaload, 1) := by decide +kernel
theorem dX12_count_40 : decode cX12_count 40 = .ok (.ifCond .lt 7, 3) := by decide +kernel
theorem dX12_count_43 : decode cX12_count 43 = .ok (.iconst 1, 1) := by decide +kernel
theorem dX12_count_44 : decode cX12_count 44 = .ok (.goto 4, 3) := by decide +kernel
theorem dX12_count_47 : decode cX12_count 47 = .ok (.iconst 0, 1) := by decide +kernel
theorem dX12_count_48 : decode cX12_count 48 = .ok (.iadd, 1) := by decide +kernel
theorem dX12_count_49 : decode cX12_count 49 = .ok (.istore_n 2, 1) := by decide +kernel
theorem dX12_count_50 : decode cX12_count 50 = .ok (.iinc 3 1, 3) := by decide +kernel
theorem dX12_count_53 : decode cX12_count 53 = .ok (.goto (-26), 3) := by decide +kernel
theorem dX12_count_56 : decode cX12_count 56 = .ok (.iload_n 1, 1) := by decide +kernel
theorem dX12_count_57 : decode cX12_count 57 = .ok (.bipush 7, 2) := by decide +kernel
theorem dX12_count_59 : decode cX12_count 59 = .ok (.if_icmp .ne 5, 3) := by decide +kernel
theorem dX12_count_62 : decode cX12_count 62 = .ok (.iload_n 2, 1) := by decide +kernel
theorem dX12_count_63 : decode cX12_count 63 = .ok (.ireturn, 1) := by decide +kernel
theorem dX12_count_64 : decode cX12_count 64 = .ok (.iload_n 1, 1) := by decide +kernel
theorem dX12_count_65 : decode cX12_count 65 = .ok (.ifCond .ne 10, 3) := by decide +kernel
theorem dX12_count_68 : decode cX12_count 68 = .ok (.aload_n 0, 1) := by decide +kernel
theorem dX12_count_69 : decode cX12_count 69 = .ok (.getfield 235, 3) := by decide +kernel
theorem dX12_count_72 : decode cX12_count 72 = .ok (.goto 70, 3) := by decide +kernel
theorem dX12_count_75 : decode cX12_count 75 = .ok (.iload_n 1, 1) := by decide +kernel
theorem dX12_count_76 : decode cX12_count 76 = .ok (.iconst 1, 1) := by decide +kernel
theorem dX12_count_77 : decode cX12_count 77 = .ok (.if_icmp .ne 10, 3) := by decide +kernel
theorem dX12_count_80 : decode cX12_count 80 = .ok (.aload_n 0, 1) := by decide +kernel
theorem dX12_count_81 : decode cX12_count 81 = .ok (.getfield 228, 3) := by decide +kernel
theorem dX12_count_84 : decode cX12_count 84 = .ok (.goto 58, 3) := by decide +kernel
theorem dX12_count_87 : decode cX12_count 87 = .ok (.iload_n 1, 1) := by decide +kernel
theorem dX12_count_88 : decode cX12_count 88 = .ok (.iconst 2, 1) := by decide +kernel
theorem dX12_count_89 : decode cX12_count 89 = .ok (.if_icmp .ne 10, 3) := by decide +kernel
theorem dX12_count_92 : decode cX12_count 92 = .ok (.aload_n 0, 1) := by decide +kernel
theorem dX12_count_93 : decode cX12_count 93 = .ok (.getfield 475, 3) := by decide +kernel
theorem dX12_count_96 : decode cX12_count 96 = .ok (.goto 46, 3) := by decide +kernel
theorem dX12_count_99 : decode cX12_count 99 = .ok (.iload_n 1, 1) := by decide +kernel
theorem dX12_count_100 : decode cX12_count 100 = .ok (.iconst 3, 1) := by decide +kernel
theorem dX12_count_101 : decode cX12_count 101 = .ok (.if_icmp .ne 10, 3) := by decide +kernel
theorem dX12_count_104 : decode cX12_count 104 = .ok (.aload_n 0, 1) := by decide +kernel
theorem dX12_count_105 : decode cX12_count 105 = .ok (.getfield 545, 3) := by decide +kernel
theorem dX12_count_108 : decode cX12_count 108 = .ok (.goto 34, 3) := by decide +kernel
theorem dX12_count_111 : decode cX12_count 111 = .ok (.iload_n 1, 1) := by decide +kernel
theorem dX12_count_112 : decode cX12_count 112 = .ok (.iconst 4, 1) := by decide +kernel
theorem dX12_count_113 : decode cX12_count 113 = .ok (.if_icmp .ne 10, 3) := by decide +kernel
theorem dX12_count_116 : decode cX12_count 116 = .ok (.aload_n 0, 1) := by decide +kernel
theorem dX12_count_117 : decode cX12_count 117 = .ok (.getfield 508, 3) := by decide +kernel
theorem dX12_count_120 : decode cX12_count 120 = .ok (.goto 22, 3) := by decide +kernel
theorem dX12_count_123 : decode cX12_count 123 = .ok (.iload_n 1, 1) := by decide +kernel
theorem dX12_count_124 : decode cX12_count 124 = .ok (.iconst 5, 1) := by decide +kernel
theorem dX12_count_125 : decode cX12_count 125 = .ok (.if_icmp .ne 13, 3) := by decide +kernel
theorem dX12_count_128 : decode cX12_count 128 = .ok (.aload_n 0, 1) := by decide +kernel
theorem dX12_count_129 : decode cX12_count 129 = .ok (.invokevirtual 539, 3) := by decide +kernel
theorem dX12_count_132 : decode cX12_count 132 = .ok (.invokestatic 242, 3) := by decide +kernel
theorem dX12_count_135 : decode cX12_count 135 = .ok (.goto 7, 3) := by decide +kernel
theorem dX12_count_138 : decode cX12_count 138 = .ok (.aload_n 0, 1) := by decide +kernel
theorem dX12_count_139 : decode cX12_count 139 = .ok (.getfield 258, 3) := by decide +kernel
theorem dX12_count_142 : decode cX12_count 142 = .ok (.ireturn, 1) := by decide +kernel
theorem dX12_counts_0 : decode cX12_counts 0 = .ok (.aload_n 0, 1) := by decide +kernel
theorem dX12_counts_1 : decode cX12_counts 1 = .ok (.iconst 0, 1) := by decide +kernel
theorem dX12_counts_2 : decode cX12_counts 2 = .ok (.putfield 444, 3) := by decide +kernel
theorem dX12_counts_5 : decode cX12_counts 5 = .ok (.aload_n 0, 1) := by decide +kernel
theorem dX12_counts_6 : decode cX12_counts 6 = .ok (.iconst 0, 1) := by decide +kernel
theorem dX12_counts_7 : decode cX12_counts 7 = .ok (.putfield 447, 3) := by decide +kernel
theorem dX12_counts_10 : decode cX12_counts 10 = .ok (.aload_n 0, 1) := by decide +kernel
theorem dX12_counts_11 : decode cX12_counts 11 = .ok (.aload_n 0, 1) := by decide +kernel
theorem dX12_counts_12 : decode cX12_counts 12 = .ok (.getfield 235, 3) := by decide +kernel
theorem dX12_counts_15 : decode cX12_counts 15 = .ok (.putfield 450, 3) := by decide +kernel
theorem dX12_counts_18 : decode cX12_counts 18 = .ok (.aload_n 0, 1) := by decide +kernel
theorem dX12_counts_19 : decode cX12_counts 19 = .ok (.iconst 0, 1) := by decide +kernel
theorem dX12_counts_20 : decode cX12_counts 20 = .ok (.putfield 453, 3) := by decide +kernel
theorem dX12_counts_23 : decode cX12_counts 23 = .ok (.iconst 0, 1) := by decide +kernel
theorem dX12_counts_24 : decode cX12_counts 24 = .ok (.istore_n 3, 1) := by decide +kernel
theorem dX12_counts_25 : decode cX12_counts 25 = .ok (.iload_n 3, 1) := by decide +kernel
theorem dX12_counts_26 : decode cX12_counts 26 = .ok (.aload_n 0, 1) := by decide +kernel
theorem dX12_counts_27 : decode cX12_counts 27 = .ok (.getfield 235, 3) := by decide +kernel
theorem dX12_counts_30 : decode cX12_counts 30 = .ok (.if_icmp .ge 149, 3) := by decide +kernel
theorem dX12_counts_33 : decode cX12_counts 33 = .ok (.iload_n 2, 1) := by decide +kernel
theorem dX12_counts_34 : decode cX12_counts 34 = .ok (.ifCond .ne 21, 3) := by decide +kernel
theorem dX12_counts_37 : decode cX12_counts 37 = .ok (.aload_n 0, 1) := by decide +kernel
theorem dX12_counts_38 : decode cX12_counts 38 = .ok (.iload_n 3, 1) := by decide +kernel
theorem dX12_counts_39 : decode cX12_counts 39 = .ok (.bipush 14, 2) := by decide +kernel
theorem dX12_counts_41 : decode cX12_counts 41 = .ok (.invokevirtual 252, 3) := by decide +kernel
theorem dX12_counts_44 : decode cX12_counts 44 = .ok (.ifCond .le 7, 3) := by decide +kernel
theorem dX12_counts_47 : decode cX12_counts 47 = .ok (.iconst 1, 1) := by decide +kernel
theorem dX12_counts_48 : decode cX12_counts 48 = .ok (.goto 44, 3) := by decide +kernel
theorem dX12_counts_51 : decode cX12_counts 51 = .ok (.iconst 0, 1) := by decide +kernel
theorem dX12_counts_52 : decode cX12_counts 52 = .ok (.goto 40, 3) := by decide +kernel
theorem dX12_counts_55 : decode cX12_counts 55 = .ok (.iload_n 2, 1) := by decide +kernel
theorem dX12_counts_56 : decode cX12_counts 56 = .ok (.iconst 1, 1) := by decide +kernel
theorem dX12_counts_57 : decode cX12_counts 57 = .ok (.if_icmp .ne 22, 3) := by decide +kernel
theorem dX12_counts_60 : decode cX12_counts 60 = .ok (.aload_n 0, 1) := by decide +kernel
theorem dX12_counts_61 : decode cX12_counts 61 = .ok (.iload_n 3, 1) := by decide +kernel
theorem dX12_counts_62 : decode cX12_counts 62 = .ok (.bipush 12, 2) := by decide +kernel
theorem dX12_counts_64 : decode cX12_counts 64 = .ok (.invokevirtual 252, 3) := by decide +kernel
theorem dX12_counts_67 : decode cX12_counts 67 = .ok (.iconst 1, 1) := by decide +kernel
theorem dX12_counts_68 : decode cX12_counts 68 = .ok (.if_icmp .ne 7, 3) := by decide +kernel
theorem dX12_counts_71 : decode cX12_counts 71 = .ok (.iconst 1, 1) := by decide +kernel
theorem dX12_counts_72 : decode cX12_counts 72 = .ok (.goto 20, 3) := by decide +kernel
theorem dX12_counts_75 : decode cX12_counts 75 = .ok (.iconst 0, 1) := by decide +kernel
theorem dX12_counts_76 : decode cX12_counts 76 = .ok (.goto 16, 3) := by decide +kernel
theorem dX12_counts_79 : decode cX12_counts 79 = .ok (.aload_n 0, 1) := by decide +kernel
theorem dX12_counts_80 : decode cX12_counts 80 = .ok (.iload_n 3, 1) := by decide +kernel
theorem dX12_counts_81 : decode cX12_counts 81 = .ok (.invokevirtual 438, 3) := by decide +kernel
theorem dX12_counts_84 : decode cX12_counts 84 = .ok (.ifCond .le 7, 3) := by decide +kernel
theorem dX12_counts_87 : decode cX12_counts 87 = .ok (.iconst 1, 1) := by decide +kernel
theorem dX12_counts_88 : decode cX12_counts 88 = .ok (.goto 4, 3) := by decide +kernel
theorem dX12_counts_91 : decode cX12_counts 91 = .ok (.iconst 0, 1) := by decide +kernel
theorem dX12_counts_92 : decode cX12_counts 92 = .ok (.istore 4, 2) := by decide +kernel
theorem dX12_counts_94 : decode cX12_counts 94 = .ok (.aload_n 0, 1) := by decide +kernel
theorem dX12_counts_95 : decode cX12_counts 95 = .ok (.getfield 43, 3) := by decide +kernel
theorem dX12_counts_98 : decode cX12_counts 98 = .ok (.iload_n 3, 1) := by decide +kernel
theorem dX12_counts_99 : decode cX12_counts 99 = .ok (.iaload, 1) := by decide +kernel
theorem dX12_counts_100 : decode cX12_counts 100 = .ok (.iload_n 1, 1) := by decide +kernel
theorem dX12_counts_101 : decode cX12_counts 101 = .ok (.if_icmp .ne 7, 3) := by decide +kernel
theorem dX12_counts_104 : decode cX12_counts 104 = .ok (.iconst 1, 1) := by decide +kernel
theorem dX12_counts_105 : decode cX12_counts 105 = .ok (.goto 4, 3) := by decide +kernel
theorem dX12_counts_108 : decode cX12_counts 108 = .ok (.iconst 0, 1) := by decide +kernel
theorem dX12_counts_109 : decode cX12_counts 109 = .ok (.istore 5, 2) := by decide +kernel
theorem dX12_counts_111 : decode cX12_counts 111 = .ok (.aload_n 0, 1) := by decide +kernel
theorem dX12_counts_112 : decode cX12_counts 112 = .ok (.dup, 1) := by decide +kernel
theorem dX12_counts_113 : decode cX12_counts 113 = .ok (.getfield 444, 3) := by decide +kernel
theorem dX12_counts_116 : decode cX12_counts 116 = .ok (.iload 5, 2) := by decide +kernel
theorem dX12_counts_118 : decode cX12_counts 118 = .ok (.ifCond .eq 7, 3) := by decide +kernel
theorem dX12_counts_121 : decode cX12_counts 121 = .ok (.iconst 1, 1) := by decide +kernel
theorem dX12_counts_122 : decode cX12_counts 122 = .ok (.goto 4, 3) := by decide +kernel
theorem dX12_counts_125 : decode cX12_counts 125 = .ok (.iconst 0, 1) := by decide +kernel
theorem dX12_counts_126 : decode cX12_counts 126 = .ok (.iadd, 1) := by decide +kernel
theorem dX12_counts_127 : decode cX12_counts 127 = .ok (.putfield 444, 3) := by decide +kernel
theorem dX12_counts_130 : decode cX12_counts 130 = .ok (.aload_n 0, 1) := by decide +kernel
theorem dX12_counts_131 : decode cX12_counts 131 = .ok (.dup, 1) := by decide +kernel
theorem dX12_counts_132 : decode cX12_counts 132 = .ok (.getfield 453, 3) := by decide +kernel
theorem dX12_counts_135 : decode cX12_counts 135 = .ok (.iload 4, 2) := by decide +kernel
theorem dX12_counts_137 : decode cX12_counts 137 = .ok (.ifCond .eq 7, 3) := by decide +kernel
theorem dX12_counts_140 : decode cX12_counts 140 = .ok (.iconst 1, 1) := by decide +kernel
theorem dX12_counts_141 : decode cX12_counts 141 = .ok (.goto 4, 3) := by decide +kernel
theorem dX12_counts_144 : decode cX12_counts 144 = .ok (.iconst 0, 1) := by decide +kernel
theorem dX12_counts_145 : decode cX12_counts 145 = .ok (.iadd, 1) := by decide +kernel
theorem dX12_counts_146 : decode cX12_counts 146 = .ok (.putfield 453, 3) := by decide +kernel
theorem dX12_counts_149 : decode cX12_counts 149 = .ok (.aload_n 0, 1) := by decide +kernel
theorem dX12_counts_150 : decode cX12_counts 150 = .ok (.dup, 1) := by decide +kernel
theorem dX12_counts_151 : decode cX12_counts 151 = .ok (.getfield 447, 3) := by decide +kernel
theorem dX12_counts_154 : decode cX12_counts 154 = .ok (.iload 5, 2) := by decide +kernel
theorem dX12_counts_156 : decode cX12_counts 156 = .ok (.ifCond .eq 12, 3) := by decide +kernel
theorem dX12_counts_159 : decode cX12_counts 159 = .ok (.iload 4, 2) := by decide +kernel
theorem dX12_counts_161 : decode cX12_counts 161 = .ok (.ifCond .eq 7, 3) := by decide +kernel
theorem dX12_counts_164 : decode cX12_counts 164 = .ok (.iconst 1, 1) := by decide +kernel
theorem dX12_counts_165 : decode cX12_counts 165 = .ok (.goto 4, 3) := by decide +kernel
theorem dX12_counts_168 : decode cX12_counts 168 = .ok (.iconst 0, 1) := by decide +kernel
theorem dX12_counts_169 : decode cX12_counts 169 = .ok (.iadd, 1) := by decide +kernel
theorem dX12_counts_170 : decode cX12_counts 170 = .ok (.putfield 447, 3) := by decide +kernel
theorem dX12_counts_173 : decode cX12_counts 173 = .ok (.iinc 3 1, 3) := by decide +kernel
theorem dX12_counts_176 : decode cX12_counts 176 = .ok (.goto (-151), 3) := by decide +kernel
theorem dX12_counts_179 : decode cX12_counts 179 = .ok (.return_, 1) := by decide +kernel
theorem dX12_cut_0 : decode cX12_cut 0 = .ok (.aload_n 0, 1) := by decide +kernel
theorem dX12_cut_1 : decode cX12_cut 1 = .ok (.iconst 0, 1) := by decide +kernel
theorem dX12_cut_2 : decode cX12_cut 2 = .ok (.putfield 214, 3) := by decide +kernel
theorem dX12_cut_5 : decode cX12_cut 5 = .ok (.iload_n 1, 1) := by decide +kernel
theorem dX12_cut_6 : decode cX12_cut 6 = .ok (.iconst 0, 1) := by decide +kernel
theorem dX12_cut_7 : decode cX12_cut 7 = .ok (.bipush 11, 2) := by decide +kernel
theorem dX12_cut_9 : decode cX12_cut 9 = .ok (.invokestatic 221, 3) := by decide +kernel
theorem dX12_cut_12 : decode cX12_cut 12 = .ok (.ifCond .eq 24, 3) := by decide +kernel
theorem dX12_cut_15 : decode cX12_cut 15 = .ok (.iload_n 2, 1) := by decide +kernel
theorem dX12_cut_16 : decode cX12_cut 16 = .ok (.iconst 0, 1) := by decide +kernel
theorem dX12_cut_17 : decode cX12_cut 17 = .ok (.iconst 3, 1) := by decide +kernel
theorem dX12_cut_18 : decode cX12_cut 18 = .ok (.invokestatic 221, 3) := by decide +kernel
theorem dX12_cut_21 : decode cX12_cut 21 = .ok (.ifCond .eq 15, 3) := by decide +kernel
theorem dX12_cut_24 : decode cX12_cut 24 = .ok (.aload_n 0, 1) := by decide +kernel
theorem dX12_cut_25 : decode cX12_cut 25 = .ok (.lconst 0, 1) := by decide +kernel
theorem dX12_cut_26 : decode cX12_cut 26 = .ok (.invokevirtual 515, 3) := by decide +kernel
theorem dX12_cut_29 : decode cX12_cut 29 = .ok (.iload_n 1, 1) := by decide +kernel
theorem dX12_cut_30 : decode cX12_cut 30 = .ok (.ishr, 1) := by decide +kernel
theorem dX12_cut_31 : decode cX12_cut 31 = .ok (.iconst 1, 1) := by decide +kernel
theorem dX12_cut_32 : decode cX12_cut 32 = .ok (.iand, 1) := by decide +kernel
theorem dX12_cut_33 : decode cX12_cut 33 = .ok (.ifCond .ne 5, 3) := by decide +kernel
theorem dX12_cut_36 : decode cX12_cut 36 = .ok (.iconst (-1), 1) := by decide +kernel
theorem dX12_cut_37 : decode cX12_cut 37 = .ok (.ireturn, 1) := by decide +kernel
theorem dX12_cut_38 : decode cX12_cut 38 = .ok (.aload_n 0, 1) := by decide +kernel
theorem dX12_cut_39 : decode cX12_cut 39 = .ok (.iload_n 1, 1) := by decide +kernel
theorem dX12_cut_40 : decode cX12_cut 40 = .ok (.invokevirtual 526, 3) := by decide +kernel
theorem dX12_cut_43 : decode cX12_cut 43 = .ok (.aload_n 0, 1) := by decide +kernel
theorem dX12_cut_44 : decode cX12_cut 44 = .ok (.getfield 519, 3) := by decide +kernel
theorem dX12_cut_47 : decode cX12_cut 47 = .ok (.ifCond .eq 11, 3) := by decide +kernel
theorem dX12_cut_50 : decode cX12_cut 50 = .ok (.iload_n 2, 1) := by decide +kernel
theorem dX12_cut_51 : decode cX12_cut 51 = .ok (.aload_n 0, 1) := by decide +kernel
theorem dX12_cut_52 : decode cX12_cut 52 = .ok (.getfield 519, 3) := by decide +kernel
theorem dX12_cut_55 : decode cX12_cut 55 = .ok (.if_icmp .le 5, 3) := by decide +kernel
theorem dX12_cut_58 : decode cX12_cut 58 = .ok (.iconst (-1), 1) := by decide +kernel
theorem dX12_cut_59 : decode cX12_cut 59 = .ok (.ireturn, 1) := by decide +kernel
theorem dX12_cut_60 : decode cX12_cut 60 = .ok (.iload_n 2, 1) := by decide +kernel
theorem dX12_cut_61 : decode cX12_cut 61 = .ok (.ifCond .ne 10, 3) := by decide +kernel
theorem dX12_cut_64 : decode cX12_cut 64 = .ok (.aload_n 0, 1) := by decide +kernel
theorem dX12_cut_65 : decode cX12_cut 65 = .ok (.getfield 519, 3) := by decide +kernel
theorem dX12_cut_68 : decode cX12_cut 68 = .ok (.goto 11, 3) := by decide +kernel
theorem dX12_cut_71 : decode cX12_cut 71 = .ok (.aload_n 0, 1) := by decide +kernel
theorem dX12_cut_72 : decode cX12_cut 72 = .ok (.getfield 144, 3) := by decide +kernel
theorem dX12_cut_75 : decode cX12_cut 75 = .ok (.iload_n 2, 1) := by decide +kernel
theorem dX12_cut_76 : decode cX12_cut 76 = .ok (.iconst 1, 1) := by decide +kernel
theorem dX12_cut_77 : decode cX12_cut 77 = .ok (.isub, 1) := by decide +kernel
theorem dX12_cut_78 : decode cX12_cut 78 = .ok (.iaload, 1) := by decide +kernel
theorem dX12_cut_79 : decode cX12_cut 79 = .ok (.ireturn, 1) := by decide +kernel
theorem dX12_cuts_0 : decode cX12_cuts 0 = .ok (.aload_n 0, 1) := by decide +kernel
theorem dX12_cuts_1 : decode cX12_cuts 1 = .ok (.iconst 0, 1) := by decide +kernel
theorem dX12_cuts_2 : decode cX12_cuts 2 = .ok (.putfield 519, 3) := by decide +kernel
theorem dX12_cuts_5 : decode cX12_cuts 5 = .ok (.iconst 0, 1) := by decide +kernel
theorem dX12_cuts_6 : decode cX12_cuts 6 = .ok (.istore_n 2, 1) := by decide +kernel
theorem dX12_cuts_7 : decode cX12_cuts 7 = .ok (.iload_n 2, 1) := by decide +kernel
theorem dX12_cuts_8 : decode cX12_cuts 8 = .ok (.aload_n 0, 1) := by decide +kernel
theorem dX12_cuts_9 : decode cX12_cuts 9 = .ok (.getfield 235, 3) := by decide +kernel
theorem dX12_cuts_12 : decode cX12_cuts 12 = .ok (.if_icmp .ge 22, 3) := by decide +kernel
theorem dX12_cuts_15 : decode cX12_cuts 15 = .ok (.aload_n 0, 1) := by decide +kernel
theorem dX12_cuts_16 : decode cX12_cuts 16 = .ok (.iload_n 1, 1) := by decide +kernel
theorem dX12_cuts_17 : decode cX12_cuts 17 = .ok (.iconst 1, 1) := by decide +kernel
theorem dX12_cuts_18 : decode cX12_cuts 18 = .ok (.iload_n 2, 1) := by decide +kernel
theorem dX12_cuts_19 : decode cX12_cuts 19 = .ok (.iload_n 2, 1) := by decide +kernel
theorem dX12_cuts_20 : decode cX12_cuts 20 = .ok (.iload_n 2, 1) := by decide +kernel
theorem dX12_cuts_21 : decode cX12_cuts 21 = .ok (.invokevirtual 522, 3) := by decide +kernel
theorem dX12_cuts_24 : decode cX12_cuts 24 = .ok (.ifCond .eq 4, 3) := by decide +kernel
theorem dX12_cuts_27 : decode cX12_cuts 27 = .ok (.return_, 1) := by decide +kernel
theorem dX12_cuts_28 : decode cX12_cuts 28 = .ok (.iinc 2 1, 3) := by decide +kernel
theorem dX12_cuts_31 : decode cX12_cuts 31 = .ok (.goto (-24), 3) := by decide +kernel
theorem dX12_cuts_34 : decode cX12_cuts 34 = .ok (.iconst 0, 1) := by decide +kernel
theorem dX12_cuts_35 : decode cX12_cuts 35 = .ok (.istore_n 2, 1) := by decide +kernel
theorem dX12_cuts_36 : decode cX12_cuts 36 = .ok (.iload_n 2, 1) := by decide +kernel
theorem dX12_cuts_37 : decode cX12_cuts 37 = .ok (.aload_n 0, 1) := by decide +kernel
theorem dX12_cuts_38 : decode cX12_cuts 38 = .ok (.getfield 235, 3) := by decide +kernel
theorem dX12_cuts_41 : decode cX12_cuts 41 = .ok (.if_icmp .ge 40, 3) := by decide +kernel
theorem dX12_cuts_44 : decode cX12_cuts 44 = .ok (.iload_n 2, 1) := by decide +kernel
theorem dX12_cuts_45 : decode cX12_cuts 45 = .ok (.iconst 1, 1) := by decide +kernel
theorem dX12_cuts_46 : decode cX12_cuts 46 = .ok (.iadd, 1) := by decide +kernel
theorem dX12_cuts_47 : decode cX12_cuts 47 = .ok (.istore_n 3, 1) := by decide +kernel
theorem dX12_cuts_48 : decode cX12_cuts 48 = .ok (.iload_n 3, 1) := by decide +kernel
theorem dX12_cuts_49 : decode cX12_cuts 49 = .ok (.aload_n 0, 1) := by decide +kernel
theorem dX12_cuts_50 : decode cX12_cuts 50 = .ok (.getfield 235, 3) := by decide +kernel
theorem dX12_cuts_53 : decode cX12_cuts 53 = .ok (.if_icmp .ge 22, 3) := by decide +kernel
theorem dX12_cuts_56 : decode cX12_cuts 56 = .ok (.aload_n 0, 1) := by decide +kernel
theorem dX12_cuts_57 : decode cX12_cuts 57 = .ok (.iload_n 1, 1) := by decide +kernel
theorem dX12_cuts_58 : decode cX12_cuts 58 = .ok (.iconst 2, 1) := by decide +kernel
theorem dX12_cuts_59 : decode cX12_cuts 59 = .ok (.iload_n 2, 1) := by decide +kernel
theorem dX12_cuts_60 : decode cX12_cuts 60 = .ok (.iload_n 3, 1) := by decide +kernel
theorem dX12_cuts_61 : decode cX12_cuts 61 = .ok (.iload_n 3, 1) := by decide +kernel
theorem dX12_cuts_62 : decode cX12_cuts 62 = .ok (.invokevirtual 522, 3) := by decide +kernel
theorem dX12_cuts_65 : decode cX12_cuts 65 = .ok (.ifCond .eq 4, 3) := by decide +kernel
theorem dX12_cuts_68 : decode cX12_cuts 68 = .ok (.return_, 1) := by decide +kernel
theorem dX12_cuts_69 : decode cX12_cuts 69 = .ok (.iinc 3 1, 3) := by decide +kernel
theorem dX12_cuts_72 : decode cX12_cuts 72 = .ok (.goto (-24), 3) := by decide +kernel
theorem dX12_cuts_75 : decode cX12_cuts 75 = .ok (.iinc 2 1, 3) := by decide +kernel
theorem dX12_cuts_78 : decode cX12_cuts 78 = .ok (.goto (-42), 3) := by decide +kernel
theorem dX12_cuts_81 : decode cX12_cuts 81 = .ok (.iconst 0, 1) := by decide +kernel
theorem dX12_cuts_82 : decode cX12_cuts 82 = .ok (.istore_n 2, 1) := by decide +kernel
theorem dX12_cuts_83 : decode cX12_cuts 83 = .ok (.iload_n 2, 1) := by decide +kernel
theorem dX12_cuts_84 : decode cX12_cuts 84 = .ok (.aload_n 0, 1) := by decide +kernel
theorem dX12_cuts_85 : decode cX12_cuts 85 = .ok (.getfield 235, 3) := by decide +kernel
theorem dX12_cuts_88 : decode cX12_cuts 88 = .ok (.if_icmp .ge 61, 3) := by decide +kernel
theorem dX12_cuts_91 : decode cX12_cuts 91 = .ok (.iload_n 2, 1) := by decide +kernel
theorem dX12_cuts_92 : decode cX12_cuts 92 = .ok (.iconst 1, 1) := by decide +kernel
theorem dX12_cuts_93 : decode cX12_cuts 93 = .ok (.iadd, 1) := by decide +kernel
theorem dX12_cuts_94 : decode cX12_cuts 94 = .ok (.istore_n 3, 1) := by decide +kernel
theorem dX12_cuts_95 : decode cX12_cuts 95 = .ok (.iload_n 3, 1) := by decide +kernel
theorem dX12_cuts_96 : decode cX12_cuts 96 = .ok (.aload_n 0, 1) := by decide +kernel
theorem dX12_cuts_97 : decode cX12_cuts 97 = .ok (.getfield 235, 3) := by decide +kernel
theorem dX12_cuts_100 : decode cX12_cuts 100 = .ok (.if_icmp .ge 43, 3) := by decide +kernel
theorem dX12_cuts_103 : decode cX12_cuts 103 = .ok (.iload_n 3, 1) := by decide +kernel
theorem dX12_cuts_104 : decode cX12_cuts 104 = .ok (.iconst 1, 1) := by decide +kernel
theorem dX12_cuts_105 : decode cX12_cuts 105 = .ok (.iadd, 1) := by decide +kernel
theorem dX12_cuts_106 : decode cX12_cuts 106 = .ok (.istore 4, 2) := by decide +kernel
theorem dX12_cuts_108 : decode cX12_cuts 108 = .ok (.iload 4, 2) := by decide +kernel
theorem dX12_cuts_110 : decode cX12_cuts 110 = .ok (.aload_n 0, 1) := by decide +kernel
theorem dX12_cuts_111 : decode cX12_cuts 111 = .ok (.getfield 235, 3) := by decide +kernel
theorem dX12_cuts_114 : decode cX12_cuts 114 = .ok (.if_icmp .ge 23, 3) := by decide +kernel
theorem dX12_cuts_117 : decode cX12_cuts 117 = .ok (.aload_n 0, 1) := by decide +kernel
theorem dX12_cuts_118 : decode cX12_cuts 118 = .ok (.iload_n 1, 1) := by decide +kernel
theorem dX12_cuts_119 : decode cX12_cuts 119 = .ok (.iconst 3, 1) := by decide +kernel
theorem dX12_cuts_120 : decode cX12_cuts 120 = .ok (.iload_n 2, 1) := by decide +kernel
theorem dX12_cuts_121 : decode cX12_cuts 121 = .ok (.iload_n 3, 1) := by decide +kernel
theorem dX12_cuts_122 : decode cX12_cuts 122 = .ok (.iload 4, 2) := by decide +kernel
theorem dX12_cuts_124 : decode cX12_cuts 124 = .ok (.invokevirtual 522, 3) := by decide +kernel
theorem dX12_cuts_127 : decode cX12_cuts 127 = .ok (.ifCond .eq 4, 3) := by decide +kernel
theorem dX12_cuts_130 : decode cX12_cuts 130 = .ok (.return_, 1) := by decide +kernel
theorem dX12_cuts_131 : decode cX12_cuts 131 = .ok (.iinc 4 1, 3) := by decide +kernel
theorem dX12_cuts_134 : decode cX12_cuts 134 = .ok (.goto (-26), 3) := by decide +kernel
theorem dX12_cuts_137 : decode cX12_cuts 137 = .ok (.iinc 3 1, 3) := by decide +kernel
theorem dX12_cuts_140 : decode cX12_cuts 140 = .ok (.goto (-45), 3) := by decide +kernel
theorem dX12_cuts_143 : decode cX12_cuts 143 = .ok (.iinc 2 1, 3) := by decide +kernel
theorem dX12_cuts_146 : decode cX12_cuts 146 = .ok (.goto (-63), 3) := by decide +kernel
theorem dX12_cuts_149 : decode cX12_cuts 149 = .ok (.return_, 1) := by decide +kernel
theorem dX12_dayFact_0 : decode cX12_dayFact 0 = .ok (.aload_n 0, 1) := by decide +kernel
theorem dX12_dayFact_1 : decode cX12_dayFact 1 = .ok (.getfield 270, 3) := by decide +kernel
theorem dX12_dayFact_4 : decode cX12_dayFact 4 = .ok (.ldc2_w 293, 3) := by decide +kernel
theorem dX12_dayFact_7 : decode cX12_dayFact 7 = .ok (.lcmp, 1) := by decide +kernel
theorem dX12_dayFact_8 : decode cX12_dayFact 8 = .ok (.ifCond .ne 5, 3) := by decide +kernel
theorem dX12_dayFact_11 : decode cX12_dayFact 11 = .ok (.iconst 1, 1) := by decide +kernel
theorem dX12_dayFact_12 : decode cX12_dayFact 12 = .ok (.ireturn, 1) := by decide +kernel
theorem dX12_dayFact_13 : decode cX12_dayFact 13 = .ok (.aload_n 0, 1) := by decide +kernel
theorem dX12_dayFact_14 : decode cX12_dayFact 14 = .ok (.getfield 270, 3) := by decide +kernel

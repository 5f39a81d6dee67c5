theorem dJ11_isValidCodePoint_9a6ad_0 : decode cJ11_isValidCodePoint_9a6ad 0 = .ok (.iload_n 0, 1) := by decide +kernel
theorem dJ11_isValidCodePoint_9a6ad_1 : decode cJ11_isValidCodePoint_9a6ad 1 = .ok (.bipush 16, 2) := by decide +kernel
theorem dJ11_isValidCodePoint_9a6ad_3 : decode cJ11_isValidCodePoint_9a6ad 3 = .ok (.iushr, 1) := by decide +kernel
theorem dJ11_isValidCodePoint_9a6ad_4 : decode cJ11_isValidCodePoint_9a6ad 4 = .ok (.istore_n 1, 1) := by decide +kernel
theorem dJ11_isValidCodePoint_9a6ad_5 : decode cJ11_isValidCodePoint_9a6ad 5 = .ok (.iload_n 1, 1) := by decide +kernel
theorem dJ11_isValidCodePoint_9a6ad_6 : decode cJ11_isValidCodePoint_9a6ad 6 = .ok (.bipush 17, 2) := by decide +kernel
theorem dJ11_isValidCodePoint_9a6ad_8 : decode cJ11_isValidCodePoint_9a6ad 8 = .ok (.if_icmp .ge 7, 3) := by decide +kernel
theorem dJ11_isValidCodePoint_9a6ad_11 : decode cJ11_isValidCodePoint_9a6ad 11 = .ok (.iconst 1, 1) := by decide +kernel
theorem dJ11_isValidCodePoint_9a6ad_12 : decode cJ11_isValidCodePoint_9a6ad 12 = .ok (.goto 4, 3) := by decide +kernel
theorem dJ11_isValidCodePoint_9a6ad_15 : decode cJ11_isValidCodePoint_9a6ad 15 = .ok (.iconst 0, 1) := by decide +kernel
theorem dJ11_isValidCodePoint_9a6ad_16 : decode cJ11_isValidCodePoint_9a6ad 16 = .ok (.ireturn, 1) := by decide +kernel
theorem dJ11_highSurrogate_5068e_0 : decode cJ11_highSurrogate_5068e 0 = .ok (.iload_n 0, 1) := by decide +kernel
theorem dJ11_highSurrogate_5068e_1 : decode cJ11_highSurrogate_5068e 1 = .ok (.bipush 10, 2) := by decide +kernel
theorem dJ11_highSurrogate_5068e_3 : decode cJ11_highSurrogate_5068e 3 = .ok (.iushr, 1) := by decide +kernel
theorem dJ11_highSurrogate_5068e_4 : decode cJ11_highSurrogate_5068e 4 = .ok (.ldc 110, 2) := by decide +kernel
theorem dJ11_highSurrogate_5068e_6 : decode cJ11_highSurrogate_5068e 6 = .ok (.iadd, 1) := by decide +kernel
theorem dJ11_highSurrogate_5068e_7 : decode cJ11_highSurrogate_5068e 7 = .ok (.i2c, 1) := by decide +kernel
theorem dJ11_highSurrogate_5068e_8 : decode cJ11_highSurrogate_5068e 8 = .ok (.ireturn, 1) := by decide +kernel
theorem dJ11_lowSurrogate_5068e_0 : decode cJ11_lowSurrogate_5068e 0 = .ok (.iload_n 0, 1) := by decide +kernel
theorem dJ11_lowSurrogate_5068e_1 : decode cJ11_lowSurrogate_5068e 1 = .ok (.sipush 1023, 3) := by decide +kernel
theorem dJ11_lowSurrogate_5068e_4 : decode cJ11_lowSurrogate_5068e 4 = .ok (.iand, 1) := by decide +kernel
theorem dJ11_lowSurrogate_5068e_5 : decode cJ11_lowSurrogate_5068e 5 = .ok (.ldc 76, 2) := by decide +kernel
theorem dJ11_lowSurrogate_5068e_7 : decode cJ11_lowSurrogate_5068e 7 = .ok (.iadd, 1) := by decide +kernel
theorem dJ11_lowSurrogate_5068e_8 : decode cJ11_lowSurrogate_5068e 8 = .ok (.i2c, 1) := by decide +kernel
theorem dJ11_lowSurrogate_5068e_9 : decode cJ11_lowSurrogate_5068e 9 = .ok (.ireturn, 1) := by decide +kernel
theorem dJ6_bitCount_0f7a4_0 : decode cJ6_bitCount_0f7a4 0 = .ok (.iload_n 0, 1) := by decide +kernel
theorem dJ6_bitCount_0f7a4_1 : decode cJ6_bitCount_0f7a4 1 = .ok (.iload_n 0, 1) := by decide +kernel
theorem dJ6_bitCount_0f7a4_2 : decode cJ6_bitCount_0f7a4 2 = .ok (.iconst 1, 1) := by decide +kernel
theorem dJ6_bitCount_0f7a4_3 : decode cJ6_bitCount_0f7a4 3 = .ok (.iushr, 1) := by decide +kernel
theorem dJ6_bitCount_0f7a4_4 : decode cJ6_bitCount_0f7a4 4 = .ok (.ldc_w 265, 3) := by decide +kernel
theorem dJ6_bitCount_0f7a4_7 : decode cJ6_bitCount_0f7a4 7 = .ok (.iand, 1) := by decide +kernel
theorem dJ6_bitCount_0f7a4_8 : decode cJ6_bitCount_0f7a4 8 = .ok (.isub, 1) := by decide +kernel
theorem dJ6_bitCount_0f7a4_9 : decode cJ6_bitCount_0f7a4 9 = .ok (.istore_n 0, 1) := by decide +kernel
theorem dJ6_bitCount_0f7a4_10 : decode cJ6_bitCount_0f7a4 10 = .ok (.iload_n 0, 1) := by decide +kernel
theorem dJ6_bitCount_0f7a4_11 : decode cJ6_bitCount_0f7a4 11 = .ok (.ldc_w 266, 3) := by decide +kernel
theorem dJ6_bitCount_0f7a4_14 : decode cJ6_bitCount_0f7a4 14 = .ok (.iand, 1) := by decide +kernel
theorem dJ6_bitCount_0f7a4_15 : decode cJ6_bitCount_0f7a4 15 = .ok (.iload_n 0, 1) := by decide +kernel
theorem dJ6_bitCount_0f7a4_16 : decode cJ6_bitCount_0f7a4 16 = .ok (.iconst 2, 1) := by decide +kernel
theorem dJ6_bitCount_0f7a4_17 : decode cJ6_bitCount_0f7a4 17 = .ok (.iushr, 1) := by decide +kernel
theorem dJ6_bitCount_0f7a4_18 : decode cJ6_bitCount_0f7a4 18 = .ok (.ldc_w 266, 3) := by decide +kernel
theorem dJ6_bitCount_0f7a4_21 : decode cJ6_bitCount_0f7a4 21 = .ok (.iand, 1) := by decide +kernel
theorem dJ6_bitCount_0f7a4_22 : decode cJ6_bitCount_0f7a4 22 = .ok (.iadd, 1) := by decide +kernel
theorem dJ6_bitCount_0f7a4_23 : decode cJ6_bitCount_0f7a4 23 = .ok (.istore_n 0, 1) := by decide +kernel
theorem dJ6_bitCount_0f7a4_24 : decode cJ6_bitCount_0f7a4 24 = .ok (.iload_n 0, 1) := by decide +kernel
theorem dJ6_bitCount_0f7a4_25 : decode cJ6_bitCount_0f7a4 25 = .ok (.iload_n 0, 1) := by decide +kernel
theorem dJ6_bitCount_0f7a4_26 : decode cJ6_bitCount_0f7a4 26 = .ok (.iconst 4, 1) := by decide +kernel
theorem dJ6_bitCount_0f7a4_27 : decode cJ6_bitCount_0f7a4 27 = .ok (.iushr, 1) := by decide +kernel
theorem dJ6_bitCount_0f7a4_28 : decode cJ6_bitCount_0f7a4 28 = .ok (.iadd, 1) := by decide +kernel
theorem dJ6_bitCount_0f7a4_29 : decode cJ6_bitCount_0f7a4 29 = .ok (.ldc_w 267, 3) := by decide +kernel
theorem dJ6_bitCount_0f7a4_32 : decode cJ6_bitCount_0f7a4 32 = .ok (.iand, 1) := by decide +kernel
theorem dJ6_bitCount_0f7a4_33 : decode cJ6_bitCount_0f7a4 33 = .ok (.istore_n 0, 1) := by decide +kernel
theorem dJ6_bitCount_0f7a4_34 : decode cJ6_bitCount_0f7a4 34 = .ok (.iload_n 0, 1) := by decide +kernel
theorem dJ6_bitCount_0f7a4_35 : decode cJ6_bitCount_0f7a4 35 = .ok (.iload_n 0, 1) := by decide +kernel
theorem dJ6_bitCount_0f7a4_36 : decode cJ6_bitCount_0f7a4 36 = .ok (.bipush 8, 2) := by decide +kernel
theorem dJ6_bitCount_0f7a4_38 : decode cJ6_bitCount_0f7a4 38 = .ok (.iushr, 1) := by decide +kernel
theorem dJ6_bitCount_0f7a4_39 : decode cJ6_bitCount_0f7a4 39 = .ok (.iadd, 1) := by decide +kernel
theorem dJ6_bitCount_0f7a4_40 : decode cJ6_bitCount_0f7a4 40 = .ok (.istore_n 0, 1) := by decide +kernel
theorem dJ6_bitCount_0f7a4_41 : decode cJ6_bitCount_0f7a4 41 = .ok (.iload_n 0, 1) := by decide +kernel
theorem dJ6_bitCount_0f7a4_42 : decode cJ6_bitCount_0f7a4 42 = .ok (.iload_n 0, 1) := by decide +kernel
theorem dJ6_bitCount_0f7a4_43 : decode cJ6_bitCount_0f7a4 43 = .ok (.bipush 16, 2) := by decide +kernel
theorem dJ6_bitCount_0f7a4_45 : decode cJ6_bitCount_0f7a4 45 = .ok (.iushr, 1) := by decide +kernel
theorem dJ6_bitCount_0f7a4_46 : decode cJ6_bitCount_0f7a4 46 = .ok (.iadd, 1) := by decide +kernel
theorem dJ6_bitCount_0f7a4_47 : decode cJ6_bitCount_0f7a4 47 = .ok (.istore_n 0, 1) := by decide +kernel
theorem dJ6_bitCount_0f7a4_48 : decode cJ6_bitCount_0f7a4 48 = .ok (.iload_n 0, 1) := by decide +kernel
theorem dJ6_bitCount_0f7a4_49 : decode cJ6_bitCount_0f7a4 49 = .ok (.bipush 63, 2) := by decide +kernel
theorem dJ6_bitCount_0f7a4_51 : decode cJ6_bitCount_0f7a4 51 = .ok (.iand, 1) := by decide +kernel
theorem dJ6_bitCount_0f7a4_52 : decode cJ6_bitCount_0f7a4 52 = .ok (.ireturn, 1) := by decide +kernel
theorem dJ9_max_7cf53_0 : decode cJ9_max_7cf53 0 = .ok (.iload_n 0, 1) := by decide +kernel
theorem dJ9_max_7cf53_1 : decode cJ9_max_7cf53 1 = .ok (.iload_n 1, 1) := by decide +kernel
theorem dJ9_max_7cf53_2 : decode cJ9_max_7cf53 2 = .ok (.if_icmp .lt 7, 3) := by decide +kernel
theorem dJ9_max_7cf53_5 : decode cJ9_max_7cf53 5 = .ok (.iload_n 0, 1) := by decide +kernel
theorem dJ9_max_7cf53_6 : decode cJ9_max_7cf53 6 = .ok (.goto 4, 3) := by decide +kernel
theorem dJ9_max_7cf53_9 : decode cJ9_max_7cf53 9 = .ok (.iload_n 1, 1) := by decide +kernel
theorem dJ9_max_7cf53_10 : decode cJ9_max_7cf53 10 = .ok (.ireturn, 1) := by decide +kernel
theorem dJ9_min_7cf53_0 : decode cJ9_min_7cf53 0 = .ok (.iload_n 0, 1) := by decide +kernel
theorem dJ9_min_7cf53_1 : decode cJ9_min_7cf53 1 = .ok (.iload_n 1, 1) := by decide +kernel
theorem dJ9_min_7cf53_2 : decode cJ9_min_7cf53 2 = .ok (.if_icmp .gt 7, 3) := by decide +kernel
theorem dJ9_min_7cf53_5 : decode cJ9_min_7cf53 5 = .ok (.iload_n 0, 1) := by decide +kernel
theorem dJ9_min_7cf53_6 : decode cJ9_min_7cf53 6 = .ok (.goto 4, 3) := by decide +kernel
theorem dJ9_min_7cf53_9 : decode cJ9_min_7cf53 9 = .ok (.iload_n 1, 1) := by decide +kernel
theorem dJ9_min_7cf53_10 : decode cJ9_min_7cf53 10 = .ok (.ireturn, 1) := by decide +kernel
theorem dJ0_length_8abf5_0 : decode cJ0_length_8abf5 0 = .ok (.aload_n 0, 1) := by decide +kernel
theorem dJ0_length_8abf5_1 : decode cJ0_length_8abf5 1 = .ok (.getfield 9, 3) := by decide +kernel
theorem dJ0_length_8abf5_4 : decode cJ0_length_8abf5 4 = .ok (.arraylength, 1) := by decide +kernel
theorem dJ0_length_8abf5_5 : decode cJ0_length_8abf5 5 = .ok (.aload_n 0, 1) := by decide +kernel
theorem dJ0_length_8abf5_6 : decode cJ0_length_8abf5 6 = .ok (.invokevirtual 335, 3) := by decide +kernel
theorem dJ0_length_8abf5_9 : decode cJ0_length_8abf5 9 = .ok (.ishr, 1) := by decide +kernel
theorem dJ0_length_8abf5_10 : decode cJ0_length_8abf5 10 = .ok (.ireturn, 1) := by decide +kernel
theorem dJ0_charAt_5068e_0 : decode cJ0_charAt_5068e 0 = .ok (.aload_n 0, 1) := by decide +kernel
theorem dJ0_charAt_5068e_1 : decode cJ0_charAt_5068e 1 = .ok (.invokevirtual 492, 3) := by decide +kernel
theorem dJ0_charAt_5068e_4 : decode cJ0_charAt_5068e 4 = .ok (.ifCond .eq 12, 3) := by decide +kernel
theorem dJ0_charAt_5068e_7 : decode cJ0_charAt_5068e 7 = .ok (.aload_n 0, 1) := by decide +kernel
theorem dJ0_charAt_5068e_8 : decode cJ0_charAt_5068e 8 = .ok (.getfield 9, 3) := by decide +kernel
theorem dJ0_charAt_5068e_11 : decode cJ0_charAt_5068e 11 = .ok (.iload_n 1, 1) := by decide +kernel
theorem dJ0_charAt_5068e_12 : decode cJ0_charAt_5068e 12 = .ok (.invokestatic 495, 3) := by decide +kernel
theorem dJ0_charAt_5068e_15 : decode cJ0_charAt_5068e 15 = .ok (.ireturn, 1) := by decide +kernel
theorem dJ0_charAt_5068e_16 : decode cJ0_charAt_5068e 16 = .ok (.aload_n 0, 1) := by decide +kernel
theorem dJ0_charAt_5068e_17 : decode cJ0_charAt_5068e 17 = .ok (.getfield 9, 3) := by decide +kernel
theorem dJ0_charAt_5068e_20 : decode cJ0_charAt_5068e 20 = .ok (.iload_n 1, 1) := by decide +kernel
theorem dJ0_charAt_5068e_21 : decode cJ0_charAt_5068e 21 = .ok (.invokestatic 498, 3) := by decide +kernel
theorem dJ0_charAt_5068e_24 : decode cJ0_charAt_5068e 24 = .ok (.ireturn, 1) := by decide +kernel
theorem dJ0_indexOf_0f7a4_0 : decode cJ0_indexOf_0f7a4 0 = .ok (.aload_n 0, 1) := by decide +kernel
theorem dJ0_indexOf_0f7a4_1 : decode cJ0_indexOf_0f7a4 1 = .ok (.iload_n 1, 1) := by decide +kernel
theorem dJ0_indexOf_0f7a4_2 : decode cJ0_indexOf_0f7a4 2 = .ok (.iconst 0, 1) := by decide +kernel
theorem dJ0_indexOf_0f7a4_3 : decode cJ0_indexOf_0f7a4 3 = .ok (.invokevirtual 633, 3) := by decide +kernel
theorem dJ0_indexOf_0f7a4_6 : decode cJ0_indexOf_0f7a4 6 = .ok (.ireturn, 1) := by decide +kernel
theorem dJ0_indexOf_7cf53_0 : decode cJ0_indexOf_7cf53 0 = .ok (.aload_n 0, 1) := by decide +kernel
theorem dJ0_indexOf_7cf53_1 : decode cJ0_indexOf_7cf53 1 = .ok (.invokevirtual 492, 3) := by decide +kernel
theorem dJ0_indexOf_7cf53_4 : decode cJ0_indexOf_7cf53 4 = .ok (.ifCond .eq 19, 3) := by decide +kernel
theorem dJ0_indexOf_7cf53_7 : decode cJ0_indexOf_7cf53 7 = .ok (.aload_n 0, 1) := by decide +kernel
theorem dJ0_indexOf_7cf53_8 : decode cJ0_indexOf_7cf53 8 = .ok (.getfield 9, 3) := by decide +kernel
theorem dJ0_indexOf_7cf53_11 : decode cJ0_indexOf_7cf53 11 = .ok (.iload_n 1, 1) := by decide +kernel
theorem dJ0_indexOf_7cf53_12 : decode cJ0_indexOf_7cf53 12 = .ok (.iload_n 2, 1) := by decide +kernel
theorem dJ0_indexOf_7cf53_13 : decode cJ0_indexOf_7cf53 13 = .ok (.aload_n 0, 1) := by decide +kernel
theorem dJ0_indexOf_7cf53_14 : decode cJ0_indexOf_7cf53 14 = .ok (.invokevirtual 505, 3) := by decide +kernel
theorem dJ0_indexOf_7cf53_17 : decode cJ0_indexOf_7cf53 17 = .ok (.invokestatic 637, 3) := by decide +kernel
theorem dJ0_indexOf_7cf53_20 : decode cJ0_indexOf_7cf53 20 = .ok (.goto 16, 3) := by decide +kernel
theorem dJ0_indexOf_7cf53_23 : decode cJ0_indexOf_7cf53 23 = .ok (.aload_n 0, 1) := by decide +kernel
theorem dJ0_indexOf_7cf53_24 : decode cJ0_indexOf_7cf53 24 = .ok (.getfield 9, 3) := by decide +kernel
theorem dJ0_indexOf_7cf53_27 : decode cJ0_indexOf_7cf53 27 = .ok (.iload_n 1, 1) := by decide +kernel
theorem dJ0_indexOf_7cf53_28 : decode cJ0_indexOf_7cf53 28 = .ok (.iload_n 2, 1) := by decide +kernel
theorem dJ0_indexOf_7cf53_29 : decode cJ0_indexOf_7cf53 29 = .ok (.aload_n 0, 1) := by decide +kernel
theorem dJ0_indexOf_7cf53_30 : decode cJ0_indexOf_7cf53 30 = .ok (.invokevirtual 505, 3) := by decide +kernel
theorem dJ0_indexOf_7cf53_33 : decode cJ0_indexOf_7cf53 33 = .ok (.invokestatic 640, 3) := by decide +kernel
theorem dJ0_indexOf_7cf53_36 : decode cJ0_indexOf_7cf53 36 = .ok (.ireturn, 1) := by decide +kernel
theorem dJ0_coder_7d493_0 : decode cJ0_coder_7d493 0 = .ok (.getstatic 38, 3) := by decide +kernel
theorem dJ0_coder_7d493_3 : decode cJ0_coder_7d493 3 = .ok (.ifCond .eq 10, 3) := by decide +kernel
theorem dJ0_coder_7d493_6 : decode cJ0_coder_7d493 6 = .ok (.aload_n 0, 1) := by decide +kernel
theorem dJ0_coder_7d493_7 : decode cJ0_coder_7d493 7 = .ok (.getfield 15, 3) := by decide +kernel
theorem dJ0_coder_7d493_10 : decode cJ0_coder_7d493 10 = .ok (.goto 4, 3) := by decide +kernel
theorem dJ0_coder_7d493_13 : decode cJ0_coder_7d493 13 = .ok (.iconst 1, 1) := by decide +kernel
theorem dJ0_coder_7d493_14 : decode cJ0_coder_7d493 14 = .ok (.ireturn, 1) := by decide +kernel
theorem dJ0_isLatin1_aae02_0 : decode cJ0_isLatin1_aae02 0 = .ok (.getstatic 38, 3) := by decide +kernel
theorem dJ0_isLatin1_aae02_3 : decode cJ0_isLatin1_aae02 3 = .ok (.ifCond .eq 14, 3) := by decide +kernel
theorem dJ0_isLatin1_aae02_6 : decode cJ0_isLatin1_aae02 6 = .ok (.aload_n 0, 1) := by decide +kernel
theorem dJ0_isLatin1_aae02_7 : decode cJ0_isLatin1_aae02 7 = .ok (.getfield 15, 3) := by decide +kernel
theorem dJ0_isLatin1_aae02_10 : decode cJ0_isLatin1_aae02 10 = .ok (.ifCond .ne 7, 3) := by decide +kernel
theorem dJ0_isLatin1_aae02_13 : decode cJ0_isLatin1_aae02 13 = .ok (.iconst 1, 1) := by decide +kernel
theorem dJ0_isLatin1_aae02_14 : decode cJ0_isLatin1_aae02 14 = .ok (.goto 4, 3) := by decide +kernel
theorem dJ0_isLatin1_aae02_17 : decode cJ0_isLatin1_aae02 17 = .ok (.iconst 0, 1) := by decide +kernel
theorem dJ0_isLatin1_aae02_18 : decode cJ0_isLatin1_aae02 18 = .ok (.ireturn, 1) := by decide +kernel
theorem dJ0_checkIndex_df160_0 : decode cJ0_checkIndex_df160 0 = .ok (.iload_n 0, 1) := by decide +kernel
theorem dJ0_checkIndex_df160_1 : decode cJ0_checkIndex_df160 1 = .ok (.iload_n 1, 1) := by decide +kernel
theorem dJ0_checkIndex_df160_2 : decode cJ0_checkIndex_df160 2 = .ok (.getstatic 1053, 3) := by decide +kernel
theorem dJ0_checkIndex_df160_5 : decode cJ0_checkIndex_df160 5 = .ok (.invokestatic 1059, 3) := by decide +kernel
theorem dJ0_checkIndex_df160_8 : decode cJ0_checkIndex_df160 8 = .ok (.pop, 1) := by decide +kernel
theorem dJ0_checkIndex_df160_9 : decode cJ0_checkIndex_df160 9 = .ok (.return_, 1) := by decide +kernel
theorem dJ0_checkBoundsBeginEnd_23922_0 : decode cJ0_checkBoundsBeginEnd_23922 0 = .ok (.iload_n 0, 1) := by decide +kernel
theorem dJ0_checkBoundsBeginEnd_23922_1 : decode cJ0_checkBoundsBeginEnd_23922 1 = .ok (.iload_n 1, 1) := by decide +kernel
theorem dJ0_checkBoundsBeginEnd_23922_2 : decode cJ0_checkBoundsBeginEnd_23922 2 = .ok (.iload_n 2, 1) := by decide +kernel
theorem dJ0_checkBoundsBeginEnd_23922_3 : decode cJ0_checkBoundsBeginEnd_23922 3 = .ok (.getstatic 1053, 3) := by decide +kernel
theorem dJ0_checkBoundsBeginEnd_23922_6 : decode cJ0_checkBoundsBeginEnd_23922 6 = .ok (.invokestatic 1062, 3) := by decide +kernel
theorem dJ0_checkBoundsBeginEnd_23922_9 : decode cJ0_checkBoundsBeginEnd_23922 9 = .ok (.pop, 1) := by decide +kernel
theorem dJ0_checkBoundsBeginEnd_23922_10 : decode cJ0_checkBoundsBeginEnd_23922 10 = .ok (.return_, 1) := by decide +kernel
theorem dJ1_charAt_3b067_0 : decode cJ1_charAt_3b067 0 = .ok (.iload_n 1, 1) := by decide +kernel
theorem dJ1_charAt_3b067_1 : decode cJ1_charAt_3b067 1 = .ok (.aload_n 0, 1) := by decide +kernel
theorem dJ1_charAt_3b067_2 : decode cJ1_charAt_3b067 2 = .ok (.arraylength, 1) := by decide +kernel
theorem dJ1_charAt_3b067_3 : decode cJ1_charAt_3b067 3 = .ok (.invokestatic 9, 3) := by decide +kernel
theorem dJ1_charAt_3b067_6 : decode cJ1_charAt_3b067 6 = .ok (.aload_n 0, 1) := by decide +kernel
theorem dJ1_charAt_3b067_7 : decode cJ1_charAt_3b067 7 = .ok (.iload_n 1, 1) := by decide +kernel
theorem dJ1_charAt_3b067_8 : decode cJ1_charAt_3b067 8 = .ok (.baload, 1) := by decide +kernel
theorem dJ1_charAt_3b067_9 : decode cJ1_charAt_3b067 9 = .ok (.sipush 255, 3) := by decide +kernel
theorem dJ1_charAt_3b067_12 : decode cJ1_charAt_3b067 12 = .ok (.iand, 1) := by decide +kernel
theorem dJ1_charAt_3b067_13 : decode cJ1_charAt_3b067 13 = .ok (.i2c, 1) := by decide +kernel
theorem dJ1_charAt_3b067_14 : decode cJ1_charAt_3b067 14 = .ok (.ireturn, 1) := by decide +kernel
theorem dJ1_canEncode_9a6ad_0 : decode cJ1_canEncode_9a6ad 0 = .ok (.iload_n 0, 1) := by decide +kernel
theorem dJ1_canEncode_9a6ad_1 : decode cJ1_canEncode_9a6ad 1 = .ok (.ifCond .lt 14, 3) := by decide +kernel
theorem dJ1_canEncode_9a6ad_4 : decode cJ1_canEncode_9a6ad 4 = .ok (.iload_n 0, 1) := by decide +kernel
theorem dJ1_canEncode_9a6ad_5 : decode cJ1_canEncode_9a6ad 5 = .ok (.sipush 255, 3) := by decide +kernel
theorem dJ1_canEncode_9a6ad_8 : decode cJ1_canEncode_9a6ad 8 = .ok (.if_icmp .gt 7, 3) := by decide +kernel
theorem dJ1_canEncode_9a6ad_11 : decode cJ1_canEncode_9a6ad 11 = .ok (.iconst 1, 1) := by decide +kernel
theorem dJ1_canEncode_9a6ad_12 : decode cJ1_canEncode_9a6ad 12 = .ok (.goto 4, 3) := by decide +kernel
theorem dJ1_canEncode_9a6ad_15 : decode cJ1_canEncode_9a6ad 15 = .ok (.iconst 0, 1) := by decide +kernel
theorem dJ1_canEncode_9a6ad_16 : decode cJ1_canEncode_9a6ad 16 = .ok (.ireturn, 1) := by decide +kernel
theorem dJ1_indexOf_4cfef_0 : decode cJ1_indexOf_4cfef 0 = .ok (.iload_n 1, 1) := by decide +kernel
theorem dJ1_indexOf_4cfef_1 : decode cJ1_indexOf_4cfef 1 = .ok (.invokestatic 88, 3) := by decide +kernel
theorem dJ1_indexOf_4cfef_4 : decode cJ1_indexOf_4cfef 4 = .ok (.ifCond .ne 5, 3) := by decide +kernel
theorem dJ1_indexOf_4cfef_7 : decode cJ1_indexOf_4cfef 7 = .ok (.iconst (-1), 1) := by decide +kernel
theorem dJ1_indexOf_4cfef_8 : decode cJ1_indexOf_4cfef 8 = .ok (.ireturn, 1) := by decide +kernel
theorem dJ1_indexOf_4cfef_9 : decode cJ1_indexOf_4cfef 9 = .ok (.iload_n 2, 1) := by decide +kernel
theorem dJ1_indexOf_4cfef_10 : decode cJ1_indexOf_4cfef 10 = .ok (.iconst 0, 1) := by decide +kernel
theorem dJ1_indexOf_4cfef_11 : decode cJ1_indexOf_4cfef 11 = .ok (.invokestatic 92, 3) := by decide +kernel
theorem dJ1_indexOf_4cfef_14 : decode cJ1_indexOf_4cfef 14 = .ok (.istore_n 2, 1) := by decide +kernel
theorem dJ1_indexOf_4cfef_15 : decode cJ1_indexOf_4cfef 15 = .ok (.iload_n 3, 1) := by decide +kernel
theorem dJ1_indexOf_4cfef_16 : decode cJ1_indexOf_4cfef 16 = .ok (.aload_n 0, 1) := by decide +kernel
theorem dJ1_indexOf_4cfef_17 : decode cJ1_indexOf_4cfef 17 = .ok (.arraylength, 1) := by decide +kernel
theorem dJ1_indexOf_4cfef_18 : decode cJ1_indexOf_4cfef 18 = .ok (.invokestatic 38, 3) := by decide +kernel
theorem dJ1_indexOf_4cfef_21 : decode cJ1_indexOf_4cfef 21 = .ok (.istore_n 3, 1) := by decide +kernel
theorem dJ1_indexOf_4cfef_22 : decode cJ1_indexOf_4cfef 22 = .ok (.iload_n 2, 1) := by decide +kernel
theorem dJ1_indexOf_4cfef_23 : decode cJ1_indexOf_4cfef 23 = .ok (.iload_n 3, 1) := by decide +kernel
theorem dJ1_indexOf_4cfef_24 : decode cJ1_indexOf_4cfef 24 = .ok (.if_icmp .lt 5, 3) := by decide +kernel
theorem dJ1_indexOf_4cfef_27 : decode cJ1_indexOf_4cfef 27 = .ok (.iconst (-1), 1) := by decide +kernel
theorem dJ1_indexOf_4cfef_28 : decode cJ1_indexOf_4cfef 28 = .ok (.ireturn, 1) := by decide +kernel
theorem dJ1_indexOf_4cfef_29 : decode cJ1_indexOf_4cfef 29 = .ok (.aload_n 0, 1) := by decide +kernel
theorem dJ1_indexOf_4cfef_30 : decode cJ1_indexOf_4cfef 30 = .ok (.iload_n 1, 1) := by decide +kernel
theorem dJ1_indexOf_4cfef_31 : decode cJ1_indexOf_4cfef 31 = .ok (.iload_n 2, 1) := by decide +kernel
theorem dJ1_indexOf_4cfef_32 : decode cJ1_indexOf_4cfef 32 = .ok (.iload_n 3, 1) := by decide +kernel
theorem dJ1_indexOf_4cfef_33 : decode cJ1_indexOf_4cfef 33 = .ok (.invokestatic 95, 3) := by decide +kernel
theorem dJ1_indexOf_4cfef_36 : decode cJ1_indexOf_4cfef 36 = .ok (.ireturn, 1) := by decide +kernel
theorem dJ1_indexOfChar_4cfef_0 : decode cJ1_indexOfChar_4cfef 0 = .ok (.iload_n 1, 1) := by decide +kernel
theorem dJ1_indexOfChar_4cfef_1 : decode cJ1_indexOfChar_4cfef 1 = .ok (.i2b, 1) := by decide +kernel
theorem dJ1_indexOfChar_4cfef_2 : decode cJ1_indexOfChar_4cfef 2 = .ok (.istore 4, 2) := by decide +kernel
theorem dJ1_indexOfChar_4cfef_4 : decode cJ1_indexOfChar_4cfef 4 = .ok (.iload_n 2, 1) := by decide +kernel
theorem dJ1_indexOfChar_4cfef_5 : decode cJ1_indexOfChar_4cfef 5 = .ok (.istore 5, 2) := by decide +kernel
theorem dJ1_indexOfChar_4cfef_7 : decode cJ1_indexOfChar_4cfef 7 = .ok (.iload 5, 2) := by decide +kernel
theorem dJ1_indexOfChar_4cfef_9 : decode cJ1_indexOfChar_4cfef 9 = .ok (.iload_n 3, 1) := by decide +kernel
theorem dJ1_indexOfChar_4cfef_10 : decode cJ1_indexOfChar_4cfef 10 = .ok (.if_icmp .ge 21, 3) := by decide +kernel
theorem dJ1_indexOfChar_4cfef_13 : decode cJ1_indexOfChar_4cfef 13 = .ok (.aload_n 0, 1) := by decide +kernel
theorem dJ1_indexOfChar_4cfef_14 : decode cJ1_indexOfChar_4cfef 14 = .ok (.iload 5, 2) := by decide +kernel
theorem dJ1_indexOfChar_4cfef_16 : decode cJ1_indexOfChar_4cfef 16 = .ok (.baload, 1) := by decide +kernel
theorem dJ1_indexOfChar_4cfef_17 : decode cJ1_indexOfChar_4cfef 17 = .ok (.iload 4, 2) := by decide +kernel
theorem dJ1_indexOfChar_4cfef_19 : decode cJ1_indexOfChar_4cfef 19 = .ok (.if_icmp .ne 6, 3) := by decide +kernel
theorem dJ1_indexOfChar_4cfef_22 : decode cJ1_indexOfChar_4cfef 22 = .ok (.iload 5, 2) := by decide +kernel
theorem dJ1_indexOfChar_4cfef_24 : decode cJ1_indexOfChar_4cfef 24 = .ok (.ireturn, 1) := by decide +kernel
theorem dJ1_indexOfChar_4cfef_25 : decode cJ1_indexOfChar_4cfef 25 = .ok (.iinc 5 1, 3) := by decide +kernel
theorem dJ1_indexOfChar_4cfef_28 : decode cJ1_indexOfChar_4cfef 28 = .ok (.goto (-21), 3) := by decide +kernel
theorem dJ1_indexOfChar_4cfef_31 : decode cJ1_indexOfChar_4cfef 31 = .ok (.iconst (-1), 1) := by decide +kernel
theorem dJ1_indexOfChar_4cfef_32 : decode cJ1_indexOfChar_4cfef 32 = .ok (.ireturn, 1) := by decide +kernel
theorem dJ2_getChar_3b067_0 : decode cJ2_getChar_3b067 0 = .ok (.getstatic 44, 3) := by decide +kernel
theorem dJ2_getChar_3b067_3 : decode cJ2_getChar_3b067 3 = .ok (.ifCond .ne 25, 3) := by decide +kernel
theorem dJ2_getChar_3b067_6 : decode cJ2_getChar_3b067 6 = .ok (.iload_n 1, 1) := by decide +kernel
theorem dJ2_getChar_3b067_7 : decode cJ2_getChar_3b067 7 = .ok (.ifCond .lt 11, 3) := by decide +kernel
theorem dJ2_getChar_3b067_10 : decode cJ2_getChar_3b067 10 = .ok (.iload_n 1, 1) := by decide +kernel
theorem dJ2_getChar_3b067_11 : decode cJ2_getChar_3b067 11 = .ok (.aload_n 0, 1) := by decide +kernel
theorem dJ2_getChar_3b067_12 : decode cJ2_getChar_3b067 12 = .ok (.invokestatic 48, 3) := by decide +kernel
theorem dJ2_getChar_3b067_15 : decode cJ2_getChar_3b067 15 = .ok (.if_icmp .lt 13, 3) := by decide +kernel
theorem dJ2_getChar_3b067_18 : decode cJ2_getChar_3b067 18 = .ok (.new 52, 3) := by decide +kernel
theorem dJ2_getChar_3b067_21 : decode cJ2_getChar_3b067 21 = .ok (.dup, 1) := by decide +kernel
theorem dJ2_getChar_3b067_22 : decode cJ2_getChar_3b067 22 = .ok (.ldc 54, 2) := by decide +kernel
theorem dJ2_getChar_3b067_24 : decode cJ2_getChar_3b067 24 = .ok (.invokespecial 56, 3) := by decide +kernel
theorem dJ2_getChar_3b067_27 : decode cJ2_getChar_3b067 27 = .ok (.athrow, 1) := by decide +kernel
theorem dJ2_getChar_3b067_28 : decode cJ2_getChar_3b067 28 = .ok (.iload_n 1, 1) := by decide +kernel
theorem dJ2_getChar_3b067_29 : decode cJ2_getChar_3b067 29 = .ok (.iconst 1, 1) := by decide +kernel
theorem dJ2_getChar_3b067_30 : decode cJ2_getChar_3b067 30 = .ok (.ishl, 1) := by decide +kernel
theorem dJ2_getChar_3b067_31 : decode cJ2_getChar_3b067 31 = .ok (.istore_n 1, 1) := by decide +kernel
theorem dJ2_getChar_3b067_32 : decode cJ2_getChar_3b067 32 = .ok (.aload_n 0, 1) := by decide +kernel
theorem dJ2_getChar_3b067_33 : decode cJ2_getChar_3b067 33 = .ok (.iload_n 1, 1) := by decide +kernel
theorem dJ2_getChar_3b067_34 : decode cJ2_getChar_3b067 34 = .ok (.iinc 1 1, 3) := by decide +kernel
theorem dJ2_getChar_3b067_37 : decode cJ2_getChar_3b067 37 = .ok (.baload, 1) := by decide +kernel
theorem dJ2_getChar_3b067_38 : decode cJ2_getChar_3b067 38 = .ok (.sipush 255, 3) := by decide +kernel
theorem dJ2_getChar_3b067_41 : decode cJ2_getChar_3b067 41 = .ok (.iand, 1) := by decide +kernel
theorem dJ2_getChar_3b067_42 : decode cJ2_getChar_3b067 42 = .ok (.getstatic 59, 3) := by decide +kernel
theorem dJ2_getChar_3b067_45 : decode cJ2_getChar_3b067 45 = .ok (.ishl, 1) := by decide +kernel
theorem dJ2_getChar_3b067_46 : decode cJ2_getChar_3b067 46 = .ok (.aload_n 0, 1) := by decide +kernel
theorem dJ2_getChar_3b067_47 : decode cJ2_getChar_3b067 47 = .ok (.iload_n 1, 1) := by decide +kernel
theorem dJ2_getChar_3b067_48 : decode cJ2_getChar_3b067 48 = .ok (.baload, 1) := by decide +kernel
theorem dJ2_getChar_3b067_49 : decode cJ2_getChar_3b067 49 = .ok (.sipush 255, 3) := by decide +kernel
theorem dJ2_getChar_3b067_52 : decode cJ2_getChar_3b067 52 = .ok (.iand, 1) := by decide +kernel
theorem dJ2_getChar_3b067_53 : decode cJ2_getChar_3b067 53 = .ok (.getstatic 63, 3) := by decide +kernel
theorem dJ2_getChar_3b067_56 : decode cJ2_getChar_3b067 56 = .ok (.ishl, 1) := by decide +kernel
theorem dJ2_getChar_3b067_57 : decode cJ2_getChar_3b067 57 = .ok (.ior, 1) := by decide +kernel
theorem dJ2_getChar_3b067_58 : decode cJ2_getChar_3b067 58 = .ok (.i2c, 1) := by decide +kernel
theorem dJ2_getChar_3b067_59 : decode cJ2_getChar_3b067 59 = .ok (.ireturn, 1) := by decide +kernel
theorem dJ2_length_9d52b_0 : decode cJ2_length_9d52b 0 = .ok (.aload_n 0, 1) := by decide +kernel
theorem dJ2_length_9d52b_1 : decode cJ2_length_9d52b 1 = .ok (.arraylength, 1) := by decide +kernel
theorem dJ2_length_9d52b_2 : decode cJ2_length_9d52b 2 = .ok (.iconst 1, 1) := by decide +kernel
theorem dJ2_length_9d52b_3 : decode cJ2_length_9d52b 3 = .ok (.ishr, 1) := by decide +kernel
theorem dJ2_length_9d52b_4 : decode cJ2_length_9d52b 4 = .ok (.ireturn, 1) := by decide +kernel
theorem dJ2_indexOf_4cfef_0 : decode cJ2_indexOf_4cfef 0 = .ok (.iload_n 2, 1) := by decide +kernel
theorem dJ2_indexOf_4cfef_1 : decode cJ2_indexOf_4cfef 1 = .ok (.iconst 0, 1) := by decide +kernel
theorem dJ2_indexOf_4cfef_2 : decode cJ2_indexOf_4cfef 2 = .ok (.invokestatic 224, 3) := by decide +kernel
theorem dJ2_indexOf_4cfef_5 : decode cJ2_indexOf_4cfef 5 = .ok (.istore_n 2, 1) := by decide +kernel
theorem dJ2_indexOf_4cfef_6 : decode cJ2_indexOf_4cfef 6 = .ok (.iload_n 3, 1) := by decide +kernel
theorem dJ2_indexOf_4cfef_7 : decode cJ2_indexOf_4cfef 7 = .ok (.aload_n 0, 1) := by decide +kernel
theorem dJ2_indexOf_4cfef_8 : decode cJ2_indexOf_4cfef 8 = .ok (.arraylength, 1) := by decide +kernel
theorem dJ2_indexOf_4cfef_9 : decode cJ2_indexOf_4cfef 9 = .ok (.iconst 1, 1) := by decide +kernel
theorem dJ2_indexOf_4cfef_10 : decode cJ2_indexOf_4cfef 10 = .ok (.ishr, 1) := by decide +kernel
theorem dJ2_indexOf_4cfef_11 : decode cJ2_indexOf_4cfef 11 = .ok (.invokestatic 183, 3) := by decide +kernel
theorem dJ2_indexOf_4cfef_14 : decode cJ2_indexOf_4cfef 14 = .ok (.istore_n 3, 1) := by decide +kernel
theorem dJ2_indexOf_4cfef_15 : decode cJ2_indexOf_4cfef 15 = .ok (.iload_n 2, 1) := by decide +kernel
theorem dJ2_indexOf_4cfef_16 : decode cJ2_indexOf_4cfef 16 = .ok (.iload_n 3, 1) := by decide +kernel
theorem dJ2_indexOf_4cfef_17 : decode cJ2_indexOf_4cfef 17 = .ok (.if_icmp .lt 5, 3) := by decide +kernel
theorem dJ2_indexOf_4cfef_20 : decode cJ2_indexOf_4cfef 20 = .ok (.iconst (-1), 1) := by decide +kernel
theorem dJ2_indexOf_4cfef_21 : decode cJ2_indexOf_4cfef 21 = .ok (.ireturn, 1) := by decide +kernel
theorem dJ2_indexOf_4cfef_22 : decode cJ2_indexOf_4cfef 22 = .ok (.iload_n 1, 1) := by decide +kernel
theorem dJ2_indexOf_4cfef_23 : decode cJ2_indexOf_4cfef 23 = .ok (.ldc 227, 2) := by decide +kernel
theorem dJ2_indexOf_4cfef_25 : decode cJ2_indexOf_4cfef 25 = .ok (.if_icmp .ge 11, 3) := by decide +kernel
theorem dJ2_indexOf_4cfef_28 : decode cJ2_indexOf_4cfef 28 = .ok (.aload_n 0, 1) := by decide +kernel
theorem dJ2_indexOf_4cfef_29 : decode cJ2_indexOf_4cfef 29 = .ok (.iload_n 1, 1) := by decide +kernel
theorem dJ2_indexOf_4cfef_30 : decode cJ2_indexOf_4cfef 30 = .ok (.iload_n 2, 1) := by decide +kernel
theorem dJ2_indexOf_4cfef_31 : decode cJ2_indexOf_4cfef 31 = .ok (.iload_n 3, 1) := by decide +kernel
theorem dJ2_indexOf_4cfef_32 : decode cJ2_indexOf_4cfef 32 = .ok (.invokestatic 228, 3) := by decide +kernel
theorem dJ2_indexOf_4cfef_35 : decode cJ2_indexOf_4cfef 35 = .ok (.ireturn, 1) := by decide +kernel
theorem dJ2_indexOf_4cfef_36 : decode cJ2_indexOf_4cfef 36 = .ok (.aload_n 0, 1) := by decide +kernel
theorem dJ2_indexOf_4cfef_37 : decode cJ2_indexOf_4cfef 37 = .ok (.iload_n 1, 1) := by decide +kernel
theorem dJ2_indexOf_4cfef_38 : decode cJ2_indexOf_4cfef 38 = .ok (.iload_n 2, 1) := by decide +kernel
theorem dJ2_indexOf_4cfef_39 : decode cJ2_indexOf_4cfef 39 = .ok (.iload_n 3, 1) := by decide +kernel
theorem dJ2_indexOf_4cfef_40 : decode cJ2_indexOf_4cfef 40 = .ok (.invokestatic 232, 3) := by decide +kernel
theorem dJ2_indexOf_4cfef_43 : decode cJ2_indexOf_4cfef 43 = .ok (.ireturn, 1) := by decide +kernel
theorem dJ2_indexOfChar_4cfef_0 : decode cJ2_indexOfChar_4cfef 0 = .ok (.iload_n 2, 1) := by decide +kernel
theorem dJ2_indexOfChar_4cfef_1 : decode cJ2_indexOfChar_4cfef 1 = .ok (.iload_n 3, 1) := by decide +kernel
theorem dJ2_indexOfChar_4cfef_2 : decode cJ2_indexOfChar_4cfef 2 = .ok (.aload_n 0, 1) := by decide +kernel
theorem dJ2_indexOfChar_4cfef_3 : decode cJ2_indexOfChar_4cfef 3 = .ok (.invokestatic 96, 3) := by decide +kernel
theorem dJ2_indexOfChar_4cfef_6 : decode cJ2_indexOfChar_4cfef 6 = .ok (.aload_n 0, 1) := by decide +kernel
theorem dJ2_indexOfChar_4cfef_7 : decode cJ2_indexOfChar_4cfef 7 = .ok (.iload_n 1, 1) := by decide +kernel
theorem dJ2_indexOfChar_4cfef_8 : decode cJ2_indexOfChar_4cfef 8 = .ok (.iload_n 2, 1) := by decide +kernel
theorem dJ2_indexOfChar_4cfef_9 : decode cJ2_indexOfChar_4cfef 9 = .ok (.iload_n 3, 1) := by decide +kernel
theorem dJ2_indexOfChar_4cfef_10 : decode cJ2_indexOfChar_4cfef 10 = .ok (.invokestatic 244, 3) := by decide +kernel
theorem dJ2_indexOfChar_4cfef_13 : decode cJ2_indexOfChar_4cfef 13 = .ok (.ireturn, 1) := by decide +kernel
theorem dJ2_indexOfCharUnsafe_4cfef_0 : decode cJ2_indexOfCharUnsafe_4cfef 0 = .ok (.iload_n 2, 1) := by decide +kernel
theorem dJ2_indexOfCharUnsafe_4cfef_1 : decode cJ2_indexOfCharUnsafe_4cfef 1 = .ok (.istore 4, 2) := by decide +kernel
theorem dJ2_indexOfCharUnsafe_4cfef_3 : decode cJ2_indexOfCharUnsafe_4cfef 3 = .ok (.iload 4, 2) := by decide +kernel
theorem dJ2_indexOfCharUnsafe_4cfef_5 : decode cJ2_indexOfCharUnsafe_4cfef 5 = .ok (.iload_n 3, 1) := by decide +kernel
theorem dJ2_indexOfCharUnsafe_4cfef_6 : decode cJ2_indexOfCharUnsafe_4cfef 6 = .ok (.if_icmp .ge 22, 3) := by decide +kernel
theorem dJ2_indexOfCharUnsafe_4cfef_9 : decode cJ2_indexOfCharUnsafe_4cfef 9 = .ok (.aload_n 0, 1) := by decide +kernel
theorem dJ2_indexOfCharUnsafe_4cfef_10 : decode cJ2_indexOfCharUnsafe_4cfef 10 = .ok (.iload 4, 2) := by decide +kernel
theorem dJ2_indexOfCharUnsafe_4cfef_12 : decode cJ2_indexOfCharUnsafe_4cfef 12 = .ok (.invokestatic 71, 3) := by decide +kernel
theorem dJ2_indexOfCharUnsafe_4cfef_15 : decode cJ2_indexOfCharUnsafe_4cfef 15 = .ok (.iload_n 1, 1) := by decide +kernel
theorem dJ2_indexOfCharUnsafe_4cfef_16 : decode cJ2_indexOfCharUnsafe_4cfef 16 = .ok (.if_icmp .ne 6, 3) := by decide +kernel
theorem dJ2_indexOfCharUnsafe_4cfef_19 : decode cJ2_indexOfCharUnsafe_4cfef 19 = .ok (.iload 4, 2) := by decide +kernel
theorem dJ2_indexOfCharUnsafe_4cfef_21 : decode cJ2_indexOfCharUnsafe_4cfef 21 = .ok (.ireturn, 1) := by decide +kernel
theorem dJ2_indexOfCharUnsafe_4cfef_22 : decode cJ2_indexOfCharUnsafe_4cfef 22 = .ok (.iinc 4 1, 3) := by decide +kernel
theorem dJ2_indexOfCharUnsafe_4cfef_25 : decode cJ2_indexOfCharUnsafe_4cfef 25 = .ok (.goto (-22), 3) := by decide +kernel
theorem dJ2_indexOfCharUnsafe_4cfef_28 : decode cJ2_indexOfCharUnsafe_4cfef 28 = .ok (.iconst (-1), 1) := by decide +kernel
theorem dJ2_indexOfCharUnsafe_4cfef_29 : decode cJ2_indexOfCharUnsafe_4cfef 29 = .ok (.ireturn, 1) := by decide +kernel
theorem dJ2_indexOfSupplementary_4cfef_0 : decode cJ2_indexOfSupplementary_4cfef 0 = .ok (.iload_n 1, 1) := by decide +kernel
theorem dJ2_indexOfSupplementary_4cfef_1 : decode cJ2_indexOfSupplementary_4cfef 1 = .ok (.invokestatic 164, 3) := by decide +kernel
theorem dJ2_indexOfSupplementary_4cfef_4 : decode cJ2_indexOfSupplementary_4cfef 4 = .ok (.ifCond .eq 65, 3) := by decide +kernel
theorem dJ2_indexOfSupplementary_4cfef_7 : decode cJ2_indexOfSupplementary_4cfef 7 = .ok (.iload_n 1, 1) := by decide +kernel
theorem dJ2_indexOfSupplementary_4cfef_8 : decode cJ2_indexOfSupplementary_4cfef 8 = .ok (.invokestatic 157, 3) := by decide +kernel
theorem dJ2_indexOfSupplementary_4cfef_11 : decode cJ2_indexOfSupplementary_4cfef 11 = .ok (.istore 4, 2) := by decide +kernel
theorem dJ2_indexOfSupplementary_4cfef_13 : decode cJ2_indexOfSupplementary_4cfef 13 = .ok (.iload_n 1, 1) := by decide +kernel
theorem dJ2_indexOfSupplementary_4cfef_14 : decode cJ2_indexOfSupplementary_4cfef 14 = .ok (.invokestatic 161, 3) := by decide +kernel
theorem dJ2_indexOfSupplementary_4cfef_17 : decode cJ2_indexOfSupplementary_4cfef 17 = .ok (.istore 5, 2) := by decide +kernel
theorem dJ2_indexOfSupplementary_4cfef_19 : decode cJ2_indexOfSupplementary_4cfef 19 = .ok (.iload_n 2, 1) := by decide +kernel
theorem dJ2_indexOfSupplementary_4cfef_20 : decode cJ2_indexOfSupplementary_4cfef 20 = .ok (.iload_n 3, 1) := by decide +kernel
theorem dJ2_indexOfSupplementary_4cfef_21 : decode cJ2_indexOfSupplementary_4cfef 21 = .ok (.aload_n 0, 1) := by decide +kernel
theorem dJ2_indexOfSupplementary_4cfef_22 : decode cJ2_indexOfSupplementary_4cfef 22 = .ok (.invokestatic 96, 3) := by decide +kernel
theorem dJ2_indexOfSupplementary_4cfef_25 : decode cJ2_indexOfSupplementary_4cfef 25 = .ok (.iload_n 2, 1) := by decide +kernel
theorem dJ2_indexOfSupplementary_4cfef_26 : decode cJ2_indexOfSupplementary_4cfef 26 = .ok (.istore 6, 2) := by decide +kernel
theorem dJ2_indexOfSupplementary_4cfef_28 : decode cJ2_indexOfSupplementary_4cfef 28 = .ok (.iload 6, 2) := by decide +kernel
theorem dJ2_indexOfSupplementary_4cfef_30 : decode cJ2_indexOfSupplementary_4cfef 30 = .ok (.iload_n 3, 1) := by decide +kernel
theorem dJ2_indexOfSupplementary_4cfef_31 : decode cJ2_indexOfSupplementary_4cfef 31 = .ok (.iconst 1, 1) := by decide +kernel
theorem dJ2_indexOfSupplementary_4cfef_32 : decode cJ2_indexOfSupplementary_4cfef 32 = .ok (.isub, 1) := by decide +kernel
theorem dJ2_indexOfSupplementary_4cfef_33 : decode cJ2_indexOfSupplementary_4cfef 33 = .ok (.if_icmp .ge 36, 3) := by decide +kernel
theorem dJ2_indexOfSupplementary_4cfef_36 : decode cJ2_indexOfSupplementary_4cfef 36 = .ok (.aload_n 0, 1) := by decide +kernel
theorem dJ2_indexOfSupplementary_4cfef_37 : decode cJ2_indexOfSupplementary_4cfef 37 = .ok (.iload 6, 2) := by decide +kernel
theorem dJ2_indexOfSupplementary_4cfef_39 : decode cJ2_indexOfSupplementary_4cfef 39 = .ok (.invokestatic 71, 3) := by decide +kernel
theorem dJ2_indexOfSupplementary_4cfef_42 : decode cJ2_indexOfSupplementary_4cfef 42 = .ok (.iload 4, 2) := by decide +kernel
theorem dJ2_indexOfSupplementary_4cfef_44 : decode cJ2_indexOfSupplementary_4cfef 44 = .ok (.if_icmp .ne 19, 3) := by decide +kernel
theorem dJ2_indexOfSupplementary_4cfef_47 : decode cJ2_indexOfSupplementary_4cfef 47 = .ok (.aload_n 0, 1) := by decide +kernel
theorem dJ2_indexOfSupplementary_4cfef_48 : decode cJ2_indexOfSupplementary_4cfef 48 = .ok (.iload 6, 2) := by decide +kernel
theorem dJ2_indexOfSupplementary_4cfef_50 : decode cJ2_indexOfSupplementary_4cfef 50 = .ok (.iconst 1, 1) := by decide +kernel
theorem dJ2_indexOfSupplementary_4cfef_51 : decode cJ2_indexOfSupplementary_4cfef 51 = .ok (.iadd, 1) := by decide +kernel
theorem dJ2_indexOfSupplementary_4cfef_52 : decode cJ2_indexOfSupplementary_4cfef 52 = .ok (.invokestatic 71, 3) := by decide +kernel
theorem dJ2_indexOfSupplementary_4cfef_55 : decode cJ2_indexOfSupplementary_4cfef 55 = .ok (.iload 5, 2) := by decide +kernel
theorem dJ2_indexOfSupplementary_4cfef_57 : decode cJ2_indexOfSupplementary_4cfef 57 = .ok (.if_icmp .ne 6, 3) := by decide +kernel
theorem dJ2_indexOfSupplementary_4cfef_60 : decode cJ2_indexOfSupplementary_4cfef 60 = .ok (.iload 6, 2) := by decide +kernel
theorem dJ2_indexOfSupplementary_4cfef_62 : decode cJ2_indexOfSupplementary_4cfef 62 = .ok (.ireturn, 1) := by decide +kernel
theorem dJ2_indexOfSupplementary_4cfef_63 : decode cJ2_indexOfSupplementary_4cfef 63 = .ok (.iinc 6 1, 3) := by decide +kernel
theorem dJ2_indexOfSupplementary_4cfef_66 : decode cJ2_indexOfSupplementary_4cfef 66 = .ok (.goto (-38), 3) := by decide +kernel
theorem dJ2_indexOfSupplementary_4cfef_69 : decode cJ2_indexOfSupplementary_4cfef 69 = .ok (.iconst (-1), 1) := by decide +kernel
theorem dJ2_indexOfSupplementary_4cfef_70 : decode cJ2_indexOfSupplementary_4cfef 70 = .ok (.ireturn, 1) := by decide +kernel
theorem dJ2_charAt_3b067_0 : decode cJ2_charAt_3b067 0 = .ok (.iload_n 1, 1) := by decide +kernel
theorem dJ2_charAt_3b067_1 : decode cJ2_charAt_3b067 1 = .ok (.aload_n 0, 1) := by decide +kernel
theorem dJ2_charAt_3b067_2 : decode cJ2_charAt_3b067 2 = .ok (.invokestatic 67, 3) := by decide +kernel
theorem dJ2_charAt_3b067_5 : decode cJ2_charAt_3b067 5 = .ok (.aload_n 0, 1) := by decide +kernel
theorem dJ2_charAt_3b067_6 : decode cJ2_charAt_3b067 6 = .ok (.iload_n 1, 1) := by decide +kernel
theorem dJ2_charAt_3b067_7 : decode cJ2_charAt_3b067 7 = .ok (.invokestatic 71, 3) := by decide +kernel
theorem dJ2_charAt_3b067_10 : decode cJ2_charAt_3b067 10 = .ok (.ireturn, 1) := by decide +kernel
theorem dJ2_checkIndex_2214a_0 : decode cJ2_checkIndex_2214a 0 = .ok (.iload_n 0, 1) := by decide +kernel
theorem dJ2_checkIndex_2214a_1 : decode cJ2_checkIndex_2214a 1 = .ok (.aload_n 1, 1) := by decide +kernel
theorem dJ2_checkIndex_2214a_2 : decode cJ2_checkIndex_2214a 2 = .ok (.invokestatic 48, 3) := by decide +kernel
theorem dJ2_checkIndex_2214a_5 : decode cJ2_checkIndex_2214a 5 = .ok (.invokestatic 414, 3) := by decide +kernel
theorem dJ2_checkIndex_2214a_8 : decode cJ2_checkIndex_2214a 8 = .ok (.return_, 1) := by decide +kernel
theorem dJ2_checkBoundsBeginEnd_d044e_0 : decode cJ2_checkBoundsBeginEnd_d044e 0 = .ok (.iload_n 0, 1) := by decide +kernel
theorem dJ2_checkBoundsBeginEnd_d044e_1 : decode cJ2_checkBoundsBeginEnd_d044e 1 = .ok (.iload_n 1, 1) := by decide +kernel
theorem dJ2_checkBoundsBeginEnd_d044e_2 : decode cJ2_checkBoundsBeginEnd_d044e 2 = .ok (.aload_n 2, 1) := by decide +kernel
theorem dJ2_checkBoundsBeginEnd_d044e_3 : decode cJ2_checkBoundsBeginEnd_d044e 3 = .ok (.invokestatic 48, 3) := by decide +kernel
theorem dJ2_checkBoundsBeginEnd_d044e_6 : decode cJ2_checkBoundsBeginEnd_d044e 6 = .ok (.invokestatic 241, 3) := by decide +kernel
theorem dJ2_checkBoundsBeginEnd_d044e_9 : decode cJ2_checkBoundsBeginEnd_d044e 9 = .ok (.return_, 1) := by decide +kernel
theorem dJ7_fill_53178_0 : decode cJ7_fill_53178 0 = .ok (.iconst 0, 1) := by decide +kernel
theorem dJ7_fill_53178_1 : decode cJ7_fill_53178 1 = .ok (.istore_n 2, 1) := by decide +kernel
theorem dJ7_fill_53178_2 : decode cJ7_fill_53178 2 = .ok (.aload_n 0, 1) := by decide +kernel
theorem dJ7_fill_53178_3 : decode cJ7_fill_53178 3 = .ok (.arraylength, 1) := by decide +kernel
theorem dJ7_fill_53178_4 : decode cJ7_fill_53178 4 = .ok (.istore_n 3, 1) := by decide +kernel
theorem dJ7_fill_53178_5 : decode cJ7_fill_53178 5 = .ok (.iload_n 2, 1) := by decide +kernel
theorem dJ7_fill_53178_6 : decode cJ7_fill_53178 6 = .ok (.iload_n 3, 1) := by decide +kernel
theorem dJ7_fill_53178_7 : decode cJ7_fill_53178 7 = .ok (.if_icmp .ge 13, 3) := by decide +kernel
theorem dJ7_fill_53178_10 : decode cJ7_fill_53178 10 = .ok (.aload_n 0, 1) := by decide +kernel
theorem dJ7_fill_53178_11 : decode cJ7_fill_53178 11 = .ok (.iload_n 2, 1) := by decide +kernel
theorem dJ7_fill_53178_12 : decode cJ7_fill_53178 12 = .ok (.iload_n 1, 1) := by decide +kernel
theorem dJ7_fill_53178_13 : decode cJ7_fill_53178 13 = .ok (.iastore, 1) := by decide +kernel
theorem dJ7_fill_53178_14 : decode cJ7_fill_53178 14 = .ok (.iinc 2 1, 3) := by decide +kernel
theorem dJ7_fill_53178_17 : decode cJ7_fill_53178 17 = .ok (.goto (-12), 3) := by decide +kernel
theorem dJ7_fill_53178_20 : decode cJ7_fill_53178 20 = .ok (.return_, 1) := by decide +kernel
theorem dJ3_checkIndex_8e157_0 : decode cJ3_checkIndex_8e157 0 = .ok (.iload_n 0, 1) := by decide +kernel
theorem dJ3_checkIndex_8e157_1 : decode cJ3_checkIndex_8e157 1 = .ok (.ifCond .lt 8, 3) := by decide +kernel
theorem dJ3_checkIndex_8e157_4 : decode cJ3_checkIndex_8e157 4 = .ok (.iload_n 0, 1) := by decide +kernel
theorem dJ3_checkIndex_8e157_5 : decode cJ3_checkIndex_8e157 5 = .ok (.iload_n 1, 1) := by decide +kernel
theorem dJ3_checkIndex_8e157_6 : decode cJ3_checkIndex_8e157 6 = .ok (.if_icmp .lt 10, 3) := by decide +kernel
theorem dJ3_checkIndex_8e157_9 : decode cJ3_checkIndex_8e157 9 = .ok (.aload_n 2, 1) := by decide +kernel
theorem dJ3_checkIndex_8e157_10 : decode cJ3_checkIndex_8e157 10 = .ok (.iload_n 0, 1) := by decide +kernel
theorem dJ3_checkIndex_8e157_11 : decode cJ3_checkIndex_8e157 11 = .ok (.iload_n 1, 1) := by decide +kernel
theorem dJ3_checkIndex_8e157_12 : decode cJ3_checkIndex_8e157 12 = .ok (.invokestatic 95, 3) := by decide +kernel
theorem dJ3_checkIndex_8e157_15 : decode cJ3_checkIndex_8e157 15 = .ok (.athrow, 1) := by decide +kernel
theorem dJ3_checkIndex_8e157_16 : decode cJ3_checkIndex_8e157 16 = .ok (.iload_n 0, 1) := by decide +kernel
theorem dJ3_checkIndex_8e157_17 : decode cJ3_checkIndex_8e157 17 = .ok (.ireturn, 1) := by decide +kernel
theorem dJ3_checkFromToIndex_8c36e_0 : decode cJ3_checkFromToIndex_8c36e 0 = .ok (.iload_n 0, 1) := by decide +kernel
theorem dJ3_checkFromToIndex_8c36e_1 : decode cJ3_checkFromToIndex_8c36e 1 = .ok (.ifCond .lt 13, 3) := by decide +kernel
theorem dJ3_checkFromToIndex_8c36e_4 : decode cJ3_checkFromToIndex_8c36e 4 = .ok (.iload_n 0, 1) := by decide +kernel
theorem dJ3_checkFromToIndex_8c36e_5 : decode cJ3_checkFromToIndex_8c36e 5 = .ok (.iload_n 1, 1) := by decide +kernel
theorem dJ3_checkFromToIndex_8c36e_6 : decode cJ3_checkFromToIndex_8c36e 6 = .ok (.if_icmp .gt 8, 3) := by decide +kernel
theorem dJ3_checkFromToIndex_8c36e_9 : decode cJ3_checkFromToIndex_8c36e 9 = .ok (.iload_n 1, 1) := by decide +kernel
theorem dJ3_checkFromToIndex_8c36e_10 : decode cJ3_checkFromToIndex_8c36e 10 = .ok (.iload_n 2, 1) := by decide +kernel
theorem dJ3_checkFromToIndex_8c36e_11 : decode cJ3_checkFromToIndex_8c36e 11 = .ok (.if_icmp .le 11, 3) := by decide +kernel
theorem dJ3_checkFromToIndex_8c36e_14 : decode cJ3_checkFromToIndex_8c36e 14 = .ok (.aload_n 3, 1) := by decide +kernel
theorem dJ3_checkFromToIndex_8c36e_15 : decode cJ3_checkFromToIndex_8c36e 15 = .ok (.iload_n 0, 1) := by decide +kernel
theorem dJ3_checkFromToIndex_8c36e_16 : decode cJ3_checkFromToIndex_8c36e 16 = .ok (.iload_n 1, 1) := by decide +kernel
theorem dJ3_checkFromToIndex_8c36e_17 : decode cJ3_checkFromToIndex_8c36e 17 = .ok (.iload_n 2, 1) := by decide +kernel
theorem dJ3_checkFromToIndex_8c36e_18 : decode cJ3_checkFromToIndex_8c36e 18 = .ok (.invokestatic 99, 3) := by decide +kernel
theorem dJ3_checkFromToIndex_8c36e_21 : decode cJ3_checkFromToIndex_8c36e 21 = .ok (.athrow, 1) := by decide +kernel
theorem dJ3_checkFromToIndex_8c36e_22 : decode cJ3_checkFromToIndex_8c36e 22 = .ok (.iload_n 0, 1) := by decide +kernel
theorem dJ3_checkFromToIndex_8c36e_23 : decode cJ3_checkFromToIndex_8c36e 23 = .ok (.ireturn, 1) := by decide +kernel
theorem dX0_init_0 : decode cX0_init 0 = .ok (.aload_n 0, 1) := by decide +kernel
theorem dX0_init_1 : decode cX0_init 1 = .ok (.invokespecial 3, 3) := by decide +kernel
theorem dX0_init_4 : decode cX0_init 4 = .ok (.aload_n 0, 1) := by decide +kernel
theorem dX0_init_5 : decode cX0_init 5 = .ok (.iload_n 1, 1) := by decide +kernel
theorem dX0_init_6 : decode cX0_init 6 = .ok (.putfield 9, 3) := by decide +kernel
theorem dX0_init_9 : decode cX0_init 9 = .ok (.aload_n 0, 1) := by decide +kernel
theorem dX0_init_10 : decode cX0_init 10 = .ok (.aload_n 2, 1) := by decide +kernel
theorem dX0_init_11 : decode cX0_init 11 = .ok (.putfield 15, 3) := by decide +kernel
theorem dX0_init_14 : decode cX0_init 14 = .ok (.aload_n 0, 1) := by decide +kernel
theorem dX0_init_15 : decode cX0_init 15 = .ok (.aload_n 2, 1) := by decide +kernel
theorem dX0_init_16 : decode cX0_init 16 = .ok (.ifnonnull 7, 3) := by decide +kernel
theorem dX0_init_19 : decode cX0_init 19 = .ok (.iconst (-1), 1) := by decide +kernel
theorem dX0_init_20 : decode cX0_init 20 = .ok (.goto 7, 3) := by decide +kernel
theorem dX0_init_23 : decode cX0_init 23 = .ok (.aload_n 2, 1) := by decide +kernel
theorem dX0_init_24 : decode cX0_init 24 = .ok (.getfield 19, 3) := by decide +kernel
theorem dX0_init_27 : decode cX0_init 27 = .ok (.putfield 24, 3) := by decide +kernel
theorem dX0_init_30 : decode cX0_init 30 = .ok (.aload_n 0, 1) := by decide +kernel
theorem dX0_init_31 : decode cX0_init 31 = .ok (.iload_n 3, 1) := by decide +kernel
theorem dX0_init_32 : decode cX0_init 32 = .ok (.putfield 27, 3) := by decide +kernel
theorem dX0_init_35 : decode cX0_init 35 = .ok (.aload_n 0, 1) := by decide +kernel
theorem dX0_init_36 : decode cX0_init 36 = .ok (.aload_n 2, 1) := by decide +kernel
theorem dX0_init_37 : decode cX0_init 37 = .ok (.ifnonnull 10, 3) := by decide +kernel
theorem dX0_init_40 : decode cX0_init 40 = .ok (.bipush 32, 2) := by decide +kernel
theorem dX0_init_42 : decode cX0_init 42 = .ok (.newarray .int, 2) := by decide +kernel
theorem dX0_init_44 : decode cX0_init 44 = .ok (.goto 13, 3) := by decide +kernel
theorem dX0_init_47 : decode cX0_init 47 = .ok (.aload_n 2, 1) := by decide +kernel
theorem dX0_init_48 : decode cX0_init 48 = .ok (.getfield 30, 3) := by decide +kernel
theorem dX0_init_51 : decode cX0_init 51 = .ok (.invokevirtual 34, 3) := by decide +kernel
theorem dX0_init_54 : decode cX0_init 54 = .ok (.checkcast 35, 3) := by decide +kernel
theorem dX0_init_57 : decode cX0_init 57 = .ok (.putfield 39, 3) := by decide +kernel
theorem dX0_init_60 : decode cX0_init 60 = .ok (.return_, 1) := by decide +kernel
theorem dX0_missing_0 : decode cX0_missing 0 = .ok (.iconst 0, 1) := by decide +kernel
theorem dX0_missing_1 : decode cX0_missing 1 = .ok (.istore_n 1, 1) := by decide +kernel
theorem dX0_missing_2 : decode cX0_missing 2 = .ok (.iconst 0, 1) := by decide +kernel
theorem dX0_missing_3 : decode cX0_missing 3 = .ok (.istore_n 2, 1) := by decide +kernel
theorem dX0_missing_4 : decode cX0_missing 4 = .ok (.iload_n 2, 1) := by decide +kernel
theorem dX0_missing_5 : decode cX0_missing 5 = .ok (.bipush 32, 2) := by decide +kernel
theorem dX0_missing_7 : decode cX0_missing 7 = .ok (.if_icmp .ge 22, 3) := by decide +kernel
theorem dX0_missing_10 : decode cX0_missing 10 = .ok (.aload_n 0, 1) := by decide +kernel
theorem dX0_missing_11 : decode cX0_missing 11 = .ok (.getfield 39, 3) := by decide +kernel
theorem dX0_missing_14 : decode cX0_missing 14 = .ok (.iload_n 2, 1) := by decide +kernel
theorem dX0_missing_15 : decode cX0_missing 15 = .ok (.iaload, 1) := by decide +kernel
theorem dX0_missing_16 : decode cX0_missing 16 = .ok (.iconst (-1), 1) := by decide +kernel
theorem dX0_missing_17 : decode cX0_missing 17 = .ok (.if_icmp .ne 6, 3) := by decide +kernel
theorem dX0_missing_20 : decode cX0_missing 20 = .ok (.iinc 1 1, 3) := by decide +kernel
theorem dX0_missing_23 : decode cX0_missing 23 = .ok (.iinc 2 1, 3) := by decide +kernel
theorem dX0_missing_26 : decode cX0_missing 26 = .ok (.goto (-22), 3) := by decide +kernel
theorem dX0_missing_29 : decode cX0_missing 29 = .ok (.iload_n 1, 1) := by decide +kernel
theorem dX0_missing_30 : decode cX0_missing 30 = .ok (.ireturn, 1) := by decide +kernel
theorem dX1_init_0 : decode cX1_init 0 = .ok (.aload_n 0, 1) := by decide +kernel
theorem dX1_init_1 : decode cX1_init 1 = .ok (.invokespecial 1, 3) := by decide +kernel
theorem dX1_init_4 : decode cX1_init 4 = .ok (.aload_n 0, 1) := by decide +kernel
theorem dX1_init_5 : decode cX1_init 5 = .ok (.iload_n 1, 1) := by decide +kernel
theorem dX1_init_6 : decode cX1_init 6 = .ok (.putfield 7, 3) := by decide +kernel
theorem dX1_init_9 : decode cX1_init 9 = .ok (.aload_n 0, 1) := by decide +kernel
theorem dX1_init_10 : decode cX1_init 10 = .ok (.iload_n 2, 1) := by decide +kernel
theorem dX1_init_11 : decode cX1_init 11 = .ok (.putfield 13, 3) := by decide +kernel
theorem dX1_init_14 : decode cX1_init 14 = .ok (.aload_n 0, 1) := by decide +kernel
theorem dX1_init_15 : decode cX1_init 15 = .ok (.aload_n 3, 1) := by decide +kernel
theorem dX1_init_16 : decode cX1_init 16 = .ok (.getfield 16, 3) := by decide +kernel
theorem dX1_init_19 : decode cX1_init 19 = .ok (.putfield 21, 3) := by decide +kernel
theorem dX1_init_22 : decode cX1_init 22 = .ok (.aload_n 0, 1) := by decide +kernel
theorem dX1_init_23 : decode cX1_init 23 = .ok (.aload_n 3, 1) := by decide +kernel
theorem dX1_init_24 : decode cX1_init 24 = .ok (.getfield 24, 3) := by decide +kernel
theorem dX1_init_27 : decode cX1_init 27 = .ok (.invokevirtual 28, 3) := by decide +kernel
theorem dX1_init_30 : decode cX1_init 30 = .ok (.checkcast 29, 3) := by decide +kernel
theorem dX1_init_33 : decode cX1_init 33 = .ok (.putfield 33, 3) := by decide +kernel
theorem dX1_init_36 : decode cX1_init 36 = .ok (.aload_n 0, 1) := by decide +kernel
theorem dX1_init_37 : decode cX1_init 37 = .ok (.aload_n 3, 1) := by decide +kernel
theorem dX1_init_38 : decode cX1_init 38 = .ok (.getfield 34, 3) := by decide +kernel
theorem dX1_init_41 : decode cX1_init 41 = .ok (.putfield 37, 3) := by decide +kernel
theorem dX1_init_44 : decode cX1_init 44 = .ok (.return_, 1) := by decide +kernel
theorem dX10_init_0 : decode cX10_init 0 = .ok (.aload_n 0, 1) := by decide +kernel
theorem dX10_init_1 : decode cX10_init 1 = .ok (.invokespecial 3, 3) := by decide +kernel
theorem dX10_init_4 : decode cX10_init 4 = .ok (.aload_n 0, 1) := by decide +kernel
theorem dX10_init_5 : decode cX10_init 5 = .ok (.bipush 14, 2) := by decide +kernel
theorem dX10_init_7 : decode cX10_init 7 = .ok (.newarray .int, 2) := by decide +kernel
theorem dX10_init_9 : decode cX10_init 9 = .ok (.putfield 9, 3) := by decide +kernel
theorem dX10_init_12 : decode cX10_init 12 = .ok (.aload_n 0, 1) := by decide +kernel
theorem dX10_init_13 : decode cX10_init 13 = .ok (.bipush 32, 2) := by decide +kernel
theorem dX10_init_15 : decode cX10_init 15 = .ok (.newarray .int, 2) := by decide +kernel
theorem dX10_init_17 : decode cX10_init 17 = .ok (.putfield 15, 3) := by decide +kernel
theorem dX10_init_20 : decode cX10_init 20 = .ok (.aload_n 0, 1) := by decide +kernel
theorem dX10_init_21 : decode cX10_init 21 = .ok (.bipush 32, 2) := by decide +kernel
theorem dX10_init_23 : decode cX10_init 23 = .ok (.newarray .int, 2) := by decide +kernel
theorem dX10_init_25 : decode cX10_init 25 = .ok (.putfield 18, 3) := by decide +kernel
theorem dX10_init_28 : decode cX10_init 28 = .ok (.aload_n 0, 1) := by decide +kernel
theorem dX10_init_29 : decode cX10_init 29 = .ok (.sipush 128, 3) := by decide +kernel
theorem dX10_init_32 : decode cX10_init 32 = .ok (.newarray .int, 2) := by decide +kernel
theorem dX10_init_34 : decode cX10_init 34 = .ok (.putfield 21, 3) := by decide +kernel
theorem dX10_init_37 : decode cX10_init 37 = .ok (.aload_n 0, 1) := by decide +kernel
theorem dX10_init_38 : decode cX10_init 38 = .ok (.bipush 10, 2) := by decide +kernel
theorem dX10_init_40 : decode cX10_init 40 = .ok (.newarray .int, 2) := by decide +kernel
theorem dX10_init_42 : decode cX10_init 42 = .ok (.putfield 24, 3) := by decide +kernel
theorem dX10_init_45 : decode cX10_init 45 = .ok (.aload_n 0, 1) := by decide +kernel
theorem dX10_init_46 : decode cX10_init 46 = .ok (.bipush 8, 2) := by decide +kernel
theorem dX10_init_48 : decode cX10_init 48 = .ok (.newarray .int, 2) := by decide +kernel
theorem dX10_init_50 : decode cX10_init 50 = .ok (.putfield 27, 3) := by decide +kernel
theorem dX10_init_53 : decode cX10_init 53 = .ok (.return_, 1) := by decide +kernel
theorem dX10_tellShot_0 : decode cX10_tellShot 0 = .ok (.aload_n 0, 1) := by decide +kernel
theorem dX10_tellShot_1 : decode cX10_tellShot 1 = .ok (.getfield 9, 3) := by decide +kernel
theorem dX10_tellShot_4 : decode cX10_tellShot 4 = .ok (.iconst 5, 1) := by decide +kernel
theorem dX10_tellShot_5 : decode cX10_tellShot 5 = .ok (.iload_n 1, 1) := by decide +kernel
theorem dX10_tellShot_6 : decode cX10_tellShot 6 = .ok (.iastore, 1) := by decide +kernel
theorem dX10_tellShot_7 : decode cX10_tellShot 7 = .ok (.aload_n 0, 1) := by decide +kernel
theorem dX10_tellShot_8 : decode cX10_tellShot 8 = .ok (.getfield 9, 3) := by decide +kernel
theorem dX10_tellShot_11 : decode cX10_tellShot 11 = .ok (.bipush 6, 2) := by decide +kernel
theorem dX10_tellShot_13 : decode cX10_tellShot 13 = .ok (.iload_n 2, 1) := by decide +kernel
theorem dX10_tellShot_14 : decode cX10_tellShot 14 = .ok (.iastore, 1) := by decide +kernel
theorem dX10_tellShot_15 : decode cX10_tellShot 15 = .ok (.aload_n 0, 1) := by decide +kernel
theorem dX10_tellShot_16 : decode cX10_tellShot 16 = .ok (.getfield 9, 3) := by decide +kernel
theorem dX10_tellShot_19 : decode cX10_tellShot 19 = .ok (.bipush 7, 2) := by decide +kernel
theorem dX10_tellShot_21 : decode cX10_tellShot 21 = .ok (.iload_n 3, 1) := by decide +kernel
theorem dX10_tellShot_22 : decode cX10_tellShot 22 = .ok (.iastore, 1) := by decide +kernel
theorem dX10_tellShot_23 : decode cX10_tellShot 23 = .ok (.return_, 1) := by decide +kernel
theorem dX10_tellHair_0 : decode cX10_tellHair 0 = .ok (.aload_n 0, 1) := by decide +kernel
theorem dX10_tellHair_1 : decode cX10_tellHair 1 = .ok (.getfield 9, 3) := by decide +kernel
theorem dX10_tellHair_4 : decode cX10_tellHair 4 = .ok (.iconst 0, 1) := by decide +kernel
theorem dX10_tellHair_5 : decode cX10_tellHair 5 = .ok (.iload_n 1, 1) := by decide +kernel
theorem dX10_tellHair_6 : decode cX10_tellHair 6 = .ok (.iastore, 1) := by decide +kernel
theorem dX10_tellHair_7 : decode cX10_tellHair 7 = .ok (.aload_n 0, 1) := by decide +kernel
theorem dX10_tellHair_8 : decode cX10_tellHair 8 = .ok (.getfield 9, 3) := by decide +kernel
theorem dX10_tellHair_11 : decode cX10_tellHair 11 = .ok (.iconst 1, 1) := by decide +kernel
theorem dX10_tellHair_12 : decode cX10_tellHair 12 = .ok (.aload_n 0, 1) := by decide +kernel
theorem dX10_tellHair_13 : decode cX10_tellHair 13 = .ok (.getfield 15, 3) := by decide +kernel
theorem dX10_tellHair_16 : decode cX10_tellHair 16 = .ok (.iload_n 1, 1) := by decide +kernel
theorem dX10_tellHair_17 : decode cX10_tellHair 17 = .ok (.bipush 31, 2) := by decide +kernel
theorem dX10_tellHair_19 : decode cX10_tellHair 19 = .ok (.iand, 1) := by decide +kernel
theorem dX10_tellHair_20 : decode cX10_tellHair 20 = .ok (.iaload, 1) := by decide +kernel
theorem dX10_tellHair_21 : decode cX10_tellHair 21 = .ok (.iastore, 1) := by decide +kernel
theorem dX10_tellHair_22 : decode cX10_tellHair 22 = .ok (.aload_n 0, 1) := by decide +kernel
theorem dX10_tellHair_23 : decode cX10_tellHair 23 = .ok (.getfield 9, 3) := by decide +kernel
theorem dX10_tellHair_26 : decode cX10_tellHair 26 = .ok (.iconst 2, 1) := by decide +kernel
theorem dX10_tellHair_27 : decode cX10_tellHair 27 = .ok (.aload_n 0, 1) := by decide +kernel
theorem dX10_tellHair_28 : decode cX10_tellHair 28 = .ok (.getfield 15, 3) := by decide +kernel
theorem dX10_tellHair_31 : decode cX10_tellHair 31 = .ok (.iload_n 1, 1) := by decide +kernel
theorem dX10_tellHair_32 : decode cX10_tellHair 32 = .ok (.iconst 1, 1) := by decide +kernel
theorem dX10_tellHair_33 : decode cX10_tellHair 33 = .ok (.isub, 1) := by decide +kernel
theorem dX10_tellHair_34 : decode cX10_tellHair 34 = .ok (.bipush 31, 2) := by decide +kernel
theorem dX10_tellHair_36 : decode cX10_tellHair 36 = .ok (.iand, 1) := by decide +kernel
theorem dX10_tellHair_37 : decode cX10_tellHair 37 = .ok (.iaload, 1) := by decide +kernel
theorem dX10_tellHair_38 : decode cX10_tellHair 38 = .ok (.iastore, 1) := by decide +kernel
theorem dX10_tellHair_39 : decode cX10_tellHair 39 = .ok (.aload_n 0, 1) := by decide +kernel
theorem dX10_tellHair_40 : decode cX10_tellHair 40 = .ok (.getfield 9, 3) := by decide +kernel
theorem dX10_tellHair_43 : decode cX10_tellHair 43 = .ok (.iconst 3, 1) := by decide +kernel
theorem dX10_tellHair_44 : decode cX10_tellHair 44 = .ok (.aload_n 0, 1) := by decide +kernel
theorem dX10_tellHair_45 : decode cX10_tellHair 45 = .ok (.getfield 15, 3) := by decide +kernel
theorem dX10_tellHair_48 : decode cX10_tellHair 48 = .ok (.iload_n 1, 1) := by decide +kernel
theorem dX10_tellHair_49 : decode cX10_tellHair 49 = .ok (.iconst 1, 1) := by decide +kernel
theorem dX10_tellHair_50 : decode cX10_tellHair 50 = .ok (.iadd, 1) := by decide +kernel
theorem dX10_tellHair_51 : decode cX10_tellHair 51 = .ok (.bipush 31, 2) := by decide +kernel
theorem dX10_tellHair_53 : decode cX10_tellHair 53 = .ok (.iand, 1) := by decide +kernel
theorem dX10_tellHair_54 : decode cX10_tellHair 54 = .ok (.iaload, 1) := by decide +kernel
theorem dX10_tellHair_55 : decode cX10_tellHair 55 = .ok (.iastore, 1) := by decide +kernel
theorem dX10_tellHair_56 : decode cX10_tellHair 56 = .ok (.aload_n 0, 1) := by decide +kernel
theorem dX10_tellHair_57 : decode cX10_tellHair 57 = .ok (.getfield 9, 3) := by decide +kernel
theorem dX10_tellHair_60 : decode cX10_tellHair 60 = .ok (.iconst 4, 1) := by decide +kernel
theorem dX10_tellHair_61 : decode cX10_tellHair 61 = .ok (.iload_n 2, 1) := by decide +kernel
theorem dX10_tellHair_62 : decode cX10_tellHair 62 = .ok (.iastore, 1) := by decide +kernel
theorem dX10_tellHair_63 : decode cX10_tellHair 63 = .ok (.return_, 1) := by decide +kernel
theorem dX10_uniteGroups_0 : decode cX10_uniteGroups 0 = .ok (.iload_n 1, 1) := by decide +kernel
theorem dX10_uniteGroups_1 : decode cX10_uniteGroups 1 = .ok (.iload_n 2, 1) := by decide +kernel
theorem dX10_uniteGroups_2 : decode cX10_uniteGroups 2 = .ok (.invokestatic 30, 3) := by decide +kernel
theorem dX10_uniteGroups_5 : decode cX10_uniteGroups 5 = .ok (.istore_n 3, 1) := by decide +kernel
theorem dX10_uniteGroups_6 : decode cX10_uniteGroups 6 = .ok (.iconst 0, 1) := by decide +kernel
theorem dX10_uniteGroups_7 : decode cX10_uniteGroups 7 = .ok (.istore 4, 2) := by decide +kernel
theorem dX10_uniteGroups_9 : decode cX10_uniteGroups 9 = .ok (.iload 4, 2) := by decide +kernel
theorem dX10_uniteGroups_11 : decode cX10_uniteGroups 11 = .ok (.bipush 8, 2) := by decide +kernel
theorem dX10_uniteGroups_13 : decode cX10_uniteGroups 13 = .ok (.if_icmp .ge 39, 3) := by decide +kernel
theorem dX10_uniteGroups_16 : decode cX10_uniteGroups 16 = .ok (.aload_n 0, 1) := by decide +kernel
theorem dX10_uniteGroups_17 : decode cX10_uniteGroups 17 = .ok (.getfield 27, 3) := by decide +kernel
theorem dX10_uniteGroups_20 : decode cX10_uniteGroups 20 = .ok (.iload 4, 2) := by decide +kernel
theorem dX10_uniteGroups_22 : decode cX10_uniteGroups 22 = .ok (.iaload, 1) := by decide +kernel
theorem dX10_uniteGroups_23 : decode cX10_uniteGroups 23 = .ok (.iload_n 1, 1) := by decide +kernel
theorem dX10_uniteGroups_24 : decode cX10_uniteGroups 24 = .ok (.if_icmp .eq 14, 3) := by decide +kernel
theorem dX10_uniteGroups_27 : decode cX10_uniteGroups 27 = .ok (.aload_n 0, 1) := by decide +kernel
theorem dX10_uniteGroups_28 : decode cX10_uniteGroups 28 = .ok (.getfield 27, 3) := by decide +kernel
theorem dX10_uniteGroups_31 : decode cX10_uniteGroups 31 = .ok (.iload 4, 2) := by decide +kernel
theorem dX10_uniteGroups_33 : decode cX10_uniteGroups 33 = .ok (.iaload, 1) := by decide +kernel
theorem dX10_uniteGroups_34 : decode cX10_uniteGroups 34 = .ok (.iload_n 2, 1) := by decide +kernel
theorem dX10_uniteGroups_35 : decode cX10_uniteGroups 35 = .ok (.if_icmp .ne 11, 3) := by decide +kernel
theorem dX10_uniteGroups_38 : decode cX10_uniteGroups 38 = .ok (.aload_n 0, 1) := by decide +kernel
theorem dX10_uniteGroups_39 : decode cX10_uniteGroups 39 = .ok (.getfield 27, 3) := by decide +kernel
theorem dX10_uniteGroups_42 : decode cX10_uniteGroups 42 = .ok (.iload 4, 2) := by decide +kernel
theorem dX10_uniteGroups_44 : decode cX10_uniteGroups 44 = .ok (.iload_n 3, 1) := by decide +kernel
theorem dX10_uniteGroups_45 : decode cX10_uniteGroups 45 = .ok (.iastore, 1) := by decide +kernel
theorem dX10_uniteGroups_46 : decode cX10_uniteGroups 46 = .ok (.iinc 4 1, 3) := by decide +kernel
theorem dX10_uniteGroups_49 : decode cX10_uniteGroups 49 = .ok (.goto (-40), 3) := by decide +kernel
theorem dX10_uniteGroups_52 : decode cX10_uniteGroups 52 = .ok (.return_, 1) := by decide +kernel
theorem dX2_pack_0 : decode cX2_pack 0 = .ok (.iload_n 0, 1) := by decide +kernel
theorem dX2_pack_1 : decode cX2_pack 1 = .ok (.iload_n 1, 1) := by decide +kernel
theorem dX2_pack_2 : decode cX2_pack 2 = .ok (.bipush 6, 2) := by decide +kernel
theorem dX2_pack_4 : decode cX2_pack 4 = .ok (.ishl, 1) := by decide +kernel
theorem dX2_pack_5 : decode cX2_pack 5 = .ok (.ior, 1) := by decide +kernel
theorem dX2_pack_6 : decode cX2_pack 6 = .ok (.iload_n 2, 1) := by decide +kernel
theorem dX2_pack_7 : decode cX2_pack 7 = .ok (.bipush 11, 2) := by decide +kernel
theorem dX2_pack_9 : decode cX2_pack 9 = .ok (.ishl, 1) := by decide +kernel
theorem dX2_pack_10 : decode cX2_pack 10 = .ok (.ior, 1) := by decide +kernel
theorem dX2_pack_11 : decode cX2_pack 11 = .ok (.ireturn, 1) := by decide +kernel
theorem dX2_many_0 : decode cX2_many 0 = .ok (.iload_n 0, 1) := by decide +kernel
theorem dX2_many_1 : decode cX2_many 1 = .ok (.bipush 63, 2) := by decide +kernel
theorem dX2_many_3 : decode cX2_many 3 = .ok (.iand, 1) := by decide +kernel
theorem dX2_many_4 : decode cX2_many 4 = .ok (.ireturn, 1) := by decide +kernel
theorem dX2_slide_0 : decode cX2_slide 0 = .ok (.iload_n 0, 1) := by decide +kernel
theorem dX2_slide_1 : decode cX2_slide 1 = .ok (.bipush 6, 2) := by decide +kernel
theorem dX2_slide_3 : decode cX2_slide 3 = .ok (.iushr, 1) := by decide +kernel
theorem dX2_slide_4 : decode cX2_slide 4 = .ok (.bipush 31, 2) := by decide +kernel
theorem dX2_slide_6 : decode cX2_slide 6 = .ok (.iand, 1) := by decide +kernel
theorem dX2_slide_7 : decode cX2_slide 7 = .ok (.ireturn, 1) := by decide +kernel
theorem dX2_longest_0 : decode cX2_longest 0 = .ok (.iload_n 0, 1) := by decide +kernel
theorem dX2_longest_1 : decode cX2_longest 1 = .ok (.bipush 11, 2) := by decide +kernel
theorem dX2_longest_3 : decode cX2_longest 3 = .ok (.iushr, 1) := by decide +kernel
theorem dX2_longest_4 : decode cX2_longest 4 = .ok (.bipush 63, 2) := by decide +kernel
theorem dX2_longest_6 : decode cX2_longest 6 = .ok (.iand, 1) := by decide +kernel
theorem dX2_longest_7 : decode cX2_longest 7 = .ok (.ireturn, 1) := by decide +kernel
theorem dX2_likeness_0 : decode cX2_likeness 0 = .ok (.iload_n 0, 1) := by decide +kernel
theorem dX2_likeness_1 : decode cX2_likeness 1 = .ok (.invokestatic 9, 3) := by decide +kernel
theorem dX2_likeness_4 : decode cX2_likeness 4 = .ok (.bipush 64, 2) := by decide +kernel
theorem dX2_likeness_6 : decode cX2_likeness 6 = .ok (.imul, 1) := by decide +kernel
theorem dX2_likeness_7 : decode cX2_likeness 7 = .ok (.iload_n 0, 1) := by decide +kernel
theorem dX2_likeness_8 : decode cX2_likeness 8 = .ok (.invokestatic 13, 3) := by decide +kernel
theorem dX2_likeness_11 : decode cX2_likeness 11 = .ok (.iadd, 1) := by decide +kernel
theorem dX2_likeness_12 : decode cX2_likeness 12 = .ok (.bipush 64, 2) := by decide +kernel
theorem dX2_likeness_14 : decode cX2_likeness 14 = .ok (.imul, 1) := by decide +kernel
theorem dX2_likeness_15 : decode cX2_likeness 15 = .ok (.bipush 63, 2) := by decide +kernel
theorem dX2_likeness_17 : decode cX2_likeness 17 = .ok (.iload_n 1, 1) := by decide +kernel
theorem dX2_likeness_18 : decode cX2_likeness 18 = .ok (.isub, 1) := by decide +kernel
theorem dX2_likeness_19 : decode cX2_likeness 19 = .ok (.iadd, 1) := by decide +kernel
theorem dX2_likeness_20 : decode cX2_likeness 20 = .ok (.ireturn, 1) := by decide +kernel
theorem dX2_likenessBall_0 : decode cX2_likenessBall 0 = .ok (.bipush 63, 2) := by decide +kernel
theorem dX2_likenessBall_2 : decode cX2_likenessBall 2 = .ok (.iload_n 0, 1) := by decide +kernel
theorem dX2_likenessBall_3 : decode cX2_likenessBall 3 = .ok (.bipush 64, 2) := by decide +kernel
theorem dX2_likenessBall_5 : decode cX2_likenessBall 5 = .ok (.irem, 1) := by decide +kernel
theorem dX2_likenessBall_6 : decode cX2_likenessBall 6 = .ok (.isub, 1) := by decide +kernel
theorem dX2_likenessBall_7 : decode cX2_likenessBall 7 = .ok (.ireturn, 1) := by decide +kernel
theorem dX3_init_0 : decode cX3_init 0 = .ok (.aload_n 0, 1) := by decide +kernel
theorem dX3_init_1 : decode cX3_init 1 = .ok (.invokespecial 3, 3) := by decide +kernel
theorem dX3_init_4 : decode cX3_init 4 = .ok (.aload_n 0, 1) := by decide +kernel
theorem dX3_init_5 : decode cX3_init 5 = .ok (.new 9, 3) := by decide +kernel
theorem dX3_init_8 : decode cX3_init 8 = .ok (.dup, 1) := by decide +kernel
theorem dX3_init_9 : decode cX3_init 9 = .ok (.invokespecial 11, 3) := by decide +kernel
theorem dX3_init_12 : decode cX3_init 12 = .ok (.putfield 12, 3) := by decide +kernel
theorem dX3_init_15 : decode cX3_init 15 = .ok (.aload_n 0, 1) := by decide +kernel
theorem dX3_init_16 : decode cX3_init 16 = .ok (.sipush 1600, 3) := by decide +kernel
theorem dX3_init_19 : decode cX3_init 19 = .ok (.newarray .int, 2) := by decide +kernel
theorem dX3_init_21 : decode cX3_init 21 = .ok (.putfield 18, 3) := by decide +kernel
theorem dX3_init_24 : decode cX3_init 24 = .ok (.aload_n 0, 1) := by decide +kernel
theorem dX3_init_25 : decode cX3_init 25 = .ok (.iload_n 1, 1) := by decide +kernel
theorem dX3_init_26 : decode cX3_init 26 = .ok (.putfield 22, 3) := by decide +kernel
theorem dX3_init_29 : decode cX3_init 29 = .ok (.return_, 1) := by decide +kernel
theorem dX3_forgetBall_0 : decode cX3_forgetBall 0 = .ok (.iconst 0, 1) := by decide +kernel
theorem dX3_forgetBall_1 : decode cX3_forgetBall 1 = .ok (.istore_n 2, 1) := by decide +kernel
theorem dX3_forgetBall_2 : decode cX3_forgetBall 2 = .ok (.iload_n 2, 1) := by decide +kernel
theorem dX3_forgetBall_3 : decode cX3_forgetBall 3 = .ok (.bipush 40, 2) := by decide +kernel
theorem dX3_forgetBall_5 : decode cX3_forgetBall 5 = .ok (.if_icmp .ge 33, 3) := by decide +kernel
theorem dX3_forgetBall_8 : decode cX3_forgetBall 8 = .ok (.aload_n 0, 1) := by decide +kernel
theorem dX3_forgetBall_9 : decode cX3_forgetBall 9 = .ok (.getfield 18, 3) := by decide +kernel
theorem dX3_forgetBall_12 : decode cX3_forgetBall 12 = .ok (.iload_n 1, 1) := by decide +kernel
theorem dX3_forgetBall_13 : decode cX3_forgetBall 13 = .ok (.bipush 40, 2) := by decide +kernel
theorem dX3_forgetBall_15 : decode cX3_forgetBall 15 = .ok (.imul, 1) := by decide +kernel
theorem dX3_forgetBall_16 : decode cX3_forgetBall 16 = .ok (.iload_n 2, 1) := by decide +kernel
theorem dX3_forgetBall_17 : decode cX3_forgetBall 17 = .ok (.iadd, 1) := by decide +kernel
theorem dX3_forgetBall_18 : decode cX3_forgetBall 18 = .ok (.iconst 0, 1) := by decide +kernel
theorem dX3_forgetBall_19 : decode cX3_forgetBall 19 = .ok (.iastore, 1) := by decide +kernel
theorem dX3_forgetBall_20 : decode cX3_forgetBall 20 = .ok (.aload_n 0, 1) := by decide +kernel
theorem dX3_forgetBall_21 : decode cX3_forgetBall 21 = .ok (.getfield 18, 3) := by decide +kernel
theorem dX3_forgetBall_24 : decode cX3_forgetBall 24 = .ok (.iload_n 2, 1) := by decide +kernel
theorem dX3_forgetBall_25 : decode cX3_forgetBall 25 = .ok (.bipush 40, 2) := by decide +kernel
theorem dX3_forgetBall_27 : decode cX3_forgetBall 27 = .ok (.imul, 1) := by decide +kernel
theorem dX3_forgetBall_28 : decode cX3_forgetBall 28 = .ok (.iload_n 1, 1) := by decide +kernel
theorem dX3_forgetBall_29 : decode cX3_forgetBall 29 = .ok (.iadd, 1) := by decide +kernel
theorem dX3_forgetBall_30 : decode cX3_forgetBall 30 = .ok (.iconst 0, 1) := by decide +kernel
theorem dX3_forgetBall_31 : decode cX3_forgetBall 31 = .ok (.iastore, 1) := by decide +kernel
theorem dX3_forgetBall_32 : decode cX3_forgetBall 32 = .ok (.iinc 2 1, 3) := by decide +kernel
theorem dX3_forgetBall_35 : decode cX3_forgetBall 35 = .ok (.goto (-33), 3) := by decide +kernel
theorem dX3_forgetBall_38 : decode cX3_forgetBall 38 = .ok (.return_, 1) := by decide +kernel
theorem dX3_forgetSaid_0 : decode cX3_forgetSaid 0 = .ok (.iconst 0, 1) := by decide +kernel
theorem dX3_forgetSaid_1 : decode cX3_forgetSaid 1 = .ok (.istore_n 1, 1) := by decide +kernel
theorem dX3_forgetSaid_2 : decode cX3_forgetSaid 2 = .ok (.iload_n 1, 1) := by decide +kernel
theorem dX3_forgetSaid_3 : decode cX3_forgetSaid 3 = .ok (.aload_n 0, 1) := by decide +kernel
theorem dX3_forgetSaid_4 : decode cX3_forgetSaid 4 = .ok (.getfield 18, 3) := by decide +kernel
theorem dX3_forgetSaid_7 : decode cX3_forgetSaid 7 = .ok (.arraylength, 1) := by decide +kernel
theorem dX3_forgetSaid_8 : decode cX3_forgetSaid 8 = .ok (.if_icmp .ge 20, 3) := by decide +kernel
theorem dX3_forgetSaid_11 : decode cX3_forgetSaid 11 = .ok (.aload_n 0, 1) := by decide +kernel
theorem dX3_forgetSaid_12 : decode cX3_forgetSaid 12 = .ok (.getfield 18, 3) := by decide +kernel
theorem dX3_forgetSaid_15 : decode cX3_forgetSaid 15 = .ok (.iload_n 1, 1) := by decide +kernel
theorem dX3_forgetSaid_16 : decode cX3_forgetSaid 16 = .ok (.dup2, 1) := by decide +kernel
theorem dX3_forgetSaid_17 : decode cX3_forgetSaid 17 = .ok (.iaload, 1) := by decide +kernel
theorem dX3_forgetSaid_18 : decode cX3_forgetSaid 18 = .ok (.ldc 28, 2) := by decide +kernel
theorem dX3_forgetSaid_20 : decode cX3_forgetSaid 20 = .ok (.iand, 1) := by decide +kernel
theorem dX3_forgetSaid_21 : decode cX3_forgetSaid 21 = .ok (.iastore, 1) := by decide +kernel
theorem dX3_forgetSaid_22 : decode cX3_forgetSaid 22 = .ok (.iinc 1 1, 3) := by decide +kernel
theorem dX3_forgetSaid_25 : decode cX3_forgetSaid 25 = .ok (.goto (-23), 3) := by decide +kernel
theorem dX3_forgetSaid_28 : decode cX3_forgetSaid 28 = .ok (.return_, 1) := by decide +kernel
theorem dX3_measured_0 : decode cX3_measured 0 = .ok (.aload_n 1, 1) := by decide +kernel
theorem dX3_measured_1 : decode cX3_measured 1 = .ok (.getfield 29, 3) := by decide +kernel
theorem dX3_measured_4 : decode cX3_measured 4 = .ok (.bipush 40, 2) := by decide +kernel
theorem dX3_measured_6 : decode cX3_measured 6 = .ok (.imul, 1) := by decide +kernel
theorem dX3_measured_7 : decode cX3_measured 7 = .ok (.aload_n 2, 1) := by decide +kernel
theorem dX3_measured_8 : decode cX3_measured 8 = .ok (.getfield 29, 3) := by decide +kernel
theorem dX3_measured_11 : decode cX3_measured 11 = .ok (.iadd, 1) := by decide +kernel
theorem dX3_measured_12 : decode cX3_measured 12 = .ok (.istore_n 3, 1) := by decide +kernel
theorem dX3_measured_13 : decode cX3_measured 13 = .ok (.aload_n 0, 1) := by decide +kernel
theorem dX3_measured_14 : decode cX3_measured 14 = .ok (.getfield 18, 3) := by decide +kernel
theorem dX3_measured_17 : decode cX3_measured 17 = .ok (.iload_n 3, 1) := by decide +kernel
theorem dX3_measured_18 : decode cX3_measured 18 = .ok (.iaload, 1) := by decide +kernel
theorem dX3_measured_19 : decode cX3_measured 19 = .ok (.ldc 34, 2) := by decide +kernel
theorem dX3_measured_21 : decode cX3_measured 21 = .ok (.iand, 1) := by decide +kernel
theorem dX3_measured_22 : decode cX3_measured 22 = .ok (.ifCond .ne 30, 3) := by decide +kernel
theorem dX3_measured_25 : decode cX3_measured 25 = .ok (.aload_n 0, 1) := by decide +kernel
theorem dX3_measured_26 : decode cX3_measured 26 = .ok (.getfield 18, 3) := by decide +kernel
theorem dX3_measured_29 : decode cX3_measured 29 = .ok (.iload_n 3, 1) := by decide +kernel
theorem dX3_measured_30 : decode cX3_measured 30 = .ok (.dup2, 1) := by decide +kernel
theorem dX3_measured_31 : decode cX3_measured 31 = .ok (.iaload, 1) := by decide +kernel
theorem dX3_measured_32 : decode cX3_measured 32 = .ok (.ldc 34, 2) := by decide +kernel
theorem dX3_measured_34 : decode cX3_measured 34 = .ok (.aload_n 1, 1) := by decide +kernel
theorem dX3_measured_35 : decode cX3_measured 35 = .ok (.getfield 35, 3) := by decide +kernel
theorem dX3_measured_38 : decode cX3_measured 38 = .ok (.aload_n 2, 1) := by decide +kernel
theorem dX3_measured_39 : decode cX3_measured 39 = .ok (.getfield 35, 3) := by decide +kernel
theorem dX3_measured_42 : decode cX3_measured 42 = .ok (.aload_n 0, 1) := by decide +kernel
theorem dX3_measured_43 : decode cX3_measured 43 = .ok (.getfield 22, 3) := by decide +kernel
theorem dX3_measured_46 : decode cX3_measured 46 = .ok (.invokestatic 38, 3) := by decide +kernel
theorem dX3_measured_49 : decode cX3_measured 49 = .ok (.ior, 1) := by decide +kernel
theorem dX3_measured_50 : decode cX3_measured 50 = .ok (.ior, 1) := by decide +kernel
theorem dX3_measured_51 : decode cX3_measured 51 = .ok (.iastore, 1) := by decide +kernel
theorem dX3_measured_52 : decode cX3_measured 52 = .ok (.aload_n 0, 1) := by decide +kernel
theorem dX3_measured_53 : decode cX3_measured 53 = .ok (.getfield 18, 3) := by decide +kernel
theorem dX3_measured_56 : decode cX3_measured 56 = .ok (.iload_n 3, 1) := by decide +kernel
theorem dX3_measured_57 : decode cX3_measured 57 = .ok (.iaload, 1) := by decide +kernel
theorem dX3_measured_58 : decode cX3_measured 58 = .ok (.ireturn, 1) := by decide +kernel
theorem dX3_piecesOf_0 : decode cX3_piecesOf 0 = .ok (.aload_n 1, 1) := by decide +kernel
theorem dX3_piecesOf_1 : decode cX3_piecesOf 1 = .ok (.getfield 29, 3) := by decide +kernel
theorem dX3_piecesOf_4 : decode cX3_piecesOf 4 = .ok (.bipush 40, 2) := by decide +kernel
theorem dX3_piecesOf_6 : decode cX3_piecesOf 6 = .ok (.imul, 1) := by decide +kernel
theorem dX3_piecesOf_7 : decode cX3_piecesOf 7 = .ok (.aload_n 2, 1) := by decide +kernel
theorem dX3_piecesOf_8 : decode cX3_piecesOf 8 = .ok (.getfield 29, 3) := by decide +kernel
theorem dX3_piecesOf_11 : decode cX3_piecesOf 11 = .ok (.iadd, 1) := by decide +kernel
theorem dX3_piecesOf_12 : decode cX3_piecesOf 12 = .ok (.istore 4, 2) := by decide +kernel
theorem dX3_piecesOf_14 : decode cX3_piecesOf 14 = .ok (.aload_n 0, 1) := by decide +kernel
theorem dX3_piecesOf_15 : decode cX3_piecesOf 15 = .ok (.getfield 18, 3) := by decide +kernel
theorem dX3_piecesOf_18 : decode cX3_piecesOf 18 = .ok (.iload 4, 2) := by decide +kernel
theorem dX3_piecesOf_20 : decode cX3_piecesOf 20 = .ok (.iaload, 1) := by decide +kernel
theorem dX3_piecesOf_21 : decode cX3_piecesOf 21 = .ok (.ldc 44, 2) := by decide +kernel
theorem dX3_piecesOf_23 : decode cX3_piecesOf 23 = .ok (.iand, 1) := by decide +kernel
theorem dX3_piecesOf_24 : decode cX3_piecesOf 24 = .ok (.ifCond .ne 39, 3) := by decide +kernel
theorem dX3_piecesOf_27 : decode cX3_piecesOf 27 = .ok (.aload_n 1, 1) := by decide +kernel
theorem dX3_piecesOf_28 : decode cX3_piecesOf 28 = .ok (.getfield 35, 3) := by decide +kernel
theorem dX3_piecesOf_31 : decode cX3_piecesOf 31 = .ok (.aload_n 2, 1) := by decide +kernel
theorem dX3_piecesOf_32 : decode cX3_piecesOf 32 = .ok (.getfield 35, 3) := by decide +kernel
theorem dX3_piecesOf_35 : decode cX3_piecesOf 35 = .ok (.aload_n 0, 1) := by decide +kernel
theorem dX3_piecesOf_36 : decode cX3_piecesOf 36 = .ok (.getfield 22, 3) := by decide +kernel
theorem dX3_piecesOf_39 : decode cX3_piecesOf 39 = .ok (.aload_n 3, 1) := by decide +kernel
theorem dX3_piecesOf_40 : decode cX3_piecesOf 40 = .ok (.invokestatic 45, 3) := by decide +kernel
theorem dX3_piecesOf_43 : decode cX3_piecesOf 43 = .ok (.istore 5, 2) := by decide +kernel
theorem dX3_piecesOf_45 : decode cX3_piecesOf 45 = .ok (.aload_n 0, 1) := by decide +kernel
theorem dX3_piecesOf_46 : decode cX3_piecesOf 46 = .ok (.getfield 18, 3) := by decide +kernel
theorem dX3_piecesOf_49 : decode cX3_piecesOf 49 = .ok (.iload 4, 2) := by decide +kernel
theorem dX3_piecesOf_51 : decode cX3_piecesOf 51 = .ok (.dup2, 1) := by decide +kernel
theorem dX3_piecesOf_52 : decode cX3_piecesOf 52 = .ok (.iaload, 1) := by decide +kernel
theorem dX3_piecesOf_53 : decode cX3_piecesOf 53 = .ok (.ldc 44, 2) := by decide +kernel
theorem dX3_piecesOf_55 : decode cX3_piecesOf 55 = .ok (.iload 5, 2) := by decide +kernel
theorem dX3_piecesOf_57 : decode cX3_piecesOf 57 = .ok (.bipush 18, 2) := by decide +kernel
theorem dX3_piecesOf_59 : decode cX3_piecesOf 59 = .ok (.ishl, 1) := by decide +kernel
theorem dX3_piecesOf_60 : decode cX3_piecesOf 60 = .ok (.ior, 1) := by decide +kernel
theorem dX3_piecesOf_61 : decode cX3_piecesOf 61 = .ok (.ior, 1) := by decide +kernel
theorem dX3_piecesOf_62 : decode cX3_piecesOf 62 = .ok (.iastore, 1) := by decide +kernel
theorem dX3_piecesOf_63 : decode cX3_piecesOf 63 = .ok (.aload_n 0, 1) := by decide +kernel
theorem dX3_piecesOf_64 : decode cX3_piecesOf 64 = .ok (.getfield 18, 3) := by decide +kernel
theorem dX3_piecesOf_67 : decode cX3_piecesOf 67 = .ok (.iload 4, 2) := by decide +kernel
theorem dX3_piecesOf_69 : decode cX3_piecesOf 69 = .ok (.iaload, 1) := by decide +kernel
theorem dX3_piecesOf_70 : decode cX3_piecesOf 70 = .ok (.bipush 18, 2) := by decide +kernel
theorem dX3_piecesOf_72 : decode cX3_piecesOf 72 = .ok (.iushr, 1) := by decide +kernel
theorem dX3_piecesOf_73 : decode cX3_piecesOf 73 = .ok (.bipush 63, 2) := by decide +kernel
theorem dX3_piecesOf_75 : decode cX3_piecesOf 75 = .ok (.iand, 1) := by decide +kernel
theorem dX3_piecesOf_76 : decode cX3_piecesOf 76 = .ok (.ireturn, 1) := by decide +kernel
theorem dX3_runsUnderBest_0 : decode cX3_runsUnderBest 0 = .ok (.aload_n 1, 1) := by decide +kernel
theorem dX3_runsUnderBest_1 : decode cX3_runsUnderBest 1 = .ok (.getfield 35, 3) := by decide +kernel
theorem dX3_runsUnderBest_4 : decode cX3_runsUnderBest 4 = .ok (.aload_n 2, 1) := by decide +kernel
theorem dX3_runsUnderBest_5 : decode cX3_runsUnderBest 5 = .ok (.getfield 35, 3) := by decide +kernel
theorem dX3_runsUnderBest_8 : decode cX3_runsUnderBest 8 = .ok (.aload_n 0, 1) := by decide +kernel
theorem dX3_runsUnderBest_9 : decode cX3_runsUnderBest 9 = .ok (.aload_n 1, 1) := by decide +kernel
theorem dX3_runsUnderBest_10 : decode cX3_runsUnderBest 10 = .ok (.aload_n 2, 1) := by decide +kernel
theorem dX3_runsUnderBest_11 : decode cX3_runsUnderBest 11 = .ok (.invokevirtual 49, 3) := by decide +kernel
theorem dX3_runsUnderBest_14 : decode cX3_runsUnderBest 14 = .ok (.invokestatic 53, 3) := by decide +kernel
theorem dX3_runsUnderBest_17 : decode cX3_runsUnderBest 17 = .ok (.aload_n 0, 1) := by decide +kernel
theorem dX3_runsUnderBest_18 : decode cX3_runsUnderBest 18 = .ok (.getfield 22, 3) := by decide +kernel
theorem dX3_runsUnderBest_21 : decode cX3_runsUnderBest 21 = .ok (.invokestatic 57, 3) := by decide +kernel
theorem dX3_runsUnderBest_24 : decode cX3_runsUnderBest 24 = .ok (.ireturn, 1) := by decide +kernel
theorem dX3_sayingOf_0 : decode cX3_sayingOf 0 = .ok (.aload_n 1, 1) := by decide +kernel
theorem dX3_sayingOf_1 : decode cX3_sayingOf 1 = .ok (.getfield 29, 3) := by decide +kernel
theorem dX3_sayingOf_4 : decode cX3_sayingOf 4 = .ok (.bipush 40, 2) := by decide +kernel
theorem dX3_sayingOf_6 : decode cX3_sayingOf 6 = .ok (.imul, 1) := by decide +kernel
theorem dX3_sayingOf_7 : decode cX3_sayingOf 7 = .ok (.aload_n 2, 1) := by decide +kernel
theorem dX3_sayingOf_8 : decode cX3_sayingOf 8 = .ok (.getfield 29, 3) := by decide +kernel
theorem dX3_sayingOf_11 : decode cX3_sayingOf 11 = .ok (.iadd, 1) := by decide +kernel
theorem dX3_sayingOf_12 : decode cX3_sayingOf 12 = .ok (.istore 5, 2) := by decide +kernel
theorem dX3_sayingOf_14 : decode cX3_sayingOf 14 = .ok (.iload_n 3, 1) := by decide +kernel
theorem dX3_sayingOf_15 : decode cX3_sayingOf 15 = .ok (.ifCond .eq 8, 3) := by decide +kernel
theorem dX3_sayingOf_18 : decode cX3_sayingOf 18 = .ok (.bipush 27, 2) := by decide +kernel
theorem dX3_sayingOf_20 : decode cX3_sayingOf 20 = .ok (.goto 5, 3) := by decide +kernel
theorem dX3_sayingOf_23 : decode cX3_sayingOf 23 = .ok (.bipush 25, 2) := by decide +kernel
theorem dX3_sayingOf_25 : decode cX3_sayingOf 25 = .ok (.istore 6, 2) := by decide +kernel
theorem dX3_sayingOf_27 : decode cX3_sayingOf 27 = .ok (.aload_n 0, 1) := by decide +kernel
theorem dX3_sayingOf_28 : decode cX3_sayingOf 28 = .ok (.getfield 18, 3) := by decide +kernel
theorem dX3_sayingOf_31 : decode cX3_sayingOf 31 = .ok (.iload 5, 2) := by decide +kernel
theorem dX3_sayingOf_33 : decode cX3_sayingOf 33 = .ok (.iaload, 1) := by decide +kernel
theorem dX3_sayingOf_34 : decode cX3_sayingOf 34 = .ok (.iload 6, 2) := by decide +kernel
theorem dX3_sayingOf_36 : decode cX3_sayingOf 36 = .ok (.iushr, 1) := by decide +kernel
theorem dX3_sayingOf_37 : decode cX3_sayingOf 37 = .ok (.iconst 3, 1) := by decide +kernel
theorem dX3_sayingOf_38 : decode cX3_sayingOf 38 = .ok (.iand, 1) := by decide +kernel
theorem dX3_sayingOf_39 : decode cX3_sayingOf 39 = .ok (.ifCond .ne 31, 3) := by decide +kernel
theorem dX3_sayingOf_42 : decode cX3_sayingOf 42 = .ok (.aload_n 0, 1) := by decide +kernel
theorem dX3_sayingOf_43 : decode cX3_sayingOf 43 = .ok (.aload_n 1, 1) := by decide +kernel
theorem dX3_sayingOf_44 : decode cX3_sayingOf 44 = .ok (.aload_n 2, 1) := by decide +kernel
theorem dX3_sayingOf_45 : decode cX3_sayingOf 45 = .ok (.iload_n 3, 1) := by decide +kernel
theorem dX3_sayingOf_46 : decode cX3_sayingOf 46 = .ok (.aload 4, 2) := by decide +kernel
theorem dX3_sayingOf_48 : decode cX3_sayingOf 48 = .ok (.invokevirtual 61, 3) := by decide +kernel
theorem dX3_sayingOf_51 : decode cX3_sayingOf 51 = .ok (.istore 7, 2) := by decide +kernel
theorem dX3_sayingOf_53 : decode cX3_sayingOf 53 = .ok (.aload_n 0, 1) := by decide +kernel
theorem dX3_sayingOf_54 : decode cX3_sayingOf 54 = .ok (.getfield 18, 3) := by decide +kernel
theorem dX3_sayingOf_57 : decode cX3_sayingOf 57 = .ok (.iload 5, 2) := by decide +kernel
theorem dX3_sayingOf_59 : decode cX3_sayingOf 59 = .ok (.dup2, 1) := by decide +kernel
theorem dX3_sayingOf_60 : decode cX3_sayingOf 60 = .ok (.iaload, 1) := by decide +kernel
theorem dX3_sayingOf_61 : decode cX3_sayingOf 61 = .ok (.iload 7, 2) := by decide +kernel
theorem dX3_sayingOf_63 : decode cX3_sayingOf 63 = .ok (.iconst 1, 1) := by decide +kernel
theorem dX3_sayingOf_64 : decode cX3_sayingOf 64 = .ok (.iadd, 1) := by decide +kernel
theorem dX3_sayingOf_65 : decode cX3_sayingOf 65 = .ok (.iload 6, 2) := by decide +kernel
theorem dX3_sayingOf_67 : decode cX3_sayingOf 67 = .ok (.ishl, 1) := by decide +kernel
theorem dX3_sayingOf_68 : decode cX3_sayingOf 68 = .ok (.ior, 1) := by decide +kernel
theorem dX3_sayingOf_69 : decode cX3_sayingOf 69 = .ok (.iastore, 1) := by decide +kernel
theorem dX3_sayingOf_70 : decode cX3_sayingOf 70 = .ok (.aload_n 0, 1) := by decide +kernel
theorem dX3_sayingOf_71 : decode cX3_sayingOf 71 = .ok (.getfield 18, 3) := by decide +kernel
theorem dX3_sayingOf_74 : decode cX3_sayingOf 74 = .ok (.iload 5, 2) := by decide +kernel
theorem dX3_sayingOf_76 : decode cX3_sayingOf 76 = .ok (.iaload, 1) := by decide +kernel
theorem dX3_sayingOf_77 : decode cX3_sayingOf 77 = .ok (.iload 6, 2) := by decide +kernel
theorem dX3_sayingOf_79 : decode cX3_sayingOf 79 = .ok (.iushr, 1) := by decide +kernel
theorem dX3_sayingOf_80 : decode cX3_sayingOf 80 = .ok (.iconst 3, 1) := by decide +kernel
theorem dX3_sayingOf_81 : decode cX3_sayingOf 81 = .ok (.iand, 1) := by decide +kernel
theorem dX3_sayingOf_82 : decode cX3_sayingOf 82 = .ok (.iconst 1, 1) := by decide +kernel
theorem dX3_sayingOf_83 : decode cX3_sayingOf 83 = .ok (.isub, 1) := by decide +kernel
theorem dX3_sayingOf_84 : decode cX3_sayingOf 84 = .ok (.ireturn, 1) := by decide +kernel
theorem dX3_judge_0 : decode cX3_judge 0 = .ok (.aload_n 0, 1) := by decide +kernel
theorem dX3_judge_1 : decode cX3_judge 1 = .ok (.aload_n 1, 1) := by decide +kernel
theorem dX3_judge_2 : decode cX3_judge 2 = .ok (.aload_n 2, 1) := by decide +kernel
theorem dX3_judge_3 : decode cX3_judge 3 = .ok (.invokevirtual 49, 3) := by decide +kernel
theorem dX3_judge_6 : decode cX3_judge 6 = .ok (.istore 5, 2) := by decide +kernel
theorem dX3_judge_8 : decode cX3_judge 8 = .ok (.aload 4, 2) := by decide +kernel
theorem dX3_judge_10 : decode cX3_judge 10 = .ok (.getfield 65, 3) := by decide +kernel
theorem dX3_judge_13 : decode cX3_judge 13 = .ok (.bipush 8, 2) := by decide +kernel
theorem dX3_judge_15 : decode cX3_judge 15 = .ok (.iload 5, 2) := by decide +kernel
theorem dX3_judge_17 : decode cX3_judge 17 = .ok (.invokestatic 70, 3) := by decide +kernel
theorem dX3_judge_20 : decode cX3_judge 20 = .ok (.iastore, 1) := by decide +kernel
theorem dX3_judge_21 : decode cX3_judge 21 = .ok (.aload 4, 2) := by decide +kernel
theorem dX3_judge_23 : decode cX3_judge 23 = .ok (.getfield 65, 3) := by decide +kernel
theorem dX3_judge_26 : decode cX3_judge 26 = .ok (.bipush 9, 2) := by decide +kernel
theorem dX3_judge_28 : decode cX3_judge 28 = .ok (.iload 5, 2) := by decide +kernel
theorem dX3_judge_30 : decode cX3_judge 30 = .ok (.invokestatic 73, 3) := by decide +kernel
theorem dX3_judge_33 : decode cX3_judge 33 = .ok (.iastore, 1) := by decide +kernel
theorem dX3_judge_34 : decode cX3_judge 34 = .ok (.aload 4, 2) := by decide +kernel
theorem dX3_judge_36 : decode cX3_judge 36 = .ok (.getfield 65, 3) := by decide +kernel
theorem dX3_judge_39 : decode cX3_judge 39 = .ok (.bipush 10, 2) := by decide +kernel
theorem dX3_judge_41 : decode cX3_judge 41 = .ok (.iload 5, 2) := by decide +kernel
theorem dX3_judge_43 : decode cX3_judge 43 = .ok (.invokestatic 53, 3) := by decide +kernel
theorem dX3_judge_46 : decode cX3_judge 46 = .ok (.iastore, 1) := by decide +kernel
theorem dX3_judge_47 : decode cX3_judge 47 = .ok (.aload 4, 2) := by decide +kernel
theorem dX3_judge_49 : decode cX3_judge 49 = .ok (.getfield 65, 3) := by decide +kernel
theorem dX3_judge_52 : decode cX3_judge 52 = .ok (.bipush 11, 2) := by decide +kernel
theorem dX3_judge_54 : decode cX3_judge 54 = .ok (.aload_n 0, 1) := by decide +kernel
theorem dX3_judge_55 : decode cX3_judge 55 = .ok (.getfield 12, 3) := by decide +kernel
theorem dX3_judge_58 : decode cX3_judge 58 = .ok (.getfield 76, 3) := by decide +kernel
theorem dX3_judge_61 : decode cX3_judge 61 = .ok (.ifCond .eq 14, 3) := by decide +kernel
theorem dX3_judge_64 : decode cX3_judge 64 = .ok (.aload_n 0, 1) := by decide +kernel
theorem dX3_judge_65 : decode cX3_judge 65 = .ok (.aload_n 1, 1) := by decide +kernel
theorem dX3_judge_66 : decode cX3_judge 66 = .ok (.aload_n 2, 1) := by decide +kernel
theorem dX3_judge_67 : decode cX3_judge 67 = .ok (.aload 4, 2) := by decide +kernel
theorem dX3_judge_69 : decode cX3_judge 69 = .ok (.invokevirtual 80, 3) := by decide +kernel
theorem dX3_judge_72 : decode cX3_judge 72 = .ok (.goto 4, 3) := by decide +kernel
theorem dX3_judge_75 : decode cX3_judge 75 = .ok (.iconst 0, 1) := by decide +kernel
theorem dX3_judge_76 : decode cX3_judge 76 = .ok (.iastore, 1) := by decide +kernel
theorem dX3_judge_77 : decode cX3_judge 77 = .ok (.aload 4, 2) := by decide +kernel
theorem dX3_judge_79 : decode cX3_judge 79 = .ok (.getfield 65, 3) := by decide +kernel
theorem dX3_judge_82 : decode cX3_judge 82 = .ok (.bipush 12, 2) := by decide +kernel
theorem dX3_judge_84 : decode cX3_judge 84 = .ok (.aload_n 1, 1) := by decide +kernel
theorem dX3_judge_85 : decode cX3_judge 85 = .ok (.invokevirtual 84, 3) := by decide +kernel
theorem dX3_judge_88 : decode cX3_judge 88 = .ok (.aload_n 2, 1) := by decide +kernel
theorem dX3_judge_89 : decode cX3_judge 89 = .ok (.invokevirtual 84, 3) := by decide +kernel
theorem dX3_judge_92 : decode cX3_judge 92 = .ok (.iadd, 1) := by decide +kernel
theorem dX3_judge_93 : decode cX3_judge 93 = .ok (.iastore, 1) := by decide +kernel
theorem dX3_judge_94 : decode cX3_judge 94 = .ok (.aload 4, 2) := by decide +kernel
theorem dX3_judge_96 : decode cX3_judge 96 = .ok (.getfield 65, 3) := by decide +kernel
theorem dX3_judge_99 : decode cX3_judge 99 = .ok (.bipush 13, 2) := by decide +kernel
theorem dX3_judge_101 : decode cX3_judge 101 = .ok (.iload_n 3, 1) := by decide +kernel
theorem dX3_judge_102 : decode cX3_judge 102 = .ok (.ifCond .eq 7, 3) := by decide +kernel
theorem dX3_judge_105 : decode cX3_judge 105 = .ok (.iconst 1, 1) := by decide +kernel
theorem dX3_judge_106 : decode cX3_judge 106 = .ok (.goto 4, 3) := by decide +kernel
theorem dX3_judge_109 : decode cX3_judge 109 = .ok (.iconst 0, 1) := by decide +kernel
theorem dX3_judge_110 : decode cX3_judge 110 = .ok (.iastore, 1) := by decide +kernel
theorem dX3_judge_111 : decode cX3_judge 111 = .ok (.iconst 0, 1) := by decide +kernel
theorem dX3_judge_112 : decode cX3_judge 112 = .ok (.istore 6, 2) := by decide +kernel
theorem dX3_judge_114 : decode cX3_judge 114 = .ok (.iload 6, 2) := by decide +kernel
theorem dX3_judge_116 : decode cX3_judge 116 = .ok (.aload_n 0, 1) := by decide +kernel
theorem dX3_judge_117 : decode cX3_judge 117 = .ok (.getfield 12, 3) := by decide +kernel
theorem dX3_judge_120 : decode cX3_judge 120 = .ok (.getfield 88, 3) := by decide +kernel
theorem dX3_judge_123 : decode cX3_judge 123 = .ok (.if_icmp .ge 48, 3) := by decide +kernel
theorem dX3_judge_126 : decode cX3_judge 126 = .ok (.aload_n 0, 1) := by decide +kernel
theorem dX3_judge_127 : decode cX3_judge 127 = .ok (.getfield 12, 3) := by decide +kernel
theorem dX3_judge_130 : decode cX3_judge 130 = .ok (.iload 6, 2) := by decide +kernel
theorem dX3_judge_132 : decode cX3_judge 132 = .ok (.aload 4, 2) := by decide +kernel
theorem dX3_judge_134 : decode cX3_judge 134 = .ok (.getfield 65, 3) := by decide +kernel
theorem dX3_judge_137 : decode cX3_judge 137 = .ok (.invokevirtual 91, 3) := by decide +kernel
theorem dX3_judge_140 : decode cX3_judge 140 = .ok (.ifCond .eq 25, 3) := by decide +kernel
theorem dX3_judge_143 : decode cX3_judge 143 = .ok (.aload_n 0, 1) := by decide +kernel
theorem dX3_judge_144 : decode cX3_judge 144 = .ok (.getfield 12, 3) := by decide +kernel
theorem dX3_judge_147 : decode cX3_judge 147 = .ok (.getfield 95, 3) := by decide +kernel
theorem dX3_judge_150 : decode cX3_judge 150 = .ok (.iload 6, 2) := by decide +kernel
theorem dX3_judge_152 : decode cX3_judge 152 = .ok (.iaload, 1) := by decide +kernel
theorem dX3_judge_153 : decode cX3_judge 153 = .ok (.sipush 263, 3) := by decide +kernel
theorem dX3_judge_156 : decode cX3_judge 156 = .ok (.if_icmp .ne 7, 3) := by decide +kernel
theorem dX3_judge_159 : decode cX3_judge 159 = .ok (.iconst 1, 1) := by decide +kernel
theorem dX3_judge_160 : decode cX3_judge 160 = .ok (.goto 4, 3) := by decide +kernel
theorem dX3_judge_163 : decode cX3_judge 163 = .ok (.iconst 0, 1) := by decide +kernel
theorem dX3_judge_164 : decode cX3_judge 164 = .ok (.ireturn, 1) := by decide +kernel
theorem dX3_judge_165 : decode cX3_judge 165 = .ok (.iinc 6 1, 3) := by decide +kernel
theorem dX3_judge_168 : decode cX3_judge 168 = .ok (.goto (-54), 3) := by decide +kernel
theorem dX3_judge_171 : decode cX3_judge 171 = .ok (.iconst 2, 1) := by decide +kernel
theorem dX3_judge_172 : decode cX3_judge 172 = .ok (.ireturn, 1) := by decide +kernel
theorem dX4_init_0 : decode cX4_init 0 = .ok (.aload_n 0, 1) := by decide +kernel
theorem dX4_init_1 : decode cX4_init 1 = .ok (.invokespecial 1, 3) := by decide +kernel
theorem dX4_init_4 : decode cX4_init 4 = .ok (.aload_n 0, 1) := by decide +kernel
theorem dX4_init_5 : decode cX4_init 5 = .ok (.aload_n 1, 1) := by decide +kernel
theorem dX4_init_6 : decode cX4_init 6 = .ok (.putfield 7, 3) := by decide +kernel
theorem dX4_init_9 : decode cX4_init 9 = .ok (.aload_n 0, 1) := by decide +kernel
theorem dX4_init_10 : decode cX4_init 10 = .ok (.aload_n 2, 1) := by decide +kernel
theorem dX4_init_11 : decode cX4_init 11 = .ok (.putfield 13, 3) := by decide +kernel
theorem dX4_init_14 : decode cX4_init 14 = .ok (.aload_n 0, 1) := by decide +kernel
theorem dX4_init_15 : decode cX4_init 15 = .ok (.iload_n 3, 1) := by decide +kernel
theorem dX4_init_16 : decode cX4_init 16 = .ok (.putfield 16, 3) := by decide +kernel
theorem dX4_init_19 : decode cX4_init 19 = .ok (.return_, 1) := by decide +kernel
theorem dX5_init_0 : decode cX5_init 0 = .ok (.aload_n 0, 1) := by decide +kernel
theorem dX5_init_1 : decode cX5_init 1 = .ok (.invokespecial 3, 3) := by decide +kernel
theorem dX5_init_4 : decode cX5_init 4 = .ok (.aload_n 0, 1) := by decide +kernel
theorem dX5_init_5 : decode cX5_init 5 = .ok (.iconst (-1), 1) := by decide +kernel
theorem dX5_init_6 : decode cX5_init 6 = .ok (.putfield 9, 3) := by decide +kernel
theorem dX5_init_9 : decode cX5_init 9 = .ok (.aload_n 0, 1) := by decide +kernel
theorem dX5_init_10 : decode cX5_init 10 = .ok (.new 15, 3) := by decide +kernel
theorem dX5_init_13 : decode cX5_init 13 = .ok (.dup, 1) := by decide +kernel
theorem dX5_init_14 : decode cX5_init 14 = .ok (.invokespecial 17, 3) := by decide +kernel
theorem dX5_init_17 : decode cX5_init 17 = .ok (.putfield 18, 3) := by decide +kernel
theorem dX5_init_20 : decode cX5_init 20 = .ok (.aload_n 0, 1) := by decide +kernel
theorem dX5_init_21 : decode cX5_init 21 = .ok (.aload_n 1, 1) := by decide +kernel
theorem dX5_init_22 : decode cX5_init 22 = .ok (.putfield 22, 3) := by decide +kernel
theorem dX5_init_25 : decode cX5_init 25 = .ok (.return_, 1) := by decide +kernel
theorem dX5_read_0 : decode cX5_read 0 = .ok (.aload_n 0, 1) := by decide +kernel
theorem dX5_read_1 : decode cX5_read 1 = .ok (.iload_n 1, 1) := by decide +kernel
theorem dX5_read_2 : decode cX5_read 2 = .ok (.putfield 26, 3) := by decide +kernel
theorem dX5_read_5 : decode cX5_read 5 = .ok (.aload_n 0, 1) := by decide +kernel
theorem dX5_read_6 : decode cX5_read 6 = .ok (.iconst 0, 1) := by decide +kernel
theorem dX5_read_7 : decode cX5_read 7 = .ok (.putfield 30, 3) := by decide +kernel
theorem dX5_read_10 : decode cX5_read 10 = .ok (.aload_n 0, 1) := by decide +kernel
theorem dX5_read_11 : decode cX5_read 11 = .ok (.iconst 0, 1) := by decide +kernel
theorem dX5_read_12 : decode cX5_read 12 = .ok (.putfield 33, 3) := by decide +kernel
theorem dX5_read_15 : decode cX5_read 15 = .ok (.aload_n 0, 1) := by decide +kernel
theorem dX5_read_16 : decode cX5_read 16 = .ok (.iconst (-1), 1) := by decide +kernel
theorem dX5_read_17 : decode cX5_read 17 = .ok (.putfield 9, 3) := by decide +kernel
theorem dX5_read_20 : decode cX5_read 20 = .ok (.aload_n 0, 1) := by decide +kernel
theorem dX5_read_21 : decode cX5_read 21 = .ok (.getfield 22, 3) := by decide +kernel
theorem dX5_read_24 : decode cX5_read 24 = .ok (.invokevirtual 36, 3) := by decide +kernel
theorem dX5_read_27 : decode cX5_read 27 = .ok (.aload_n 0, 1) := by decide +kernel
theorem dX5_read_28 : decode cX5_read 28 = .ok (.getfield 18, 3) := by decide +kernel
theorem dX5_read_31 : decode cX5_read 31 = .ok (.invokevirtual 41, 3) := by decide +kernel
theorem dX5_read_34 : decode cX5_read 34 = .ok (.iconst 0, 1) := by decide +kernel
theorem dX5_read_35 : decode cX5_read 35 = .ok (.istore_n 2, 1) := by decide +kernel
theorem dX5_read_36 : decode cX5_read 36 = .ok (.iload_n 2, 1) := by decide +kernel
theorem dX5_read_37 : decode cX5_read 37 = .ok (.bipush 16, 2) := by decide +kernel
theorem dX5_read_39 : decode cX5_read 39 = .ok (.if_icmp .gt 27, 3) := by decide +kernel
theorem dX5_read_42 : decode cX5_read 42 = .ok (.aload_n 0, 1) := by decide +kernel
theorem dX5_read_43 : decode cX5_read 43 = .ok (.getfield 33, 3) := by decide +kernel
theorem dX5_read_46 : decode cX5_read 46 = .ok (.ifCond .ne 20, 3) := by decide +kernel
theorem dX5_read_49 : decode cX5_read 49 = .ok (.aload_n 0, 1) := by decide +kernel
theorem dX5_read_50 : decode cX5_read 50 = .ok (.invokevirtual 44, 3) := by decide +kernel
theorem dX5_read_53 : decode cX5_read 53 = .ok (.ifCond .eq 13, 3) := by decide +kernel
theorem dX5_read_56 : decode cX5_read 56 = .ok (.aload_n 0, 1) := by decide +kernel
theorem dX5_read_57 : decode cX5_read 57 = .ok (.invokevirtual 48, 3) := by decide +kernel
theorem dX5_read_60 : decode cX5_read 60 = .ok (.iinc 2 1, 3) := by decide +kernel
theorem dX5_read_63 : decode cX5_read 63 = .ok (.goto (-27), 3) := by decide +kernel
theorem dX5_read_66 : decode cX5_read 66 = .ok (.aload_n 0, 1) := by decide +kernel
theorem dX5_read_67 : decode cX5_read 67 = .ok (.getfield 22, 3) := by decide +kernel
theorem dX5_read_70 : decode cX5_read 70 = .ok (.iconst 0, 1) := by decide +kernel
theorem dX5_read_71 : decode cX5_read 71 = .ok (.putfield 51, 3) := by decide +kernel
theorem dX5_read_74 : decode cX5_read 74 = .ok (.aload_n 0, 1) := by decide +kernel
theorem dX5_read_75 : decode cX5_read 75 = .ok (.getfield 33, 3) := by decide +kernel
theorem dX5_read_78 : decode cX5_read 78 = .ok (.ifCond .ne 7, 3) := by decide +kernel
theorem dX5_read_81 : decode cX5_read 81 = .ok (.iconst 1, 1) := by decide +kernel
theorem dX5_read_82 : decode cX5_read 82 = .ok (.goto 4, 3) := by decide +kernel
theorem dX5_read_85 : decode cX5_read 85 = .ok (.iconst 0, 1) := by decide +kernel
theorem dX5_read_86 : decode cX5_read 86 = .ok (.ireturn, 1) := by decide +kernel
theorem dX5_pass_0 : decode cX5_pass 0 = .ok (.aload_n 0, 1) := by decide +kernel
theorem dX5_pass_1 : decode cX5_pass 1 = .ok (.iconst 0, 1) := by decide +kernel
theorem dX5_pass_2 : decode cX5_pass 2 = .ok (.putfield 33, 3) := by decide +kernel
theorem dX5_pass_5 : decode cX5_pass 5 = .ok (.aload_n 0, 1) := by decide +kernel
theorem dX5_pass_6 : decode cX5_pass 6 = .ok (.iconst (-1), 1) := by decide +kernel
theorem dX5_pass_7 : decode cX5_pass 7 = .ok (.putfield 9, 3) := by decide +kernel
theorem dX5_pass_10 : decode cX5_pass 10 = .ok (.aload_n 0, 1) := by decide +kernel
theorem dX5_pass_11 : decode cX5_pass 11 = .ok (.getfield 22, 3) := by decide +kernel
theorem dX5_pass_14 : decode cX5_pass 14 = .ok (.iconst 0, 1) := by decide +kernel
theorem dX5_pass_15 : decode cX5_pass 15 = .ok (.putfield 51, 3) := by decide +kernel
theorem dX5_pass_18 : decode cX5_pass 18 = .ok (.return_, 1) := by decide +kernel
theorem dX5_exchange_0 : decode cX5_exchange 0 = .ok (.aload_n 0, 1) := by decide +kernel
theorem dX5_exchange_1 : decode cX5_exchange 1 = .ok (.getfield 18, 3) := by decide +kernel
theorem dX5_exchange_4 : decode cX5_exchange 4 = .ok (.astore_n 2, 1) := by decide +kernel
theorem dX5_exchange_5 : decode cX5_exchange 5 = .ok (.aload_n 0, 1) := by decide +kernel
theorem dX5_exchange_6 : decode cX5_exchange 6 = .ok (.aload_n 1, 1) := by decide +kernel
theorem dX5_exchange_7 : decode cX5_exchange 7 = .ok (.putfield 18, 3) := by decide +kernel
theorem dX5_exchange_10 : decode cX5_exchange 10 = .ok (.aload_n 2, 1) := by decide +kernel
theorem dX5_exchange_11 : decode cX5_exchange 11 = .ok (.areturn, 1) := by decide +kernel
theorem dX5_kind_0 : decode cX5_kind 0 = .ok (.aload_n 0, 1) := by decide +kernel
theorem dX5_kind_1 : decode cX5_kind 1 = .ok (.getfield 33, 3) := by decide +kernel
theorem dX5_kind_4 : decode cX5_kind 4 = .ok (.ifCond .ne 33, 3) := by decide +kernel
theorem dX5_kind_7 : decode cX5_kind 7 = .ok (.aload_n 0, 1) := by decide +kernel
theorem dX5_kind_8 : decode cX5_kind 8 = .ok (.getfield 30, 3) := by decide +kernel
theorem dX5_kind_11 : decode cX5_kind 11 = .ok (.aload_n 0, 1) := by decide +kernel
theorem dX5_kind_12 : decode cX5_kind 12 = .ok (.getfield 22, 3) := by decide +kernel
theorem dX5_kind_15 : decode cX5_kind 15 = .ok (.getfield 54, 3) := by decide +kernel
theorem dX5_kind_18 : decode cX5_kind 18 = .ok (.arraylength, 1) := by decide +kernel
theorem dX5_kind_19 : decode cX5_kind 19 = .ok (.if_icmp .ge 18, 3) := by decide +kernel
theorem dX5_kind_22 : decode cX5_kind 22 = .ok (.aload_n 0, 1) := by decide +kernel
theorem dX5_kind_23 : decode cX5_kind 23 = .ok (.getfield 22, 3) := by decide +kernel
theorem dX5_kind_26 : decode cX5_kind 26 = .ok (.getfield 54, 3) := by decide +kernel
theorem dX5_kind_29 : decode cX5_kind 29 = .ok (.aload_n 0, 1) := by decide +kernel
theorem dX5_kind_30 : decode cX5_kind 30 = .ok (.getfield 30, 3) := by decide +kernel
theorem dX5_kind_33 : decode cX5_kind 33 = .ok (.iaload, 1) := by decide +kernel
theorem dX5_kind_34 : decode cX5_kind 34 = .ok (.goto 4, 3) := by decide +kernel
theorem dX5_kind_37 : decode cX5_kind 37 = .ok (.iconst 1, 1) := by decide +kernel
theorem dX5_kind_38 : decode cX5_kind 38 = .ok (.ireturn, 1) := by decide +kernel
theorem dX5_refuse_0 : decode cX5_refuse 0 = .ok (.aload_n 0, 1) := by decide +kernel
theorem dX5_refuse_1 : decode cX5_refuse 1 = .ok (.getfield 33, 3) := by decide +kernel
theorem dX5_refuse_4 : decode cX5_refuse 4 = .ok (.ifCond .ne 39, 3) := by decide +kernel
theorem dX5_refuse_7 : decode cX5_refuse 7 = .ok (.aload_n 0, 1) := by decide +kernel
theorem dX5_refuse_8 : decode cX5_refuse 8 = .ok (.getfield 30, 3) := by decide +kernel
theorem dX5_refuse_11 : decode cX5_refuse 11 = .ok (.aload_n 0, 1) := by decide +kernel
theorem dX5_refuse_12 : decode cX5_refuse 12 = .ok (.getfield 22, 3) := by decide +kernel
theorem dX5_refuse_15 : decode cX5_refuse 15 = .ok (.getfield 58, 3) := by decide +kernel
theorem dX5_refuse_18 : decode cX5_refuse 18 = .ok (.arraylength, 1) := by decide +kernel
theorem dX5_refuse_19 : decode cX5_refuse 19 = .ok (.if_icmp .ge 24, 3) := by decide +kernel
theorem dX5_refuse_22 : decode cX5_refuse 22 = .ok (.aload_n 0, 1) := by decide +kernel
theorem dX5_refuse_23 : decode cX5_refuse 23 = .ok (.iload_n 1, 1) := by decide +kernel
theorem dX5_refuse_24 : decode cX5_refuse 24 = .ok (.putfield 33, 3) := by decide +kernel
theorem dX5_refuse_27 : decode cX5_refuse 27 = .ok (.aload_n 0, 1) := by decide +kernel
theorem dX5_refuse_28 : decode cX5_refuse 28 = .ok (.aload_n 0, 1) := by decide +kernel
theorem dX5_refuse_29 : decode cX5_refuse 29 = .ok (.getfield 22, 3) := by decide +kernel
theorem dX5_refuse_32 : decode cX5_refuse 32 = .ok (.getfield 58, 3) := by decide +kernel
theorem dX5_refuse_35 : decode cX5_refuse 35 = .ok (.aload_n 0, 1) := by decide +kernel
theorem dX5_refuse_36 : decode cX5_refuse 36 = .ok (.getfield 30, 3) := by decide +kernel
theorem dX5_refuse_39 : decode cX5_refuse 39 = .ok (.iaload, 1) := by decide +kernel
theorem dX5_refuse_40 : decode cX5_refuse 40 = .ok (.putfield 9, 3) := by decide +kernel
theorem dX5_refuse_43 : decode cX5_refuse 43 = .ok (.return_, 1) := by decide +kernel
theorem dX5_expect_0 : decode cX5_expect 0 = .ok (.aload_n 0, 1) := by decide +kernel
theorem dX5_expect_1 : decode cX5_expect 1 = .ok (.invokevirtual 44, 3) := by decide +kernel
theorem dX5_expect_4 : decode cX5_expect 4 = .ok (.iload_n 1, 1) := by decide +kernel
theorem dX5_expect_5 : decode cX5_expect 5 = .ok (.if_icmp .ne 16, 3) := by decide +kernel
theorem dX5_expect_8 : decode cX5_expect 8 = .ok (.aload_n 0, 1) := by decide +kernel
theorem dX5_expect_9 : decode cX5_expect 9 = .ok (.dup, 1) := by decide +kernel
theorem dX5_expect_10 : decode cX5_expect 10 = .ok (.getfield 30, 3) := by decide +kernel
theorem dX5_expect_13 : decode cX5_expect 13 = .ok (.iconst 1, 1) := by decide +kernel
theorem dX5_expect_14 : decode cX5_expect 14 = .ok (.iadd, 1) := by decide +kernel
theorem dX5_expect_15 : decode cX5_expect 15 = .ok (.putfield 30, 3) := by decide +kernel
theorem dX5_expect_18 : decode cX5_expect 18 = .ok (.goto 8, 3) := by decide +kernel
theorem dX5_expect_21 : decode cX5_expect 21 = .ok (.aload_n 0, 1) := by decide +kernel
theorem dX5_expect_22 : decode cX5_expect 22 = .ok (.iconst 1, 1) := by decide +kernel
theorem dX5_expect_23 : decode cX5_expect 23 = .ok (.invokevirtual 61, 3) := by decide +kernel
theorem dX5_expect_26 : decode cX5_expect 26 = .ok (.return_, 1) := by decide +kernel
theorem dX5_isHead_0 : decode cX5_isHead 0 = .ok (.aload_n 0, 1) := by decide +kernel
theorem dX5_isHead_1 : decode cX5_isHead 1 = .ok (.getfield 26, 3) := by decide +kernel
theorem dX5_isHead_4 : decode cX5_isHead 4 = .ok (.ifCond .eq 25, 3) := by decide +kernel
theorem dX5_isHead_7 : decode cX5_isHead 7 = .ok (.iload_n 1, 1) := by decide +kernel
theorem dX5_isHead_8 : decode cX5_isHead 8 = .ok (.sipush 260, 3) := by decide +kernel
theorem dX5_isHead_11 : decode cX5_isHead 11 = .ok (.if_icmp .lt 14, 3) := by decide +kernel
theorem dX5_isHead_14 : decode cX5_isHead 14 = .ok (.iload_n 1, 1) := by decide +kernel
theorem dX5_isHead_15 : decode cX5_isHead 15 = .ok (.sipush 262, 3) := by decide +kernel
theorem dX5_isHead_18 : decode cX5_isHead 18 = .ok (.if_icmp .gt 7, 3) := by decide +kernel
theorem dX5_isHead_21 : decode cX5_isHead 21 = .ok (.iconst 1, 1) := by decide +kernel
theorem dX5_isHead_22 : decode cX5_isHead 22 = .ok (.goto 26, 3) := by decide +kernel
theorem dX5_isHead_25 : decode cX5_isHead 25 = .ok (.iconst 0, 1) := by decide +kernel
theorem dX5_isHead_26 : decode cX5_isHead 26 = .ok (.goto 22, 3) := by decide +kernel
theorem dX5_isHead_29 : decode cX5_isHead 29 = .ok (.iload_n 1, 1) := by decide +kernel
theorem dX5_isHead_30 : decode cX5_isHead 30 = .ok (.sipush 263, 3) := by decide +kernel
theorem dX5_isHead_33 : decode cX5_isHead 33 = .ok (.if_icmp .eq 10, 3) := by decide +kernel
theorem dX5_isHead_36 : decode cX5_isHead 36 = .ok (.iload_n 1, 1) := by decide +kernel
theorem dX5_isHead_37 : decode cX5_isHead 37 = .ok (.sipush 264, 3) := by decide +kernel
theorem dX5_isHead_40 : decode cX5_isHead 40 = .ok (.if_icmp .ne 7, 3) := by decide +kernel
theorem dX5_isHead_43 : decode cX5_isHead 43 = .ok (.iconst 1, 1) := by decide +kernel
theorem dX5_isHead_44 : decode cX5_isHead 44 = .ok (.goto 4, 3) := by decide +kernel
theorem dX5_isHead_47 : decode cX5_isHead 47 = .ok (.iconst 0, 1) := by decide +kernel
theorem dX5_isHead_48 : decode cX5_isHead 48 = .ok (.ireturn, 1) := by decide +kernel
theorem dX5_isFact_0 : decode cX5_isFact 0 = .ok (.aload_n 0, 1) := by decide +kernel
theorem dX5_isFact_1 : decode cX5_isFact 1 = .ok (.getfield 26, 3) := by decide +kernel
theorem dX5_isFact_4 : decode cX5_isFact 4 = .ok (.ifCond .eq 25, 3) := by decide +kernel
theorem dX5_isFact_7 : decode cX5_isFact 7 = .ok (.iload_n 1, 1) := by decide +kernel
theorem dX5_isFact_8 : decode cX5_isFact 8 = .ok (.sipush 265, 3) := by decide +kernel
theorem dX5_isFact_11 : decode cX5_isFact 11 = .ok (.if_icmp .lt 14, 3) := by decide +kernel
theorem dX5_isFact_14 : decode cX5_isFact 14 = .ok (.iload_n 1, 1) := by decide +kernel
theorem dX5_isFact_15 : decode cX5_isFact 15 = .ok (.sipush 273, 3) := by decide +kernel
theorem dX5_isFact_18 : decode cX5_isFact 18 = .ok (.if_icmp .ge 7, 3) := by decide +kernel
theorem dX5_isFact_21 : decode cX5_isFact 21 = .ok (.iconst 1, 1) := by decide +kernel
theorem dX5_isFact_22 : decode cX5_isFact 22 = .ok (.goto 26, 3) := by decide +kernel
theorem dX5_isFact_25 : decode cX5_isFact 25 = .ok (.iconst 0, 1) := by decide +kernel
theorem dX5_isFact_26 : decode cX5_isFact 26 = .ok (.goto 22, 3) := by decide +kernel
theorem dX5_isFact_29 : decode cX5_isFact 29 = .ok (.iload_n 1, 1) := by decide +kernel
theorem dX5_isFact_30 : decode cX5_isFact 30 = .ok (.sipush 273, 3) := by decide +kernel
theorem dX5_isFact_33 : decode cX5_isFact 33 = .ok (.if_icmp .lt 14, 3) := by decide +kernel
theorem dX5_isFact_36 : decode cX5_isFact 36 = .ok (.iload_n 1, 1) := by decide +kernel
theorem dX5_isFact_37 : decode cX5_isFact 37 = .ok (.sipush 279, 3) := by decide +kernel
theorem dX5_isFact_40 : decode cX5_isFact 40 = .ok (.if_icmp .ge 7, 3) := by decide +kernel
theorem dX5_isFact_43 : decode cX5_isFact 43 = .ok (.iconst 1, 1) := by decide +kernel
theorem dX5_isFact_44 : decode cX5_isFact 44 = .ok (.goto 4, 3) := by decide +kernel
theorem dX5_isFact_47 : decode cX5_isFact 47 = .ok (.iconst 0, 1) := by decide +kernel
theorem dX5_isFact_48 : decode cX5_isFact 48 = .ok (.ireturn, 1) := by decide +kernel
theorem dX5_readLine_0 : decode cX5_readLine 0 = .ok (.aload_n 0, 1) := by decide +kernel
theorem dX5_readLine_1 : decode cX5_readLine 1 = .ok (.invokevirtual 44, 3) := by decide +kernel
theorem dX5_readLine_4 : decode cX5_readLine 4 = .ok (.istore_n 1, 1) := by decide +kernel
theorem dX5_readLine_5 : decode cX5_readLine 5 = .ok (.aload_n 0, 1) := by decide +kernel
theorem dX5_readLine_6 : decode cX5_readLine 6 = .ok (.iload_n 1, 1) := by decide +kernel
theorem dX5_readLine_7 : decode cX5_readLine 7 = .ok (.invokevirtual 65, 3) := by decide +kernel
theorem dX5_readLine_10 : decode cX5_readLine 10 = .ok (.ifCond .ne 9, 3) := by decide +kernel
theorem dX5_readLine_13 : decode cX5_readLine 13 = .ok (.aload_n 0, 1) := by decide +kernel
theorem dX5_readLine_14 : decode cX5_readLine 14 = .ok (.iconst 1, 1) := by decide +kernel
theorem dX5_readLine_15 : decode cX5_readLine 15 = .ok (.invokevirtual 61, 3) := by decide +kernel
theorem dX5_readLine_18 : decode cX5_readLine 18 = .ok (.return_, 1) := by decide +kernel
theorem dX5_readLine_19 : decode cX5_readLine 19 = .ok (.aload_n 0, 1) := by decide +kernel
theorem dX5_readLine_20 : decode cX5_readLine 20 = .ok (.getfield 18, 3) := by decide +kernel
theorem dX5_readLine_23 : decode cX5_readLine 23 = .ok (.invokevirtual 69, 3) := by decide +kernel
theorem dX5_readLine_26 : decode cX5_readLine 26 = .ok (.ifCond .eq 9, 3) := by decide +kernel
theorem dX5_readLine_29 : decode cX5_readLine 29 = .ok (.aload_n 0, 1) := by decide +kernel
theorem dX5_readLine_30 : decode cX5_readLine 30 = .ok (.iconst 3, 1) := by decide +kernel
theorem dX5_readLine_31 : decode cX5_readLine 31 = .ok (.invokevirtual 61, 3) := by decide +kernel
theorem dX5_readLine_34 : decode cX5_readLine 34 = .ok (.return_, 1) := by decide +kernel
theorem dX5_readLine_35 : decode cX5_readLine 35 = .ok (.aload_n 0, 1) := by decide +kernel
theorem dX5_readLine_36 : decode cX5_readLine 36 = .ok (.dup, 1) := by decide +kernel
theorem dX5_readLine_37 : decode cX5_readLine 37 = .ok (.getfield 30, 3) := by decide +kernel
theorem dX5_readLine_40 : decode cX5_readLine 40 = .ok (.iconst 1, 1) := by decide +kernel
theorem dX5_readLine_41 : decode cX5_readLine 41 = .ok (.iadd, 1) := by decide +kernel
theorem dX5_readLine_42 : decode cX5_readLine 42 = .ok (.putfield 30, 3) := by decide +kernel
theorem dX5_readLine_45 : decode cX5_readLine 45 = .ok (.aload_n 0, 1) := by decide +kernel
theorem dX5_readLine_46 : decode cX5_readLine 46 = .ok (.getfield 18, 3) := by decide +kernel
theorem dX5_readLine_49 : decode cX5_readLine 49 = .ok (.iload_n 1, 1) := by decide +kernel
theorem dX5_readLine_50 : decode cX5_readLine 50 = .ok (.invokevirtual 73, 3) := by decide +kernel
theorem dX5_readLine_53 : decode cX5_readLine 53 = .ok (.aload_n 0, 1) := by decide +kernel
theorem dX5_readLine_54 : decode cX5_readLine 54 = .ok (.getfield 26, 3) := by decide +kernel
theorem dX5_readLine_57 : decode cX5_readLine 57 = .ok (.ifCond .ne 11, 3) := by decide +kernel
theorem dX5_readLine_60 : decode cX5_readLine 60 = .ok (.aload_n 0, 1) := by decide +kernel
theorem dX5_readLine_61 : decode cX5_readLine 61 = .ok (.iconst 0, 1) := by decide +kernel
theorem dX5_readLine_62 : decode cX5_readLine 62 = .ok (.invokevirtual 76, 3) := by decide +kernel
theorem dX5_readLine_65 : decode cX5_readLine 65 = .ok (.goto 39, 3) := by decide +kernel
theorem dX5_readLine_68 : decode cX5_readLine 68 = .ok (.aload_n 0, 1) := by decide +kernel
theorem dX5_readLine_69 : decode cX5_readLine 69 = .ok (.invokevirtual 79, 3) := by decide +kernel
theorem dX5_readLine_72 : decode cX5_readLine 72 = .ok (.aload_n 0, 1) := by decide +kernel
theorem dX5_readLine_73 : decode cX5_readLine 73 = .ok (.getfield 18, 3) := by decide +kernel
theorem dX5_readLine_76 : decode cX5_readLine 76 = .ok (.invokevirtual 82, 3) := by decide +kernel
theorem dX5_readLine_79 : decode cX5_readLine 79 = .ok (.aload_n 0, 1) := by decide +kernel
theorem dX5_readLine_80 : decode cX5_readLine 80 = .ok (.invokevirtual 44, 3) := by decide +kernel
theorem dX5_readLine_83 : decode cX5_readLine 83 = .ok (.sipush 259, 3) := by decide +kernel
theorem dX5_readLine_86 : decode cX5_readLine 86 = .ok (.if_icmp .ne 18, 3) := by decide +kernel
theorem dX5_readLine_89 : decode cX5_readLine 89 = .ok (.aload_n 0, 1) := by decide +kernel
theorem dX5_readLine_90 : decode cX5_readLine 90 = .ok (.dup, 1) := by decide +kernel
theorem dX5_readLine_91 : decode cX5_readLine 91 = .ok (.getfield 30, 3) := by decide +kernel
theorem dX5_readLine_94 : decode cX5_readLine 94 = .ok (.iconst 1, 1) := by decide +kernel
theorem dX5_readLine_95 : decode cX5_readLine 95 = .ok (.iadd, 1) := by decide +kernel
theorem dX5_readLine_96 : decode cX5_readLine 96 = .ok (.putfield 30, 3) := by decide +kernel
theorem dX5_readLine_99 : decode cX5_readLine 99 = .ok (.aload_n 0, 1) := by decide +kernel
theorem dX5_readLine_100 : decode cX5_readLine 100 = .ok (.iconst 0, 1) := by decide +kernel
theorem dX5_readLine_101 : decode cX5_readLine 101 = .ok (.invokevirtual 76, 3) := by decide +kernel
theorem dX5_readLine_104 : decode cX5_readLine 104 = .ok (.aload_n 0, 1) := by decide +kernel
theorem dX5_readLine_105 : decode cX5_readLine 105 = .ok (.bipush 59, 2) := by decide +kernel
theorem dX5_readLine_107 : decode cX5_readLine 107 = .ok (.invokevirtual 85, 3) := by decide +kernel
theorem dX5_readLine_110 : decode cX5_readLine 110 = .ok (.aload_n 0, 1) := by decide +kernel
theorem dX5_readLine_111 : decode cX5_readLine 111 = .ok (.getfield 18, 3) := by decide +kernel
theorem dX5_readLine_114 : decode cX5_readLine 114 = .ok (.invokevirtual 88, 3) := by decide +kernel
theorem dX5_readLine_117 : decode cX5_readLine 117 = .ok (.return_, 1) := by decide +kernel
theorem dX5_readEither_0 : decode cX5_readEither 0 = .ok (.aload_n 0, 1) := by decide +kernel
theorem dX5_readEither_1 : decode cX5_readEither 1 = .ok (.iload_n 1, 1) := by decide +kernel
theorem dX5_readEither_2 : decode cX5_readEither 2 = .ok (.invokevirtual 91, 3) := by decide +kernel
theorem dX5_readEither_5 : decode cX5_readEither 5 = .ok (.iconst 0, 1) := by decide +kernel
theorem dX5_readEither_6 : decode cX5_readEither 6 = .ok (.istore_n 2, 1) := by decide +kernel
theorem dX5_readEither_7 : decode cX5_readEither 7 = .ok (.iload_n 2, 1) := by decide +kernel
theorem dX5_readEither_8 : decode cX5_readEither 8 = .ok (.sipush 600, 3) := by decide +kernel
theorem dX5_readEither_11 : decode cX5_readEither 11 = .ok (.if_icmp .ge 44, 3) := by decide +kernel
theorem dX5_readEither_14 : decode cX5_readEither 14 = .ok (.aload_n 0, 1) := by decide +kernel
theorem dX5_readEither_15 : decode cX5_readEither 15 = .ok (.invokevirtual 44, 3) := by decide +kernel
theorem dX5_readEither_18 : decode cX5_readEither 18 = .ok (.sipush 256, 3) := by decide +kernel
theorem dX5_readEither_21 : decode cX5_readEither 21 = .ok (.if_icmp .ne 34, 3) := by decide +kernel
theorem dX5_readEither_24 : decode cX5_readEither 24 = .ok (.aload_n 0, 1) := by decide +kernel
theorem dX5_readEither_25 : decode cX5_readEither 25 = .ok (.dup, 1) := by decide +kernel
theorem dX5_readEither_26 : decode cX5_readEither 26 = .ok (.getfield 30, 3) := by decide +kernel
theorem dX5_readEither_29 : decode cX5_readEither 29 = .ok (.iconst 1, 1) := by decide +kernel
theorem dX5_readEither_30 : decode cX5_readEither 30 = .ok (.iadd, 1) := by decide +kernel
theorem dX5_readEither_31 : decode cX5_readEither 31 = .ok (.putfield 30, 3) := by decide +kernel
theorem dX5_readEither_34 : decode cX5_readEither 34 = .ok (.aload_n 0, 1) := by decide +kernel
theorem dX5_readEither_35 : decode cX5_readEither 35 = .ok (.iload_n 1, 1) := by decide +kernel
theorem dX5_readEither_36 : decode cX5_readEither 36 = .ok (.invokevirtual 91, 3) := by decide +kernel
theorem dX5_readEither_39 : decode cX5_readEither 39 = .ok (.aload_n 0, 1) := by decide +kernel
theorem dX5_readEither_40 : decode cX5_readEither 40 = .ok (.getfield 18, 3) := by decide +kernel
theorem dX5_readEither_43 : decode cX5_readEither 43 = .ok (.sipush 256, 3) := by decide +kernel
theorem dX5_readEither_46 : decode cX5_readEither 46 = .ok (.invokevirtual 94, 3) := by decide +kernel
theorem dX5_readEither_49 : decode cX5_readEither 49 = .ok (.iinc 2 1, 3) := by decide +kernel
theorem dX5_readEither_52 : decode cX5_readEither 52 = .ok (.goto (-45), 3) := by decide +kernel
theorem dX5_readEither_55 : decode cX5_readEither 55 = .ok (.return_, 1) := by decide +kernel
theorem dX5_readBoth_0 : decode cX5_readBoth 0 = .ok (.aload_n 0, 1) := by decide +kernel
theorem dX5_readBoth_1 : decode cX5_readBoth 1 = .ok (.iload_n 1, 1) := by decide +kernel
theorem dX5_readBoth_2 : decode cX5_readBoth 2 = .ok (.invokevirtual 97, 3) := by decide +kernel
theorem dX5_readBoth_5 : decode cX5_readBoth 5 = .ok (.iconst 0, 1) := by decide +kernel
theorem dX5_readBoth_6 : decode cX5_readBoth 6 = .ok (.istore_n 2, 1) := by decide +kernel
theorem dX5_readBoth_7 : decode cX5_readBoth 7 = .ok (.iload_n 2, 1) := by decide +kernel
theorem dX5_readBoth_8 : decode cX5_readBoth 8 = .ok (.sipush 600, 3) := by decide +kernel
theorem dX5_readBoth_11 : decode cX5_readBoth 11 = .ok (.if_icmp .ge 44, 3) := by decide +kernel
theorem dX5_readBoth_14 : decode cX5_readBoth 14 = .ok (.aload_n 0, 1) := by decide +kernel
theorem dX5_readBoth_15 : decode cX5_readBoth 15 = .ok (.invokevirtual 44, 3) := by decide +kernel
theorem dX5_readBoth_18 : decode cX5_readBoth 18 = .ok (.sipush 257, 3) := by decide +kernel
theorem dX5_readBoth_21 : decode cX5_readBoth 21 = .ok (.if_icmp .ne 34, 3) := by decide +kernel
theorem dX5_readBoth_24 : decode cX5_readBoth 24 = .ok (.aload_n 0, 1) := by decide +kernel
theorem dX5_readBoth_25 : decode cX5_readBoth 25 = .ok (.dup, 1) := by decide +kernel
theorem dX5_readBoth_26 : decode cX5_readBoth 26 = .ok (.getfield 30, 3) := by decide +kernel
theorem dX5_readBoth_29 : decode cX5_readBoth 29 = .ok (.iconst 1, 1) := by decide +kernel
theorem dX5_readBoth_30 : decode cX5_readBoth 30 = .ok (.iadd, 1) := by decide +kernel
theorem dX5_readBoth_31 : decode cX5_readBoth 31 = .ok (.putfield 30, 3) := by decide +kernel
theorem dX5_readBoth_34 : decode cX5_readBoth 34 = .ok (.aload_n 0, 1) := by decide +kernel
theorem dX5_readBoth_35 : decode cX5_readBoth 35 = .ok (.iload_n 1, 1) := by decide +kernel
theorem dX5_readBoth_36 : decode cX5_readBoth 36 = .ok (.invokevirtual 97, 3) := by decide +kernel
theorem dX5_readBoth_39 : decode cX5_readBoth 39 = .ok (.aload_n 0, 1) := by decide +kernel
theorem dX5_readBoth_40 : decode cX5_readBoth 40 = .ok (.getfield 18, 3) := by decide +kernel
theorem dX5_readBoth_43 : decode cX5_readBoth 43 = .ok (.sipush 257, 3) := by decide +kernel
theorem dX5_readBoth_46 : decode cX5_readBoth 46 = .ok (.invokevirtual 94, 3) := by decide +kernel
theorem dX5_readBoth_49 : decode cX5_readBoth 49 = .ok (.iinc 2 1, 3) := by decide +kernel
theorem dX5_readBoth_52 : decode cX5_readBoth 52 = .ok (.goto (-45), 3) := by decide +kernel
theorem dX5_readBoth_55 : decode cX5_readBoth 55 = .ok (.return_, 1) := by decide +kernel
theorem dX5_readClaim_0 : decode cX5_readClaim 0 = .ok (.aload_n 0, 1) := by decide +kernel
theorem dX5_readClaim_1 : decode cX5_readClaim 1 = .ok (.invokevirtual 44, 3) := by decide +kernel
theorem dX5_readClaim_4 : decode cX5_readClaim 4 = .ok (.istore_n 2, 1) := by decide +kernel
theorem dX5_readClaim_5 : decode cX5_readClaim 5 = .ok (.iload_n 2, 1) := by decide +kernel
theorem dX5_readClaim_6 : decode cX5_readClaim 6 = .ok (.sipush 258, 3) := by decide +kernel
theorem dX5_readClaim_9 : decode cX5_readClaim 9 = .ok (.if_icmp .eq 69, 3) := by decide +kernel
theorem dX5_readClaim_12 : decode cX5_readClaim 12 = .ok (.iload_n 2, 1) := by decide +kernel
theorem dX5_readClaim_13 : decode cX5_readClaim 13 = .ok (.bipush 40, 2) := by decide +kernel
theorem dX5_readClaim_15 : decode cX5_readClaim 15 = .ok (.if_icmp .eq 63, 3) := by decide +kernel
theorem dX5_readClaim_18 : decode cX5_readClaim 18 = .ok (.aload_n 0, 1) := by decide +kernel
theorem dX5_readClaim_19 : decode cX5_readClaim 19 = .ok (.invokevirtual 79, 3) := by decide +kernel
theorem dX5_readClaim_22 : decode cX5_readClaim 22 = .ok (.aload_n 0, 1) := by decide +kernel
theorem dX5_readClaim_23 : decode cX5_readClaim 23 = .ok (.invokevirtual 44, 3) := by decide +kernel
theorem dX5_readClaim_26 : decode cX5_readClaim 26 = .ok (.istore_n 3, 1) := by decide +kernel
theorem dX5_readClaim_27 : decode cX5_readClaim 27 = .ok (.iload_n 3, 1) := by decide +kernel
theorem dX5_readClaim_28 : decode cX5_readClaim 28 = .ok (.bipush 60, 2) := by decide +kernel
theorem dX5_readClaim_30 : decode cX5_readClaim 30 = .ok (.if_icmp .eq 15, 3) := by decide +kernel
theorem dX5_readClaim_33 : decode cX5_readClaim 33 = .ok (.iload_n 3, 1) := by decide +kernel
theorem dX5_readClaim_34 : decode cX5_readClaim 34 = .ok (.bipush 61, 2) := by decide +kernel
theorem dX5_readClaim_36 : decode cX5_readClaim 36 = .ok (.if_icmp .eq 9, 3) := by decide +kernel
theorem dX5_readClaim_39 : decode cX5_readClaim 39 = .ok (.iload_n 3, 1) := by decide +kernel
theorem dX5_readClaim_40 : decode cX5_readClaim 40 = .ok (.bipush 62, 2) := by decide +kernel
theorem dX5_readClaim_42 : decode cX5_readClaim 42 = .ok (.if_icmp .ne 28, 3) := by decide +kernel
theorem dX5_readClaim_45 : decode cX5_readClaim 45 = .ok (.aload_n 0, 1) := by decide +kernel
theorem dX5_readClaim_46 : decode cX5_readClaim 46 = .ok (.dup, 1) := by decide +kernel
theorem dX5_readClaim_47 : decode cX5_readClaim 47 = .ok (.getfield 30, 3) := by decide +kernel
theorem dX5_readClaim_50 : decode cX5_readClaim 50 = .ok (.iconst 1, 1) := by decide +kernel
theorem dX5_readClaim_51 : decode cX5_readClaim 51 = .ok (.iadd, 1) := by decide +kernel
theorem dX5_readClaim_52 : decode cX5_readClaim 52 = .ok (.putfield 30, 3) := by decide +kernel
theorem dX5_readClaim_55 : decode cX5_readClaim 55 = .ok (.aload_n 0, 1) := by decide +kernel
theorem dX5_readClaim_56 : decode cX5_readClaim 56 = .ok (.invokevirtual 79, 3) := by decide +kernel
theorem dX5_readClaim_59 : decode cX5_readClaim 59 = .ok (.aload_n 0, 1) := by decide +kernel
theorem dX5_readClaim_60 : decode cX5_readClaim 60 = .ok (.getfield 18, 3) := by decide +kernel
theorem dX5_readClaim_63 : decode cX5_readClaim 63 = .ok (.iload_n 3, 1) := by decide +kernel
theorem dX5_readClaim_64 : decode cX5_readClaim 64 = .ok (.invokevirtual 94, 3) := by decide +kernel
theorem dX5_readClaim_67 : decode cX5_readClaim 67 = .ok (.goto 8, 3) := by decide +kernel
theorem dX5_readClaim_70 : decode cX5_readClaim 70 = .ok (.aload_n 0, 1) := by decide +kernel
theorem dX5_readClaim_71 : decode cX5_readClaim 71 = .ok (.iconst 1, 1) := by decide +kernel
theorem dX5_readClaim_72 : decode cX5_readClaim 72 = .ok (.invokevirtual 61, 3) := by decide +kernel
theorem dX5_readClaim_75 : decode cX5_readClaim 75 = .ok (.goto 77, 3) := by decide +kernel
theorem dX5_readClaim_78 : decode cX5_readClaim 78 = .ok (.iload_n 1, 1) := by decide +kernel
theorem dX5_readClaim_79 : decode cX5_readClaim 79 = .ok (.bipush 8, 2) := by decide +kernel
theorem dX5_readClaim_81 : decode cX5_readClaim 81 = .ok (.if_icmp .lt 11, 3) := by decide +kernel
theorem dX5_readClaim_84 : decode cX5_readClaim 84 = .ok (.aload_n 0, 1) := by decide +kernel
theorem dX5_readClaim_85 : decode cX5_readClaim 85 = .ok (.iconst 3, 1) := by decide +kernel
theorem dX5_readClaim_86 : decode cX5_readClaim 86 = .ok (.invokevirtual 61, 3) := by decide +kernel
theorem dX5_readClaim_89 : decode cX5_readClaim 89 = .ok (.goto 63, 3) := by decide +kernel
theorem dX5_readClaim_92 : decode cX5_readClaim 92 = .ok (.iload_n 2, 1) := by decide +kernel
theorem dX5_readClaim_93 : decode cX5_readClaim 93 = .ok (.sipush 258, 3) := by decide +kernel
theorem dX5_readClaim_96 : decode cX5_readClaim 96 = .ok (.if_icmp .ne 33, 3) := by decide +kernel
theorem dX5_readClaim_99 : decode cX5_readClaim 99 = .ok (.aload_n 0, 1) := by decide +kernel
theorem dX5_readClaim_100 : decode cX5_readClaim 100 = .ok (.dup, 1) := by decide +kernel
theorem dX5_readClaim_101 : decode cX5_readClaim 101 = .ok (.getfield 30, 3) := by decide +kernel
theorem dX5_readClaim_104 : decode cX5_readClaim 104 = .ok (.iconst 1, 1) := by decide +kernel
theorem dX5_readClaim_105 : decode cX5_readClaim 105 = .ok (.iadd, 1) := by decide +kernel
theorem dX5_readClaim_106 : decode cX5_readClaim 106 = .ok (.putfield 30, 3) := by decide +kernel
theorem dX5_readClaim_109 : decode cX5_readClaim 109 = .ok (.aload_n 0, 1) := by decide +kernel
theorem dX5_readClaim_110 : decode cX5_readClaim 110 = .ok (.iload_n 1, 1) := by decide +kernel
theorem dX5_readClaim_111 : decode cX5_readClaim 111 = .ok (.iconst 1, 1) := by decide +kernel
theorem dX5_readClaim_112 : decode cX5_readClaim 112 = .ok (.iadd, 1) := by decide +kernel
theorem dX5_readClaim_113 : decode cX5_readClaim 113 = .ok (.invokevirtual 97, 3) := by decide +kernel
theorem dX5_readClaim_116 : decode cX5_readClaim 116 = .ok (.aload_n 0, 1) := by decide +kernel
theorem dX5_readClaim_117 : decode cX5_readClaim 117 = .ok (.getfield 18, 3) := by decide +kernel
theorem dX5_readClaim_120 : decode cX5_readClaim 120 = .ok (.sipush 258, 3) := by decide +kernel
theorem dX5_readClaim_123 : decode cX5_readClaim 123 = .ok (.invokevirtual 94, 3) := by decide +kernel
theorem dX5_readClaim_126 : decode cX5_readClaim 126 = .ok (.goto 26, 3) := by decide +kernel
theorem dX5_readClaim_129 : decode cX5_readClaim 129 = .ok (.aload_n 0, 1) := by decide +kernel
theorem dX5_readClaim_130 : decode cX5_readClaim 130 = .ok (.dup, 1) := by decide +kernel
theorem dX5_readClaim_131 : decode cX5_readClaim 131 = .ok (.getfield 30, 3) := by decide +kernel
theorem dX5_readClaim_134 : decode cX5_readClaim 134 = .ok (.iconst 1, 1) := by decide +kernel
theorem dX5_readClaim_135 : decode cX5_readClaim 135 = .ok (.iadd, 1) := by decide +kernel
theorem dX5_readClaim_136 : decode cX5_readClaim 136 = .ok (.putfield 30, 3) := by decide +kernel
theorem dX5_readClaim_139 : decode cX5_readClaim 139 = .ok (.aload_n 0, 1) := by decide +kernel
theorem dX5_readClaim_140 : decode cX5_readClaim 140 = .ok (.iload_n 1, 1) := by decide +kernel
theorem dX5_readClaim_141 : decode cX5_readClaim 141 = .ok (.iconst 1, 1) := by decide +kernel
theorem dX5_readClaim_142 : decode cX5_readClaim 142 = .ok (.iadd, 1) := by decide +kernel
theorem dX5_readClaim_143 : decode cX5_readClaim 143 = .ok (.invokevirtual 76, 3) := by decide +kernel
theorem dX5_readClaim_146 : decode cX5_readClaim 146 = .ok (.aload_n 0, 1) := by decide +kernel
theorem dX5_readClaim_147 : decode cX5_readClaim 147 = .ok (.bipush 41, 2) := by decide +kernel
theorem dX5_readClaim_149 : decode cX5_readClaim 149 = .ok (.invokevirtual 85, 3) := by decide +kernel
theorem dX5_readClaim_152 : decode cX5_readClaim 152 = .ok (.return_, 1) := by decide +kernel
theorem dX5_readSum_0 : decode cX5_readSum 0 = .ok (.aload_n 0, 1) := by decide +kernel
theorem dX5_readSum_1 : decode cX5_readSum 1 = .ok (.invokevirtual 100, 3) := by decide +kernel
theorem dX5_readSum_4 : decode cX5_readSum 4 = .ok (.iconst 0, 1) := by decide +kernel
theorem dX5_readSum_5 : decode cX5_readSum 5 = .ok (.istore_n 1, 1) := by decide +kernel
theorem dX5_readSum_6 : decode cX5_readSum 6 = .ok (.iload_n 1, 1) := by decide +kernel
theorem dX5_readSum_7 : decode cX5_readSum 7 = .ok (.sipush 600, 3) := by decide +kernel
theorem dX5_readSum_10 : decode cX5_readSum 10 = .ok (.if_icmp .ge 54, 3) := by decide +kernel
theorem dX5_readSum_13 : decode cX5_readSum 13 = .ok (.aload_n 0, 1) := by decide +kernel
theorem dX5_readSum_14 : decode cX5_readSum 14 = .ok (.invokevirtual 44, 3) := by decide +kernel
theorem dX5_readSum_17 : decode cX5_readSum 17 = .ok (.bipush 43, 2) := by decide +kernel
theorem dX5_readSum_19 : decode cX5_readSum 19 = .ok (.if_icmp .eq 12, 3) := by decide +kernel
theorem dX5_readSum_22 : decode cX5_readSum 22 = .ok (.aload_n 0, 1) := by decide +kernel
theorem dX5_readSum_23 : decode cX5_readSum 23 = .ok (.invokevirtual 44, 3) := by decide +kernel
theorem dX5_readSum_26 : decode cX5_readSum 26 = .ok (.bipush 45, 2) := by decide +kernel
theorem dX5_readSum_28 : decode cX5_readSum 28 = .ok (.if_icmp .ne 36, 3) := by decide +kernel
theorem dX5_readSum_31 : decode cX5_readSum 31 = .ok (.aload_n 0, 1) := by decide +kernel
theorem dX5_readSum_32 : decode cX5_readSum 32 = .ok (.invokevirtual 44, 3) := by decide +kernel
theorem dX5_readSum_35 : decode cX5_readSum 35 = .ok (.istore_n 2, 1) := by decide +kernel
theorem dX5_readSum_36 : decode cX5_readSum 36 = .ok (.aload_n 0, 1) := by decide +kernel
theorem dX5_readSum_37 : decode cX5_readSum 37 = .ok (.dup, 1) := by decide +kernel
theorem dX5_readSum_38 : decode cX5_readSum 38 = .ok (.getfield 30, 3) := by decide +kernel
theorem dX5_readSum_41 : decode cX5_readSum 41 = .ok (.iconst 1, 1) := by decide +kernel
theorem dX5_readSum_42 : decode cX5_readSum 42 = .ok (.iadd, 1) := by decide +kernel
theorem dX5_readSum_43 : decode cX5_readSum 43 = .ok (.putfield 30, 3) := by decide +kernel
theorem dX5_readSum_46 : decode cX5_readSum 46 = .ok (.aload_n 0, 1) := by decide +kernel
theorem dX5_readSum_47 : decode cX5_readSum 47 = .ok (.invokevirtual 100, 3) := by decide +kernel
theorem dX5_readSum_50 : decode cX5_readSum 50 = .ok (.aload_n 0, 1) := by decide +kernel
theorem dX5_readSum_51 : decode cX5_readSum 51 = .ok (.getfield 18, 3) := by decide +kernel
theorem dX5_readSum_54 : decode cX5_readSum 54 = .ok (.iload_n 2, 1) := by decide +kernel
theorem dX5_readSum_55 : decode cX5_readSum 55 = .ok (.invokevirtual 94, 3) := by decide +kernel
theorem dX5_readSum_58 : decode cX5_readSum 58 = .ok (.iinc 1 1, 3) := by decide +kernel
theorem dX5_readSum_61 : decode cX5_readSum 61 = .ok (.goto (-55), 3) := by decide +kernel
theorem dX5_readSum_64 : decode cX5_readSum 64 = .ok (.return_, 1) := by decide +kernel
theorem dX5_readProduct_0 : decode cX5_readProduct 0 = .ok (.aload_n 0, 1) := by decide +kernel
theorem dX5_readProduct_1 : decode cX5_readProduct 1 = .ok (.invokevirtual 103, 3) := by decide +kernel
theorem dX5_readProduct_4 : decode cX5_readProduct 4 = .ok (.iconst 0, 1) := by decide +kernel
theorem dX5_readProduct_5 : decode cX5_readProduct 5 = .ok (.istore_n 1, 1) := by decide +kernel
theorem dX5_readProduct_6 : decode cX5_readProduct 6 = .ok (.iload_n 1, 1) := by decide +kernel
theorem dX5_readProduct_7 : decode cX5_readProduct 7 = .ok (.sipush 600, 3) := by decide +kernel
theorem dX5_readProduct_10 : decode cX5_readProduct 10 = .ok (.if_icmp .ge 94, 3) := by decide +kernel
theorem dX5_readProduct_13 : decode cX5_readProduct 13 = .ok (.aload_n 0, 1) := by decide +kernel
theorem dX5_readProduct_14 : decode cX5_readProduct 14 = .ok (.invokevirtual 44, 3) := by decide +kernel
theorem dX5_readProduct_17 : decode cX5_readProduct 17 = .ok (.bipush 42, 2) := by decide +kernel
theorem dX5_readProduct_19 : decode cX5_readProduct 19 = .ok (.if_icmp .eq 12, 3) := by decide +kernel
theorem dX5_readProduct_22 : decode cX5_readProduct 22 = .ok (.aload_n 0, 1) := by decide +kernel
theorem dX5_readProduct_23 : decode cX5_readProduct 23 = .ok (.invokevirtual 44, 3) := by decide +kernel
theorem dX5_readProduct_26 : decode cX5_readProduct 26 = .ok (.bipush 47, 2) := by decide +kernel
theorem dX5_readProduct_28 : decode cX5_readProduct 28 = .ok (.if_icmp .ne 76, 3) := by decide +kernel
theorem dX5_readProduct_31 : decode cX5_readProduct 31 = .ok (.aload_n 0, 1) := by decide +kernel
theorem dX5_readProduct_32 : decode cX5_readProduct 32 = .ok (.invokevirtual 44, 3) := by decide +kernel
theorem dX5_readProduct_35 : decode cX5_readProduct 35 = .ok (.istore_n 2, 1) := by decide +kernel
theorem dX5_readProduct_36 : decode cX5_readProduct 36 = .ok (.aload_n 0, 1) := by decide +kernel
theorem dX5_readProduct_37 : decode cX5_readProduct 37 = .ok (.dup, 1) := by decide +kernel
theorem dX5_readProduct_38 : decode cX5_readProduct 38 = .ok (.getfield 30, 3) := by decide +kernel
theorem dX5_readProduct_41 : decode cX5_readProduct 41 = .ok (.iconst 1, 1) := by decide +kernel
theorem dX5_readProduct_42 : decode cX5_readProduct 42 = .ok (.iadd, 1) := by decide +kernel
theorem dX5_readProduct_43 : decode cX5_readProduct 43 = .ok (.putfield 30, 3) := by decide +kernel
theorem dX5_readProduct_46 : decode cX5_readProduct 46 = .ok (.iload_n 2, 1) := by decide +kernel
theorem dX5_readProduct_47 : decode cX5_readProduct 47 = .ok (.bipush 47, 2) := by decide +kernel
theorem dX5_readProduct_49 : decode cX5_readProduct 49 = .ok (.if_icmp .ne 19, 3) := by decide +kernel
theorem dX5_readProduct_52 : decode cX5_readProduct 52 = .ok (.aload_n 0, 1) := by decide +kernel
theorem dX5_readProduct_53 : decode cX5_readProduct 53 = .ok (.invokevirtual 44, 3) := by decide +kernel
theorem dX5_readProduct_56 : decode cX5_readProduct 56 = .ok (.iconst (-1), 1) := by decide +kernel
theorem dX5_readProduct_57 : decode cX5_readProduct 57 = .ok (.if_icmp .ne 11, 3) := by decide +kernel
theorem dX5_readProduct_60 : decode cX5_readProduct 60 = .ok (.aload_n 0, 1) := by decide +kernel
theorem dX5_readProduct_61 : decode cX5_readProduct 61 = .ok (.iconst 2, 1) := by decide +kernel
theorem dX5_readProduct_62 : decode cX5_readProduct 62 = .ok (.invokevirtual 61, 3) := by decide +kernel
theorem dX5_readProduct_65 : decode cX5_readProduct 65 = .ok (.goto 21, 3) := by decide +kernel
theorem dX5_readProduct_68 : decode cX5_readProduct 68 = .ok (.iload_n 2, 1) := by decide +kernel
theorem dX5_readProduct_69 : decode cX5_readProduct 69 = .ok (.bipush 47, 2) := by decide +kernel
theorem dX5_readProduct_71 : decode cX5_readProduct 71 = .ok (.if_icmp .ne 15, 3) := by decide +kernel
theorem dX5_readProduct_74 : decode cX5_readProduct 74 = .ok (.aload_n 0, 1) := by decide +kernel
theorem dX5_readProduct_75 : decode cX5_readProduct 75 = .ok (.invokevirtual 44, 3) := by decide +kernel
theorem dX5_readProduct_78 : decode cX5_readProduct 78 = .ok (.ifCond .lt 8, 3) := by decide +kernel
theorem dX5_readProduct_81 : decode cX5_readProduct 81 = .ok (.aload_n 0, 1) := by decide +kernel
theorem dX5_readProduct_82 : decode cX5_readProduct 82 = .ok (.iconst 1, 1) := by decide +kernel
theorem dX5_readProduct_83 : decode cX5_readProduct 83 = .ok (.invokevirtual 61, 3) := by decide +kernel
theorem dX5_readProduct_86 : decode cX5_readProduct 86 = .ok (.aload_n 0, 1) := by decide +kernel
theorem dX5_readProduct_87 : decode cX5_readProduct 87 = .ok (.invokevirtual 103, 3) := by decide +kernel
theorem dX5_readProduct_90 : decode cX5_readProduct 90 = .ok (.aload_n 0, 1) := by decide +kernel
theorem dX5_readProduct_91 : decode cX5_readProduct 91 = .ok (.getfield 18, 3) := by decide +kernel
theorem dX5_readProduct_94 : decode cX5_readProduct 94 = .ok (.iload_n 2, 1) := by decide +kernel
theorem dX5_readProduct_95 : decode cX5_readProduct 95 = .ok (.invokevirtual 94, 3) := by decide +kernel
theorem dX5_readProduct_98 : decode cX5_readProduct 98 = .ok (.iinc 1 1, 3) := by decide +kernel
theorem dX5_readProduct_101 : decode cX5_readProduct 101 = .ok (.goto (-95), 3) := by decide +kernel
theorem dX5_readProduct_104 : decode cX5_readProduct 104 = .ok (.return_, 1) := by decide +kernel
theorem dX5_readPart_0 : decode cX5_readPart 0 = .ok (.aload_n 0, 1) := by decide +kernel
theorem dX5_readPart_1 : decode cX5_readPart 1 = .ok (.invokevirtual 44, 3) := by decide +kernel
theorem dX5_readPart_4 : decode cX5_readPart 4 = .ok (.istore_n 1, 1) := by decide +kernel
theorem dX5_readPart_5 : decode cX5_readPart 5 = .ok (.iload_n 1, 1) := by decide +kernel
theorem dX5_readPart_6 : decode cX5_readPart 6 = .ok (.ifCond .lt 11, 3) := by decide +kernel
theorem dX5_readPart_9 : decode cX5_readPart 9 = .ok (.aload_n 0, 1) := by decide +kernel
theorem dX5_readPart_10 : decode cX5_readPart 10 = .ok (.iload_n 1, 1) := by decide +kernel
theorem dX5_readPart_11 : decode cX5_readPart 11 = .ok (.invokevirtual 106, 3) := by decide +kernel
theorem dX5_readPart_14 : decode cX5_readPart 14 = .ok (.ifCond .eq 24, 3) := by decide +kernel
theorem dX5_readPart_17 : decode cX5_readPart 17 = .ok (.aload_n 0, 1) := by decide +kernel
theorem dX5_readPart_18 : decode cX5_readPart 18 = .ok (.getfield 18, 3) := by decide +kernel
theorem dX5_readPart_21 : decode cX5_readPart 21 = .ok (.iload_n 1, 1) := by decide +kernel
theorem dX5_readPart_22 : decode cX5_readPart 22 = .ok (.invokevirtual 94, 3) := by decide +kernel
theorem dX5_readPart_25 : decode cX5_readPart 25 = .ok (.aload_n 0, 1) := by decide +kernel
theorem dX5_readPart_26 : decode cX5_readPart 26 = .ok (.dup, 1) := by decide +kernel
theorem dX5_readPart_27 : decode cX5_readPart 27 = .ok (.getfield 30, 3) := by decide +kernel
theorem dX5_readPart_30 : decode cX5_readPart 30 = .ok (.iconst 1, 1) := by decide +kernel
theorem dX5_readPart_31 : decode cX5_readPart 31 = .ok (.iadd, 1) := by decide +kernel
theorem dX5_readPart_32 : decode cX5_readPart 32 = .ok (.putfield 30, 3) := by decide +kernel
theorem dX5_readPart_35 : decode cX5_readPart 35 = .ok (.goto 8, 3) := by decide +kernel
theorem dX5_readPart_38 : decode cX5_readPart 38 = .ok (.aload_n 0, 1) := by decide +kernel
theorem dX5_readPart_39 : decode cX5_readPart 39 = .ok (.iconst 1, 1) := by decide +kernel
theorem dX5_readPart_40 : decode cX5_readPart 40 = .ok (.invokevirtual 61, 3) := by decide +kernel
theorem dX5_readPart_43 : decode cX5_readPart 43 = .ok (.return_, 1) := by decide +kernel
theorem dX6_runs_0 : decode cX6_runs 0 = .ok (.iconst 0, 1) := by decide +kernel
theorem dX6_runs_1 : decode cX6_runs 1 = .ok (.istore 4, 2) := by decide +kernel
theorem dX6_runs_3 : decode cX6_runs 3 = .ok (.iconst 0, 1) := by decide +kernel
theorem dX6_runs_4 : decode cX6_runs 4 = .ok (.istore 5, 2) := by decide +kernel
theorem dX6_runs_6 : decode cX6_runs 6 = .ok (.iload 5, 2) := by decide +kernel
theorem dX6_runs_8 : decode cX6_runs 8 = .ok (.bipush 32, 2) := by decide +kernel
theorem dX6_runs_10 : decode cX6_runs 10 = .ok (.if_icmp .ge 65, 3) := by decide +kernel
theorem dX6_runs_13 : decode cX6_runs 13 = .ok (.aload_n 0, 1) := by decide +kernel
theorem dX6_runs_14 : decode cX6_runs 14 = .ok (.iload 5, 2) := by decide +kernel
theorem dX6_runs_16 : decode cX6_runs 16 = .ok (.iaload, 1) := by decide +kernel
theorem dX6_runs_17 : decode cX6_runs 17 = .ok (.istore 6, 2) := by decide +kernel
theorem dX6_runs_19 : decode cX6_runs 19 = .ok (.aload_n 1, 1) := by decide +kernel
theorem dX6_runs_20 : decode cX6_runs 20 = .ok (.iload 5, 2) := by decide +kernel
theorem dX6_runs_22 : decode cX6_runs 22 = .ok (.iload_n 2, 1) := by decide +kernel
theorem dX6_runs_23 : decode cX6_runs 23 = .ok (.iadd, 1) := by decide +kernel
theorem dX6_runs_24 : decode cX6_runs 24 = .ok (.bipush 31, 2) := by decide +kernel
theorem dX6_runs_26 : decode cX6_runs 26 = .ok (.iand, 1) := by decide +kernel
theorem dX6_runs_27 : decode cX6_runs 27 = .ok (.iaload, 1) := by decide +kernel
theorem dX6_runs_28 : decode cX6_runs 28 = .ok (.istore 7, 2) := by decide +kernel
theorem dX6_runs_30 : decode cX6_runs 30 = .ok (.iload 6, 2) := by decide +kernel
theorem dX6_runs_32 : decode cX6_runs 32 = .ok (.iconst (-1), 1) := by decide +kernel
theorem dX6_runs_33 : decode cX6_runs 33 = .ok (.if_icmp .eq 36, 3) := by decide +kernel
theorem dX6_runs_36 : decode cX6_runs 36 = .ok (.iload 7, 2) := by decide +kernel
theorem dX6_runs_38 : decode cX6_runs 38 = .ok (.iconst (-1), 1) := by decide +kernel
theorem dX6_runs_39 : decode cX6_runs 39 = .ok (.if_icmp .eq 30, 3) := by decide +kernel
theorem dX6_runs_42 : decode cX6_runs 42 = .ok (.iload 6, 2) := by decide +kernel
theorem dX6_runs_44 : decode cX6_runs 44 = .ok (.iload 7, 2) := by decide +kernel
theorem dX6_runs_46 : decode cX6_runs 46 = .ok (.isub, 1) := by decide +kernel
theorem dX6_runs_47 : decode cX6_runs 47 = .ok (.iload_n 3, 1) := by decide +kernel
theorem dX6_runs_48 : decode cX6_runs 48 = .ok (.if_icmp .gt 21, 3) := by decide +kernel
theorem dX6_runs_51 : decode cX6_runs 51 = .ok (.iload 7, 2) := by decide +kernel
theorem dX6_runs_53 : decode cX6_runs 53 = .ok (.iload 6, 2) := by decide +kernel
theorem dX6_runs_55 : decode cX6_runs 55 = .ok (.isub, 1) := by decide +kernel
theorem dX6_runs_56 : decode cX6_runs 56 = .ok (.iload_n 3, 1) := by decide +kernel
theorem dX6_runs_57 : decode cX6_runs 57 = .ok (.if_icmp .gt 12, 3) := by decide +kernel
theorem dX6_runs_60 : decode cX6_runs 60 = .ok (.iload 4, 2) := by decide +kernel
theorem dX6_runs_62 : decode cX6_runs 62 = .ok (.iconst 1, 1) := by decide +kernel
theorem dX6_runs_63 : decode cX6_runs 63 = .ok (.iload 5, 2) := by decide +kernel
theorem dX6_runs_65 : decode cX6_runs 65 = .ok (.ishl, 1) := by decide +kernel
theorem dX6_runs_66 : decode cX6_runs 66 = .ok (.ior, 1) := by decide +kernel
theorem dX6_runs_67 : decode cX6_runs 67 = .ok (.istore 4, 2) := by decide +kernel
theorem dX6_runs_69 : decode cX6_runs 69 = .ok (.iinc 5 1, 3) := by decide +kernel
theorem dX6_runs_72 : decode cX6_runs 72 = .ok (.goto (-66), 3) := by decide +kernel
theorem dX6_runs_75 : decode cX6_runs 75 = .ok (.iload 4, 2) := by decide +kernel
theorem dX6_runs_77 : decode cX6_runs 77 = .ok (.ireturn, 1) := by decide +kernel
theorem dX6_longestIn_0 : decode cX6_longestIn 0 = .ok (.iload_n 0, 1) := by decide +kernel
theorem dX6_longestIn_1 : decode cX6_longestIn 1 = .ok (.istore_n 1, 1) := by decide +kernel
theorem dX6_longestIn_2 : decode cX6_longestIn 2 = .ok (.iconst 0, 1) := by decide +kernel
theorem dX6_longestIn_3 : decode cX6_longestIn 3 = .ok (.istore_n 2, 1) := by decide +kernel
theorem dX6_longestIn_4 : decode cX6_longestIn 4 = .ok (.iconst 0, 1) := by decide +kernel
theorem dX6_longestIn_5 : decode cX6_longestIn 5 = .ok (.istore_n 3, 1) := by decide +kernel
theorem dX6_longestIn_6 : decode cX6_longestIn 6 = .ok (.iload_n 3, 1) := by decide +kernel
theorem dX6_longestIn_7 : decode cX6_longestIn 7 = .ok (.bipush 32, 2) := by decide +kernel
theorem dX6_longestIn_9 : decode cX6_longestIn 9 = .ok (.if_icmp .ge 27, 3) := by decide +kernel
theorem dX6_longestIn_12 : decode cX6_longestIn 12 = .ok (.iload_n 1, 1) := by decide +kernel
theorem dX6_longestIn_13 : decode cX6_longestIn 13 = .ok (.ifCond .eq 23, 3) := by decide +kernel
theorem dX6_longestIn_16 : decode cX6_longestIn 16 = .ok (.iload_n 1, 1) := by decide +kernel
theorem dX6_longestIn_17 : decode cX6_longestIn 17 = .ok (.iload_n 1, 1) := by decide +kernel
theorem dX6_longestIn_18 : decode cX6_longestIn 18 = .ok (.iconst 1, 1) := by decide +kernel
theorem dX6_longestIn_19 : decode cX6_longestIn 19 = .ok (.ishl, 1) := by decide +kernel
theorem dX6_longestIn_20 : decode cX6_longestIn 20 = .ok (.iload_n 1, 1) := by decide +kernel
theorem dX6_longestIn_21 : decode cX6_longestIn 21 = .ok (.bipush 31, 2) := by decide +kernel
theorem dX6_longestIn_23 : decode cX6_longestIn 23 = .ok (.iushr, 1) := by decide +kernel
theorem dX6_longestIn_24 : decode cX6_longestIn 24 = .ok (.ior, 1) := by decide +kernel
theorem dX6_longestIn_25 : decode cX6_longestIn 25 = .ok (.iand, 1) := by decide +kernel
theorem dX6_longestIn_26 : decode cX6_longestIn 26 = .ok (.istore_n 1, 1) := by decide +kernel
theorem dX6_longestIn_27 : decode cX6_longestIn 27 = .ok (.iinc 2 1, 3) := by decide +kernel
theorem dX6_longestIn_30 : decode cX6_longestIn 30 = .ok (.iinc 3 1, 3) := by decide +kernel
theorem dX6_longestIn_33 : decode cX6_longestIn 33 = .ok (.goto (-27), 3) := by decide +kernel
theorem dX6_longestIn_36 : decode cX6_longestIn 36 = .ok (.iload_n 2, 1) := by decide +kernel
theorem dX6_longestIn_37 : decode cX6_longestIn 37 = .ok (.ireturn, 1) := by decide +kernel
theorem dX6_measure_0 : decode cX6_measure 0 = .ok (.iconst (-1), 1) := by decide +kernel
theorem dX6_measure_1 : decode cX6_measure 1 = .ok (.istore_n 3, 1) := by decide +kernel
theorem dX6_measure_2 : decode cX6_measure 2 = .ok (.iconst 0, 1) := by decide +kernel
theorem dX6_measure_3 : decode cX6_measure 3 = .ok (.istore 4, 2) := by decide +kernel
theorem dX6_measure_5 : decode cX6_measure 5 = .ok (.iconst 0, 1) := by decide +kernel
theorem dX6_measure_6 : decode cX6_measure 6 = .ok (.istore 5, 2) := by decide +kernel
theorem dX6_measure_8 : decode cX6_measure 8 = .ok (.iconst 0, 1) := by decide +kernel
theorem dX6_measure_9 : decode cX6_measure 9 = .ok (.istore 6, 2) := by decide +kernel
theorem dX6_measure_11 : decode cX6_measure 11 = .ok (.iload 6, 2) := by decide +kernel
theorem dX6_measure_13 : decode cX6_measure 13 = .ok (.bipush 32, 2) := by decide +kernel
theorem dX6_measure_15 : decode cX6_measure 15 = .ok (.if_icmp .ge 43, 3) := by decide +kernel
theorem dX6_measure_18 : decode cX6_measure 18 = .ok (.aload_n 0, 1) := by decide +kernel
theorem dX6_measure_19 : decode cX6_measure 19 = .ok (.aload_n 1, 1) := by decide +kernel
theorem dX6_measure_20 : decode cX6_measure 20 = .ok (.iload 6, 2) := by decide +kernel
theorem dX6_measure_22 : decode cX6_measure 22 = .ok (.iload_n 2, 1) := by decide +kernel
theorem dX6_measure_23 : decode cX6_measure 23 = .ok (.invokestatic 9, 3) := by decide +kernel
theorem dX6_measure_26 : decode cX6_measure 26 = .ok (.istore 7, 2) := by decide +kernel
theorem dX6_measure_28 : decode cX6_measure 28 = .ok (.iload 7, 2) := by decide +kernel
theorem dX6_measure_30 : decode cX6_measure 30 = .ok (.invokestatic 15, 3) := by decide +kernel
theorem dX6_measure_33 : decode cX6_measure 33 = .ok (.istore 8, 2) := by decide +kernel
theorem dX6_measure_35 : decode cX6_measure 35 = .ok (.iload 8, 2) := by decide +kernel
theorem dX6_measure_37 : decode cX6_measure 37 = .ok (.iload_n 3, 1) := by decide +kernel
theorem dX6_measure_38 : decode cX6_measure 38 = .ok (.if_icmp .le 14, 3) := by decide +kernel
theorem dX6_measure_41 : decode cX6_measure 41 = .ok (.iload 8, 2) := by decide +kernel
theorem dX6_measure_43 : decode cX6_measure 43 = .ok (.istore_n 3, 1) := by decide +kernel
theorem dX6_measure_44 : decode cX6_measure 44 = .ok (.iload 6, 2) := by decide +kernel
theorem dX6_measure_46 : decode cX6_measure 46 = .ok (.istore 4, 2) := by decide +kernel
theorem dX6_measure_48 : decode cX6_measure 48 = .ok (.iload 7, 2) := by decide +kernel
theorem dX6_measure_50 : decode cX6_measure 50 = .ok (.istore 5, 2) := by decide +kernel
theorem dX6_measure_52 : decode cX6_measure 52 = .ok (.iinc 6 1, 3) := by decide +kernel
theorem dX6_measure_55 : decode cX6_measure 55 = .ok (.goto (-44), 3) := by decide +kernel
theorem dX6_measure_58 : decode cX6_measure 58 = .ok (.iload_n 3, 1) := by decide +kernel
theorem dX6_measure_59 : decode cX6_measure 59 = .ok (.iload 4, 2) := by decide +kernel
theorem dX6_measure_61 : decode cX6_measure 61 = .ok (.iload 5, 2) := by decide +kernel
theorem dX6_measure_63 : decode cX6_measure 63 = .ok (.invokestatic 21, 3) := by decide +kernel
theorem dX6_measure_66 : decode cX6_measure 66 = .ok (.invokestatic 24, 3) := by decide +kernel
theorem dX6_measure_69 : decode cX6_measure 69 = .ok (.ireturn, 1) := by decide +kernel
theorem dX6_pieces_0 : decode cX6_pieces 0 = .ok (.aload_n 3, 1) := by decide +kernel
theorem dX6_pieces_1 : decode cX6_pieces 1 = .ok (.getfield 30, 3) := by decide +kernel
theorem dX6_pieces_4 : decode cX6_pieces 4 = .ok (.iconst 0, 1) := by decide +kernel
theorem dX6_pieces_5 : decode cX6_pieces 5 = .ok (.invokestatic 36, 3) := by decide +kernel
theorem dX6_pieces_8 : decode cX6_pieces 8 = .ok (.iconst 0, 1) := by decide +kernel
theorem dX6_pieces_9 : decode cX6_pieces 9 = .ok (.istore 4, 2) := by decide +kernel
theorem dX6_pieces_11 : decode cX6_pieces 11 = .ok (.iload 4, 2) := by decide +kernel
theorem dX6_pieces_13 : decode cX6_pieces 13 = .ok (.bipush 32, 2) := by decide +kernel
theorem dX6_pieces_15 : decode cX6_pieces 15 = .ok (.if_icmp .ge 24, 3) := by decide +kernel
theorem dX6_pieces_18 : decode cX6_pieces 18 = .ok (.aload_n 3, 1) := by decide +kernel
theorem dX6_pieces_19 : decode cX6_pieces 19 = .ok (.getfield 42, 3) := by decide +kernel
theorem dX6_pieces_22 : decode cX6_pieces 22 = .ok (.iload 4, 2) := by decide +kernel
theorem dX6_pieces_24 : decode cX6_pieces 24 = .ok (.aload_n 0, 1) := by decide +kernel
theorem dX6_pieces_25 : decode cX6_pieces 25 = .ok (.aload_n 1, 1) := by decide +kernel
theorem dX6_pieces_26 : decode cX6_pieces 26 = .ok (.iload 4, 2) := by decide +kernel
theorem dX6_pieces_28 : decode cX6_pieces 28 = .ok (.iload_n 2, 1) := by decide +kernel
theorem dX6_pieces_29 : decode cX6_pieces 29 = .ok (.invokestatic 9, 3) := by decide +kernel
theorem dX6_pieces_32 : decode cX6_pieces 32 = .ok (.iastore, 1) := by decide +kernel
theorem dX6_pieces_33 : decode cX6_pieces 33 = .ok (.iinc 4 1, 3) := by decide +kernel
theorem dX6_pieces_36 : decode cX6_pieces 36 = .ok (.goto (-25), 3) := by decide +kernel
theorem dX6_pieces_39 : decode cX6_pieces 39 = .ok (.iconst 0, 1) := by decide +kernel
theorem dX6_pieces_40 : decode cX6_pieces 40 = .ok (.istore 4, 2) := by decide +kernel
theorem dX6_pieces_42 : decode cX6_pieces 42 = .ok (.iload 4, 2) := by decide +kernel
theorem dX6_pieces_44 : decode cX6_pieces 44 = .ok (.bipush 32, 2) := by decide +kernel
theorem dX6_pieces_46 : decode cX6_pieces 46 = .ok (.if_icmp .ge 41, 3) := by decide +kernel
theorem dX6_pieces_49 : decode cX6_pieces 49 = .ok (.iconst 3, 1) := by decide +kernel
theorem dX6_pieces_50 : decode cX6_pieces 50 = .ok (.istore 5, 2) := by decide +kernel
theorem dX6_pieces_52 : decode cX6_pieces 52 = .ok (.iload 5, 2) := by decide +kernel
theorem dX6_pieces_54 : decode cX6_pieces 54 = .ok (.ifCond .lt 27, 3) := by decide +kernel
theorem dX6_pieces_57 : decode cX6_pieces 57 = .ok (.iload 4, 2) := by decide +kernel
theorem dX6_pieces_59 : decode cX6_pieces 59 = .ok (.iload 5, 2) := by decide +kernel
theorem dX6_pieces_61 : decode cX6_pieces 61 = .ok (.bipush 32, 2) := by decide +kernel
theorem dX6_pieces_63 : decode cX6_pieces 63 = .ok (.imul, 1) := by decide +kernel
theorem dX6_pieces_64 : decode cX6_pieces 64 = .ok (.aload_n 3, 1) := by decide +kernel
theorem dX6_pieces_65 : decode cX6_pieces 65 = .ok (.getfield 42, 3) := by decide +kernel
theorem dX6_pieces_68 : decode cX6_pieces 68 = .ok (.aload_n 3, 1) := by decide +kernel
theorem dX6_pieces_69 : decode cX6_pieces 69 = .ok (.getfield 30, 3) := by decide +kernel
theorem dX6_pieces_72 : decode cX6_pieces 72 = .ok (.invokestatic 45, 3) := by decide +kernel
theorem dX6_pieces_75 : decode cX6_pieces 75 = .ok (.iinc 5 (-1), 3) := by decide +kernel
theorem dX6_pieces_78 : decode cX6_pieces 78 = .ok (.goto (-26), 3) := by decide +kernel
theorem dX6_pieces_81 : decode cX6_pieces 81 = .ok (.iinc 4 1, 3) := by decide +kernel
theorem dX6_pieces_84 : decode cX6_pieces 84 = .ok (.goto (-42), 3) := by decide +kernel
theorem dX6_pieces_87 : decode cX6_pieces 87 = .ok (.iconst 0, 1) := by decide +kernel
theorem dX6_pieces_88 : decode cX6_pieces 88 = .ok (.istore 4, 2) := by decide +kernel
theorem dX6_pieces_90 : decode cX6_pieces 90 = .ok (.iconst 0, 1) := by decide +kernel
theorem dX6_pieces_91 : decode cX6_pieces 91 = .ok (.istore 5, 2) := by decide +kernel
theorem dX6_pieces_93 : decode cX6_pieces 93 = .ok (.iload 5, 2) := by decide +kernel
theorem dX6_pieces_95 : decode cX6_pieces 95 = .ok (.bipush 32, 2) := by decide +kernel
theorem dX6_pieces_97 : decode cX6_pieces 97 = .ok (.if_icmp .ge 26, 3) := by decide +kernel
theorem dX6_pieces_100 : decode cX6_pieces 100 = .ok (.iload 4, 2) := by decide +kernel
theorem dX6_pieces_102 : decode cX6_pieces 102 = .ok (.aload_n 3, 1) := by decide +kernel
theorem dX6_pieces_103 : decode cX6_pieces 103 = .ok (.getfield 30, 3) := by decide +kernel
theorem dX6_pieces_106 : decode cX6_pieces 106 = .ok (.bipush 96, 2) := by decide +kernel
theorem dX6_pieces_108 : decode cX6_pieces 108 = .ok (.iload 5, 2) := by decide +kernel
theorem dX6_pieces_110 : decode cX6_pieces 110 = .ok (.iadd, 1) := by decide +kernel
theorem dX6_pieces_111 : decode cX6_pieces 111 = .ok (.iaload, 1) := by decide +kernel
theorem dX6_pieces_112 : decode cX6_pieces 112 = .ok (.invokestatic 49, 3) := by decide +kernel
theorem dX6_pieces_115 : decode cX6_pieces 115 = .ok (.istore 4, 2) := by decide +kernel
theorem dX6_pieces_117 : decode cX6_pieces 117 = .ok (.iinc 5 1, 3) := by decide +kernel
theorem dX6_pieces_120 : decode cX6_pieces 120 = .ok (.goto (-27), 3) := by decide +kernel
theorem dX6_pieces_123 : decode cX6_pieces 123 = .ok (.iload 4, 2) := by decide +kernel
theorem dX6_pieces_125 : decode cX6_pieces 125 = .ok (.ireturn, 1) := by decide +kernel
theorem dX6_addHair_0 : decode cX6_addHair 0 = .ok (.iload_n 1, 1) := by decide +kernel
theorem dX6_addHair_1 : decode cX6_addHair 1 = .ok (.bipush 32, 2) := by decide +kernel
theorem dX6_addHair_3 : decode cX6_addHair 3 = .ok (.isub, 1) := by decide +kernel
theorem dX6_addHair_4 : decode cX6_addHair 4 = .ok (.istore 4, 2) := by decide +kernel
theorem dX6_addHair_6 : decode cX6_addHair 6 = .ok (.iconst 0, 1) := by decide +kernel
theorem dX6_addHair_7 : decode cX6_addHair 7 = .ok (.istore 5, 2) := by decide +kernel
theorem dX6_addHair_9 : decode cX6_addHair 9 = .ok (.iload 5, 2) := by decide +kernel
theorem dX6_addHair_11 : decode cX6_addHair 11 = .ok (.bipush 32, 2) := by decide +kernel
theorem dX6_addHair_13 : decode cX6_addHair 13 = .ok (.if_icmp .ge 77, 3) := by decide +kernel
theorem dX6_addHair_16 : decode cX6_addHair 16 = .ok (.aload_n 3, 1) := by decide +kernel
theorem dX6_addHair_17 : decode cX6_addHair 17 = .ok (.iload_n 1, 1) := by decide +kernel
theorem dX6_addHair_18 : decode cX6_addHair 18 = .ok (.iload 5, 2) := by decide +kernel
theorem dX6_addHair_20 : decode cX6_addHair 20 = .ok (.iadd, 1) := by decide +kernel
theorem dX6_addHair_21 : decode cX6_addHair 21 = .ok (.iaload, 1) := by decide +kernel
theorem dX6_addHair_22 : decode cX6_addHair 22 = .ok (.istore 6, 2) := by decide +kernel
theorem dX6_addHair_24 : decode cX6_addHair 24 = .ok (.iload 4, 2) := by decide +kernel
theorem dX6_addHair_26 : decode cX6_addHair 26 = .ok (.ifCond .lt 41, 3) := by decide +kernel
theorem dX6_addHair_29 : decode cX6_addHair 29 = .ok (.iload 6, 2) := by decide +kernel
theorem dX6_addHair_31 : decode cX6_addHair 31 = .ok (.aload_n 3, 1) := by decide +kernel
theorem dX6_addHair_32 : decode cX6_addHair 32 = .ok (.iload 4, 2) := by decide +kernel
theorem dX6_addHair_34 : decode cX6_addHair 34 = .ok (.iload 5, 2) := by decide +kernel
theorem dX6_addHair_36 : decode cX6_addHair 36 = .ok (.iconst 1, 1) := by decide +kernel
theorem dX6_addHair_37 : decode cX6_addHair 37 = .ok (.isub, 1) := by decide +kernel
theorem dX6_addHair_38 : decode cX6_addHair 38 = .ok (.bipush 31, 2) := by decide +kernel
theorem dX6_addHair_40 : decode cX6_addHair 40 = .ok (.iand, 1) := by decide +kernel
theorem dX6_addHair_41 : decode cX6_addHair 41 = .ok (.iadd, 1) := by decide +kernel
theorem dX6_addHair_42 : decode cX6_addHair 42 = .ok (.iaload, 1) := by decide +kernel
theorem dX6_addHair_43 : decode cX6_addHair 43 = .ok (.invokestatic 49, 3) := by decide +kernel
theorem dX6_addHair_46 : decode cX6_addHair 46 = .ok (.istore 6, 2) := by decide +kernel
theorem dX6_addHair_48 : decode cX6_addHair 48 = .ok (.iload 6, 2) := by decide +kernel
theorem dX6_addHair_50 : decode cX6_addHair 50 = .ok (.aload_n 3, 1) := by decide +kernel
theorem dX6_addHair_51 : decode cX6_addHair 51 = .ok (.iload 4, 2) := by decide +kernel
theorem dX6_addHair_53 : decode cX6_addHair 53 = .ok (.iload 5, 2) := by decide +kernel
theorem dX6_addHair_55 : decode cX6_addHair 55 = .ok (.iconst 1, 1) := by decide +kernel
theorem dX6_addHair_56 : decode cX6_addHair 56 = .ok (.iadd, 1) := by decide +kernel
theorem dX6_addHair_57 : decode cX6_addHair 57 = .ok (.bipush 31, 2) := by decide +kernel
theorem dX6_addHair_59 : decode cX6_addHair 59 = .ok (.iand, 1) := by decide +kernel
theorem dX6_addHair_60 : decode cX6_addHair 60 = .ok (.iadd, 1) := by decide +kernel
theorem dX6_addHair_61 : decode cX6_addHair 61 = .ok (.iaload, 1) := by decide +kernel
theorem dX6_addHair_62 : decode cX6_addHair 62 = .ok (.invokestatic 49, 3) := by decide +kernel
theorem dX6_addHair_65 : decode cX6_addHair 65 = .ok (.istore 6, 2) := by decide +kernel
theorem dX6_addHair_67 : decode cX6_addHair 67 = .ok (.aload_n 3, 1) := by decide +kernel
theorem dX6_addHair_68 : decode cX6_addHair 68 = .ok (.iload_n 1, 1) := by decide +kernel
theorem dX6_addHair_69 : decode cX6_addHair 69 = .ok (.iload 5, 2) := by decide +kernel
theorem dX6_addHair_71 : decode cX6_addHair 71 = .ok (.iadd, 1) := by decide +kernel
theorem dX6_addHair_72 : decode cX6_addHair 72 = .ok (.iload 6, 2) := by decide +kernel
theorem dX6_addHair_74 : decode cX6_addHair 74 = .ok (.aload_n 2, 1) := by decide +kernel
theorem dX6_addHair_75 : decode cX6_addHair 75 = .ok (.iload 5, 2) := by decide +kernel
theorem dX6_addHair_77 : decode cX6_addHair 77 = .ok (.iaload, 1) := by decide +kernel
theorem dX6_addHair_78 : decode cX6_addHair 78 = .ok (.iload_n 0, 1) := by decide +kernel
theorem dX6_addHair_79 : decode cX6_addHair 79 = .ok (.iushr, 1) := by decide +kernel
theorem dX6_addHair_80 : decode cX6_addHair 80 = .ok (.iconst 1, 1) := by decide +kernel
theorem dX6_addHair_81 : decode cX6_addHair 81 = .ok (.iand, 1) := by decide +kernel
theorem dX6_addHair_82 : decode cX6_addHair 82 = .ok (.iadd, 1) := by decide +kernel
theorem dX6_addHair_83 : decode cX6_addHair 83 = .ok (.iastore, 1) := by decide +kernel
theorem dX6_addHair_84 : decode cX6_addHair 84 = .ok (.iinc 5 1, 3) := by decide +kernel
theorem dX6_addHair_87 : decode cX6_addHair 87 = .ok (.goto (-78), 3) := by decide +kernel
theorem dX6_addHair_90 : decode cX6_addHair 90 = .ok (.return_, 1) := by decide +kernel
theorem dX7_init_0 : decode cX7_init 0 = .ok (.aload_n 0, 1) := by decide +kernel
theorem dX7_init_1 : decode cX7_init 1 = .ok (.invokespecial 3, 3) := by decide +kernel
theorem dX7_init_4 : decode cX7_init 4 = .ok (.aload_n 0, 1) := by decide +kernel
theorem dX7_init_5 : decode cX7_init 5 = .ok (.bipush 16, 2) := by decide +kernel
theorem dX7_init_7 : decode cX7_init 7 = .ok (.newarray .int, 2) := by decide +kernel
theorem dX7_init_9 : decode cX7_init 9 = .ok (.putfield 9, 3) := by decide +kernel
theorem dX7_init_12 : decode cX7_init 12 = .ok (.aload_n 0, 1) := by decide +kernel
theorem dX7_init_13 : decode cX7_init 13 = .ok (.bipush 16, 2) := by decide +kernel
theorem dX7_init_15 : decode cX7_init 15 = .ok (.newarray .int, 2) := by decide +kernel
theorem dX7_init_17 : decode cX7_init 17 = .ok (.putfield 15, 3) := by decide +kernel
theorem dX7_init_20 : decode cX7_init 20 = .ok (.aload_n 0, 1) := by decide +kernel
theorem dX7_init_21 : decode cX7_init 21 = .ok (.bipush 16, 2) := by decide +kernel
theorem dX7_init_23 : decode cX7_init 23 = .ok (.newarray .int, 2) := by decide +kernel
theorem dX7_init_25 : decode cX7_init 25 = .ok (.putfield 18, 3) := by decide +kernel
theorem dX7_init_28 : decode cX7_init 28 = .ok (.aload_n 0, 1) := by decide +kernel
theorem dX7_init_29 : decode cX7_init 29 = .ok (.bipush 16, 2) := by decide +kernel
theorem dX7_init_31 : decode cX7_init 31 = .ok (.newarray .int, 2) := by decide +kernel
theorem dX7_init_33 : decode cX7_init 33 = .ok (.putfield 21, 3) := by decide +kernel
theorem dX7_init_36 : decode cX7_init 36 = .ok (.aload_n 0, 1) := by decide +kernel
theorem dX7_init_37 : decode cX7_init 37 = .ok (.sipush 600, 3) := by decide +kernel
theorem dX7_init_40 : decode cX7_init 40 = .ok (.newarray .int, 2) := by decide +kernel
theorem dX7_init_42 : decode cX7_init 42 = .ok (.putfield 24, 3) := by decide +kernel
theorem dX7_init_45 : decode cX7_init 45 = .ok (.aload_n 0, 1) := by decide +kernel
theorem dX7_init_46 : decode cX7_init 46 = .ok (.bipush 32, 2) := by decide +kernel
theorem dX7_init_48 : decode cX7_init 48 = .ok (.newarray .int, 2) := by decide +kernel
theorem dX7_init_50 : decode cX7_init 50 = .ok (.putfield 27, 3) := by decide +kernel
theorem dX7_init_53 : decode cX7_init 53 = .ok (.return_, 1) := by decide +kernel
theorem dX7_clear_0 : decode cX7_clear 0 = .ok (.aload_n 0, 1) := by decide +kernel
theorem dX7_clear_1 : decode cX7_clear 1 = .ok (.iconst 0, 1) := by decide +kernel
theorem dX7_clear_2 : decode cX7_clear 2 = .ok (.putfield 30, 3) := by decide +kernel
theorem dX7_clear_5 : decode cX7_clear 5 = .ok (.aload_n 0, 1) := by decide +kernel
theorem dX7_clear_6 : decode cX7_clear 6 = .ok (.iconst 0, 1) := by decide +kernel
theorem dX7_clear_7 : decode cX7_clear 7 = .ok (.putfield 34, 3) := by decide +kernel
theorem dX7_clear_10 : decode cX7_clear 10 = .ok (.aload_n 0, 1) := by decide +kernel
theorem dX7_clear_11 : decode cX7_clear 11 = .ok (.iconst 0, 1) := by decide +kernel
theorem dX7_clear_12 : decode cX7_clear 12 = .ok (.putfield 37, 3) := by decide +kernel
theorem dX7_clear_15 : decode cX7_clear 15 = .ok (.return_, 1) := by decide +kernel
theorem dX7_isFull_0 : decode cX7_isFull 0 = .ok (.aload_n 0, 1) := by decide +kernel
theorem dX7_isFull_1 : decode cX7_isFull 1 = .ok (.getfield 34, 3) := by decide +kernel
theorem dX7_isFull_4 : decode cX7_isFull 4 = .ok (.bipush 16, 2) := by decide +kernel
theorem dX7_isFull_6 : decode cX7_isFull 6 = .ok (.if_icmp .lt 7, 3) := by decide +kernel
theorem dX7_isFull_9 : decode cX7_isFull 9 = .ok (.iconst 1, 1) := by decide +kernel
theorem dX7_isFull_10 : decode cX7_isFull 10 = .ok (.goto 4, 3) := by decide +kernel
theorem dX7_isFull_13 : decode cX7_isFull 13 = .ok (.iconst 0, 1) := by decide +kernel
theorem dX7_isFull_14 : decode cX7_isFull 14 = .ok (.ireturn, 1) := by decide +kernel
theorem dX7_beginLine_0 : decode cX7_beginLine 0 = .ok (.aload_n 0, 1) := by decide +kernel
theorem dX7_beginLine_1 : decode cX7_beginLine 1 = .ok (.invokevirtual 41, 3) := by decide +kernel
theorem dX7_beginLine_4 : decode cX7_beginLine 4 = .ok (.ifCond .ne 39, 3) := by decide +kernel
theorem dX7_beginLine_7 : decode cX7_beginLine 7 = .ok (.aload_n 0, 1) := by decide +kernel
theorem dX7_beginLine_8 : decode cX7_beginLine 8 = .ok (.getfield 9, 3) := by decide +kernel
theorem dX7_beginLine_11 : decode cX7_beginLine 11 = .ok (.aload_n 0, 1) := by decide +kernel
theorem dX7_beginLine_12 : decode cX7_beginLine 12 = .ok (.getfield 34, 3) := by decide +kernel
theorem dX7_beginLine_15 : decode cX7_beginLine 15 = .ok (.iload_n 1, 1) := by decide +kernel
theorem dX7_beginLine_16 : decode cX7_beginLine 16 = .ok (.iastore, 1) := by decide +kernel
theorem dX7_beginLine_17 : decode cX7_beginLine 17 = .ok (.aload_n 0, 1) := by decide +kernel
theorem dX7_beginLine_18 : decode cX7_beginLine 18 = .ok (.getfield 15, 3) := by decide +kernel
theorem dX7_beginLine_21 : decode cX7_beginLine 21 = .ok (.aload_n 0, 1) := by decide +kernel
theorem dX7_beginLine_22 : decode cX7_beginLine 22 = .ok (.getfield 34, 3) := by decide +kernel
theorem dX7_beginLine_25 : decode cX7_beginLine 25 = .ok (.aload_n 0, 1) := by decide +kernel
theorem dX7_beginLine_26 : decode cX7_beginLine 26 = .ok (.getfield 30, 3) := by decide +kernel
theorem dX7_beginLine_29 : decode cX7_beginLine 29 = .ok (.iastore, 1) := by decide +kernel
theorem dX7_beginLine_30 : decode cX7_beginLine 30 = .ok (.aload_n 0, 1) := by decide +kernel
theorem dX7_beginLine_31 : decode cX7_beginLine 31 = .ok (.getfield 18, 3) := by decide +kernel
theorem dX7_beginLine_34 : decode cX7_beginLine 34 = .ok (.aload_n 0, 1) := by decide +kernel
theorem dX7_beginLine_35 : decode cX7_beginLine 35 = .ok (.getfield 34, 3) := by decide +kernel
theorem dX7_beginLine_38 : decode cX7_beginLine 38 = .ok (.aload_n 0, 1) := by decide +kernel
theorem dX7_beginLine_39 : decode cX7_beginLine 39 = .ok (.getfield 30, 3) := by decide +kernel
theorem dX7_beginLine_42 : decode cX7_beginLine 42 = .ok (.iastore, 1) := by decide +kernel
theorem dX7_beginLine_43 : decode cX7_beginLine 43 = .ok (.return_, 1) := by decide +kernel
theorem dX7_beginClaim_0 : decode cX7_beginClaim 0 = .ok (.aload_n 0, 1) := by decide +kernel
theorem dX7_beginClaim_1 : decode cX7_beginClaim 1 = .ok (.invokevirtual 41, 3) := by decide +kernel
theorem dX7_beginClaim_4 : decode cX7_beginClaim 4 = .ok (.ifCond .ne 16, 3) := by decide +kernel
theorem dX7_beginClaim_7 : decode cX7_beginClaim 7 = .ok (.aload_n 0, 1) := by decide +kernel
theorem dX7_beginClaim_8 : decode cX7_beginClaim 8 = .ok (.getfield 18, 3) := by decide +kernel
theorem dX7_beginClaim_11 : decode cX7_beginClaim 11 = .ok (.aload_n 0, 1) := by decide +kernel
theorem dX7_beginClaim_12 : decode cX7_beginClaim 12 = .ok (.getfield 34, 3) := by decide +kernel
theorem dX7_beginClaim_15 : decode cX7_beginClaim 15 = .ok (.aload_n 0, 1) := by decide +kernel
theorem dX7_beginClaim_16 : decode cX7_beginClaim 16 = .ok (.getfield 30, 3) := by decide +kernel
theorem dX7_beginClaim_19 : decode cX7_beginClaim 19 = .ok (.iastore, 1) := by decide +kernel
theorem dX7_beginClaim_20 : decode cX7_beginClaim 20 = .ok (.return_, 1) := by decide +kernel
theorem dX7_finishLine_0 : decode cX7_finishLine 0 = .ok (.aload_n 0, 1) := by decide +kernel
theorem dX7_finishLine_1 : decode cX7_finishLine 1 = .ok (.invokevirtual 41, 3) := by decide +kernel
theorem dX7_finishLine_4 : decode cX7_finishLine 4 = .ok (.ifCond .ne 26, 3) := by decide +kernel
theorem dX7_finishLine_7 : decode cX7_finishLine 7 = .ok (.aload_n 0, 1) := by decide +kernel
theorem dX7_finishLine_8 : decode cX7_finishLine 8 = .ok (.getfield 21, 3) := by decide +kernel
theorem dX7_finishLine_11 : decode cX7_finishLine 11 = .ok (.aload_n 0, 1) := by decide +kernel
theorem dX7_finishLine_12 : decode cX7_finishLine 12 = .ok (.getfield 34, 3) := by decide +kernel
theorem dX7_finishLine_15 : decode cX7_finishLine 15 = .ok (.aload_n 0, 1) := by decide +kernel
theorem dX7_finishLine_16 : decode cX7_finishLine 16 = .ok (.getfield 30, 3) := by decide +kernel
theorem dX7_finishLine_19 : decode cX7_finishLine 19 = .ok (.iastore, 1) := by decide +kernel
theorem dX7_finishLine_20 : decode cX7_finishLine 20 = .ok (.aload_n 0, 1) := by decide +kernel
theorem dX7_finishLine_21 : decode cX7_finishLine 21 = .ok (.dup, 1) := by decide +kernel
theorem dX7_finishLine_22 : decode cX7_finishLine 22 = .ok (.getfield 34, 3) := by decide +kernel
theorem dX7_finishLine_25 : decode cX7_finishLine 25 = .ok (.iconst 1, 1) := by decide +kernel
theorem dX7_finishLine_26 : decode cX7_finishLine 26 = .ok (.iadd, 1) := by decide +kernel
theorem dX7_finishLine_27 : decode cX7_finishLine 27 = .ok (.putfield 34, 3) := by decide +kernel
theorem dX7_finishLine_30 : decode cX7_finishLine 30 = .ok (.return_, 1) := by decide +kernel
theorem dX7_put_0 : decode cX7_put 0 = .ok (.aload_n 0, 1) := by decide +kernel
theorem dX7_put_1 : decode cX7_put 1 = .ok (.getfield 30, 3) := by decide +kernel
theorem dX7_put_4 : decode cX7_put 4 = .ok (.aload_n 0, 1) := by decide +kernel
theorem dX7_put_5 : decode cX7_put 5 = .ok (.getfield 24, 3) := by decide +kernel
theorem dX7_put_8 : decode cX7_put 8 = .ok (.arraylength, 1) := by decide +kernel
theorem dX7_put_9 : decode cX7_put 9 = .ok (.if_icmp .ge 46, 3) := by decide +kernel
theorem dX7_put_12 : decode cX7_put 12 = .ok (.aload_n 0, 1) := by decide +kernel
theorem dX7_put_13 : decode cX7_put 13 = .ok (.getfield 24, 3) := by decide +kernel
theorem dX7_put_16 : decode cX7_put 16 = .ok (.aload_n 0, 1) := by decide +kernel
theorem dX7_put_17 : decode cX7_put 17 = .ok (.getfield 30, 3) := by decide +kernel
theorem dX7_put_20 : decode cX7_put 20 = .ok (.iload_n 1, 1) := by decide +kernel
theorem dX7_put_21 : decode cX7_put 21 = .ok (.iastore, 1) := by decide +kernel
theorem dX7_put_22 : decode cX7_put 22 = .ok (.aload_n 0, 1) := by decide +kernel
theorem dX7_put_23 : decode cX7_put 23 = .ok (.dup, 1) := by decide +kernel
theorem dX7_put_24 : decode cX7_put 24 = .ok (.getfield 30, 3) := by decide +kernel
theorem dX7_put_27 : decode cX7_put 27 = .ok (.iconst 1, 1) := by decide +kernel
theorem dX7_put_28 : decode cX7_put 28 = .ok (.iadd, 1) := by decide +kernel
theorem dX7_put_29 : decode cX7_put 29 = .ok (.putfield 30, 3) := by decide +kernel
theorem dX7_put_32 : decode cX7_put 32 = .ok (.aload_n 0, 1) := by decide +kernel
theorem dX7_put_33 : decode cX7_put 33 = .ok (.aload_n 0, 1) := by decide +kernel
theorem dX7_put_34 : decode cX7_put 34 = .ok (.getfield 37, 3) := by decide +kernel
theorem dX7_put_37 : decode cX7_put 37 = .ok (.ifCond .ne 10, 3) := by decide +kernel
theorem dX7_put_40 : decode cX7_put 40 = .ok (.iload_n 1, 1) := by decide +kernel
theorem dX7_put_41 : decode cX7_put 41 = .ok (.sipush 276, 3) := by decide +kernel
theorem dX7_put_44 : decode cX7_put 44 = .ok (.if_icmp .ne 7, 3) := by decide +kernel
theorem dX7_put_47 : decode cX7_put 47 = .ok (.iconst 1, 1) := by decide +kernel
theorem dX7_put_48 : decode cX7_put 48 = .ok (.goto 4, 3) := by decide +kernel
theorem dX7_put_51 : decode cX7_put 51 = .ok (.iconst 0, 1) := by decide +kernel
theorem dX7_put_52 : decode cX7_put 52 = .ok (.putfield 37, 3) := by decide +kernel
theorem dX7_put_55 : decode cX7_put 55 = .ok (.return_, 1) := by decide +kernel
theorem dX7_isSo_0 : decode cX7_isSo 0 = .ok (.aload_n 0, 1) := by decide +kernel
theorem dX7_isSo_1 : decode cX7_isSo 1 = .ok (.getfield 18, 3) := by decide +kernel
theorem dX7_isSo_4 : decode cX7_isSo 4 = .ok (.iload_n 1, 1) := by decide +kernel
theorem dX7_isSo_5 : decode cX7_isSo 5 = .ok (.iaload, 1) := by decide +kernel
theorem dX7_isSo_6 : decode cX7_isSo 6 = .ok (.aload_n 0, 1) := by decide +kernel
theorem dX7_isSo_7 : decode cX7_isSo 7 = .ok (.getfield 21, 3) := by decide +kernel
theorem dX7_isSo_10 : decode cX7_isSo 10 = .ok (.iload_n 1, 1) := by decide +kernel
theorem dX7_isSo_11 : decode cX7_isSo 11 = .ok (.iaload, 1) := by decide +kernel
theorem dX7_isSo_12 : decode cX7_isSo 12 = .ok (.if_icmp .eq 23, 3) := by decide +kernel
theorem dX7_isSo_15 : decode cX7_isSo 15 = .ok (.aload_n 0, 1) := by decide +kernel
theorem dX7_isSo_16 : decode cX7_isSo 16 = .ok (.aload_n 0, 1) := by decide +kernel
theorem dX7_isSo_17 : decode cX7_isSo 17 = .ok (.getfield 18, 3) := by decide +kernel
theorem dX7_isSo_20 : decode cX7_isSo 20 = .ok (.iload_n 1, 1) := by decide +kernel
theorem dX7_isSo_21 : decode cX7_isSo 21 = .ok (.iaload, 1) := by decide +kernel
theorem dX7_isSo_22 : decode cX7_isSo 22 = .ok (.aload_n 0, 1) := by decide +kernel
theorem dX7_isSo_23 : decode cX7_isSo 23 = .ok (.getfield 21, 3) := by decide +kernel
theorem dX7_isSo_26 : decode cX7_isSo 26 = .ok (.iload_n 1, 1) := by decide +kernel
theorem dX7_isSo_27 : decode cX7_isSo 27 = .ok (.iaload, 1) := by decide +kernel
theorem dX7_isSo_28 : decode cX7_isSo 28 = .ok (.aload_n 2, 1) := by decide +kernel
theorem dX7_isSo_29 : decode cX7_isSo 29 = .ok (.invokevirtual 45, 3) := by decide +kernel
theorem dX7_isSo_32 : decode cX7_isSo 32 = .ok (.ifCond .eq 7, 3) := by decide +kernel
theorem dX7_isSo_35 : decode cX7_isSo 35 = .ok (.iconst 1, 1) := by decide +kernel
theorem dX7_isSo_36 : decode cX7_isSo 36 = .ok (.goto 4, 3) := by decide +kernel
theorem dX7_isSo_39 : decode cX7_isSo 39 = .ok (.iconst 0, 1) := by decide +kernel
theorem dX7_isSo_40 : decode cX7_isSo 40 = .ok (.ireturn, 1) := by decide +kernel
theorem dX7_change_0 : decode cX7_change 0 = .ok (.iload_n 3, 1) := by decide +kernel
theorem dX7_change_1 : decode cX7_change 1 = .ok (.istore 5, 2) := by decide +kernel
theorem dX7_change_3 : decode cX7_change 3 = .ok (.aload_n 1, 1) := by decide +kernel
theorem dX7_change_4 : decode cX7_change 4 = .ok (.iconst 0, 1) := by decide +kernel
theorem dX7_change_5 : decode cX7_change 5 = .ok (.aload 4, 2) := by decide +kernel
theorem dX7_change_7 : decode cX7_change 7 = .ok (.getfield 49, 3) := by decide +kernel
theorem dX7_change_10 : decode cX7_change 10 = .ok (.iconst 0, 1) := by decide +kernel
theorem dX7_change_11 : decode cX7_change 11 = .ok (.bipush 32, 2) := by decide +kernel
theorem dX7_change_13 : decode cX7_change 13 = .ok (.invokestatic 54, 3) := by decide +kernel
theorem dX7_change_16 : decode cX7_change 16 = .ok (.iconst 0, 1) := by decide +kernel
theorem dX7_change_17 : decode cX7_change 17 = .ok (.istore 6, 2) := by decide +kernel
theorem dX7_change_19 : decode cX7_change 19 = .ok (.iload 6, 2) := by decide +kernel
theorem dX7_change_21 : decode cX7_change 21 = .ok (.bipush 32, 2) := by decide +kernel
theorem dX7_change_23 : decode cX7_change 23 = .ok (.if_icmp .ge 49, 3) := by decide +kernel
theorem dX7_change_26 : decode cX7_change 26 = .ok (.ldc 60, 2) := by decide +kernel
theorem dX7_change_28 : decode cX7_change 28 = .ok (.iload 5, 2) := by decide +kernel
theorem dX7_change_30 : decode cX7_change 30 = .ok (.imul, 1) := by decide +kernel
theorem dX7_change_31 : decode cX7_change 31 = .ok (.ldc 61, 2) := by decide +kernel
theorem dX7_change_33 : decode cX7_change 33 = .ok (.iadd, 1) := by decide +kernel
theorem dX7_change_34 : decode cX7_change 34 = .ok (.istore 5, 2) := by decide +kernel
theorem dX7_change_36 : decode cX7_change 36 = .ok (.aload 4, 2) := by decide +kernel
theorem dX7_change_38 : decode cX7_change 38 = .ok (.iload 6, 2) := by decide +kernel
theorem dX7_change_40 : decode cX7_change 40 = .ok (.iload 5, 2) := by decide +kernel
theorem dX7_change_42 : decode cX7_change 42 = .ok (.bipush 28, 2) := by decide +kernel
theorem dX7_change_44 : decode cX7_change 44 = .ok (.iushr, 1) := by decide +kernel
theorem dX7_change_45 : decode cX7_change 45 = .ok (.invokevirtual 62, 3) := by decide +kernel
theorem dX7_change_48 : decode cX7_change 48 = .ok (.aload_n 1, 1) := by decide +kernel
theorem dX7_change_49 : decode cX7_change 49 = .ok (.iload 6, 2) := by decide +kernel
theorem dX7_change_51 : decode cX7_change 51 = .ok (.aload_n 0, 1) := by decide +kernel
theorem dX7_change_52 : decode cX7_change 52 = .ok (.iload_n 2, 1) := by decide +kernel
theorem dX7_change_53 : decode cX7_change 53 = .ok (.aload_n 1, 1) := by decide +kernel
theorem dX7_change_54 : decode cX7_change 54 = .ok (.iload 6, 2) := by decide +kernel
theorem dX7_change_56 : decode cX7_change 56 = .ok (.iaload, 1) := by decide +kernel
theorem dX7_change_57 : decode cX7_change 57 = .ok (.aload 4, 2) := by decide +kernel
theorem dX7_change_59 : decode cX7_change 59 = .ok (.getfield 66, 3) := by decide +kernel
theorem dX7_change_62 : decode cX7_change 62 = .ok (.invokevirtual 69, 3) := by decide +kernel
theorem dX7_change_65 : decode cX7_change 65 = .ok (.iastore, 1) := by decide +kernel
theorem dX7_change_66 : decode cX7_change 66 = .ok (.iinc 6 1, 3) := by decide +kernel
theorem dX7_change_69 : decode cX7_change 69 = .ok (.goto (-50), 3) := by decide +kernel
theorem dX7_change_72 : decode cX7_change 72 = .ok (.iload 5, 2) := by decide +kernel
theorem dX7_change_74 : decode cX7_change 74 = .ok (.ireturn, 1) := by decide +kernel
theorem dX7_newHeight_0 : decode cX7_newHeight 0 = .ok (.iconst 0, 1) := by decide +kernel
theorem dX7_newHeight_1 : decode cX7_newHeight 1 = .ok (.istore 4, 2) := by decide +kernel
theorem dX7_newHeight_3 : decode cX7_newHeight 3 = .ok (.iload 4, 2) := by decide +kernel
theorem dX7_newHeight_5 : decode cX7_newHeight 5 = .ok (.aload_n 0, 1) := by decide +kernel
theorem dX7_newHeight_6 : decode cX7_newHeight 6 = .ok (.getfield 34, 3) := by decide +kernel
theorem dX7_newHeight_9 : decode cX7_newHeight 9 = .ok (.if_icmp .ge 59, 3) := by decide +kernel
theorem dX7_newHeight_12 : decode cX7_newHeight 12 = .ok (.aload_n 0, 1) := by decide +kernel
theorem dX7_newHeight_13 : decode cX7_newHeight 13 = .ok (.getfield 9, 3) := by decide +kernel
theorem dX7_newHeight_16 : decode cX7_newHeight 16 = .ok (.iload 4, 2) := by decide +kernel
theorem dX7_newHeight_18 : decode cX7_newHeight 18 = .ok (.iaload, 1) := by decide +kernel
theorem dX7_newHeight_19 : decode cX7_newHeight 19 = .ok (.iload_n 1, 1) := by decide +kernel
theorem dX7_newHeight_20 : decode cX7_newHeight 20 = .ok (.if_icmp .ne 42, 3) := by decide +kernel
theorem dX7_newHeight_23 : decode cX7_newHeight 23 = .ok (.aload_n 0, 1) := by decide +kernel
theorem dX7_newHeight_24 : decode cX7_newHeight 24 = .ok (.iload 4, 2) := by decide +kernel
theorem dX7_newHeight_26 : decode cX7_newHeight 26 = .ok (.aload_n 3, 1) := by decide +kernel
theorem dX7_newHeight_27 : decode cX7_newHeight 27 = .ok (.invokevirtual 72, 3) := by decide +kernel
theorem dX7_newHeight_30 : decode cX7_newHeight 30 = .ok (.ifCond .eq 32, 3) := by decide +kernel
theorem dX7_newHeight_33 : decode cX7_newHeight 33 = .ok (.iconst 0, 1) := by decide +kernel
theorem dX7_newHeight_34 : decode cX7_newHeight 34 = .ok (.bipush 63, 2) := by decide +kernel
theorem dX7_newHeight_36 : decode cX7_newHeight 36 = .ok (.aload_n 0, 1) := by decide +kernel
theorem dX7_newHeight_37 : decode cX7_newHeight 37 = .ok (.aload_n 0, 1) := by decide +kernel
theorem dX7_newHeight_38 : decode cX7_newHeight 38 = .ok (.getfield 15, 3) := by decide +kernel
theorem dX7_newHeight_41 : decode cX7_newHeight 41 = .ok (.iload 4, 2) := by decide +kernel
theorem dX7_newHeight_43 : decode cX7_newHeight 43 = .ok (.iaload, 1) := by decide +kernel
theorem dX7_newHeight_44 : decode cX7_newHeight 44 = .ok (.aload_n 0, 1) := by decide +kernel
theorem dX7_newHeight_45 : decode cX7_newHeight 45 = .ok (.getfield 18, 3) := by decide +kernel
theorem dX7_newHeight_48 : decode cX7_newHeight 48 = .ok (.iload 4, 2) := by decide +kernel
theorem dX7_newHeight_50 : decode cX7_newHeight 50 = .ok (.iaload, 1) := by decide +kernel
theorem dX7_newHeight_51 : decode cX7_newHeight 51 = .ok (.aload_n 3, 1) := by decide +kernel
theorem dX7_newHeight_52 : decode cX7_newHeight 52 = .ok (.invokevirtual 45, 3) := by decide +kernel
theorem dX7_newHeight_55 : decode cX7_newHeight 55 = .ok (.invokestatic 76, 3) := by decide +kernel
theorem dX7_newHeight_58 : decode cX7_newHeight 58 = .ok (.invokestatic 82, 3) := by decide +kernel
theorem dX7_newHeight_61 : decode cX7_newHeight 61 = .ok (.ireturn, 1) := by decide +kernel
theorem dX7_newHeight_62 : decode cX7_newHeight 62 = .ok (.iinc 4 1, 3) := by decide +kernel
theorem dX7_newHeight_65 : decode cX7_newHeight 65 = .ok (.goto (-62), 3) := by decide +kernel
theorem dX7_newHeight_68 : decode cX7_newHeight 68 = .ok (.iload_n 2, 1) := by decide +kernel
theorem dX7_newHeight_69 : decode cX7_newHeight 69 = .ok (.ireturn, 1) := by decide +kernel
theorem dX7_value_0 : decode cX7_value 0 = .ok (.iconst 0, 1) := by decide +kernel
theorem dX7_value_1 : decode cX7_value 1 = .ok (.istore 4, 2) := by decide +kernel
theorem dX7_value_3 : decode cX7_value 3 = .ok (.iload_n 1, 1) := by decide +kernel
theorem dX7_value_4 : decode cX7_value 4 = .ok (.istore 5, 2) := by decide +kernel
theorem dX7_value_6 : decode cX7_value 6 = .ok (.iload 5, 2) := by decide +kernel
theorem dX7_value_8 : decode cX7_value 8 = .ok (.iload_n 2, 1) := by decide +kernel
theorem dX7_value_9 : decode cX7_value 9 = .ok (.if_icmp .ge 146, 3) := by decide +kernel
theorem dX7_value_12 : decode cX7_value 12 = .ok (.aload_n 0, 1) := by decide +kernel
theorem dX7_value_13 : decode cX7_value 13 = .ok (.getfield 24, 3) := by decide +kernel
theorem dX7_value_16 : decode cX7_value 16 = .ok (.iload 5, 2) := by decide +kernel
theorem dX7_value_18 : decode cX7_value 18 = .ok (.iaload, 1) := by decide +kernel
theorem dX7_value_19 : decode cX7_value 19 = .ok (.istore 6, 2) := by decide +kernel
theorem dX7_value_21 : decode cX7_value 21 = .ok (.iload 6, 2) := by decide +kernel
theorem dX7_value_23 : decode cX7_value 23 = .ok (.ifCond .lt 11, 3) := by decide +kernel
theorem dX7_value_26 : decode cX7_value 26 = .ok (.iload 6, 2) := by decide +kernel
theorem dX7_value_28 : decode cX7_value 28 = .ok (.sipush 265, 3) := by decide +kernel
theorem dX7_value_31 : decode cX7_value 31 = .ok (.if_icmp .lt 43, 3) := by decide +kernel
theorem dX7_value_34 : decode cX7_value 34 = .ok (.iload 4, 2) := by decide +kernel
theorem dX7_value_36 : decode cX7_value 36 = .ok (.bipush 32, 2) := by decide +kernel
theorem dX7_value_38 : decode cX7_value 38 = .ok (.if_icmp .ge 111, 3) := by decide +kernel
theorem dX7_value_41 : decode cX7_value 41 = .ok (.aload_n 0, 1) := by decide +kernel
theorem dX7_value_42 : decode cX7_value 42 = .ok (.getfield 27, 3) := by decide +kernel
theorem dX7_value_45 : decode cX7_value 45 = .ok (.iload 4, 2) := by decide +kernel
theorem dX7_value_47 : decode cX7_value 47 = .ok (.iload 6, 2) := by decide +kernel
theorem dX7_value_49 : decode cX7_value 49 = .ok (.ifCond .ge 10, 3) := by decide +kernel
theorem dX7_value_52 : decode cX7_value 52 = .ok (.iload 6, 2) := by decide +kernel
theorem dX7_value_54 : decode cX7_value 54 = .ok (.iconst (-1), 1) := by decide +kernel
theorem dX7_value_55 : decode cX7_value 55 = .ok (.ixor, 1) := by decide +kernel
theorem dX7_value_56 : decode cX7_value 56 = .ok (.goto 11, 3) := by decide +kernel
theorem dX7_value_59 : decode cX7_value 59 = .ok (.aload_n 3, 1) := by decide +kernel
theorem dX7_value_60 : decode cX7_value 60 = .ok (.iload 6, 2) := by decide +kernel
theorem dX7_value_62 : decode cX7_value 62 = .ok (.sipush 265, 3) := by decide +kernel
theorem dX7_value_65 : decode cX7_value 65 = .ok (.isub, 1) := by decide +kernel
theorem dX7_value_66 : decode cX7_value 66 = .ok (.iaload, 1) := by decide +kernel
theorem dX7_value_67 : decode cX7_value 67 = .ok (.iastore, 1) := by decide +kernel
theorem dX7_value_68 : decode cX7_value 68 = .ok (.iinc 4 1, 3) := by decide +kernel
theorem dX7_value_71 : decode cX7_value 71 = .ok (.goto 78, 3) := by decide +kernel
theorem dX7_value_74 : decode cX7_value 74 = .ok (.iload 6, 2) := by decide +kernel
theorem dX7_value_76 : decode cX7_value 76 = .ok (.sipush 258, 3) := by decide +kernel
theorem dX7_value_79 : decode cX7_value 79 = .ok (.if_icmp .ne 31, 3) := by decide +kernel
theorem dX7_value_82 : decode cX7_value 82 = .ok (.iload 4, 2) := by decide +kernel
theorem dX7_value_84 : decode cX7_value 84 = .ok (.ifCond .le 65, 3) := by decide +kernel
theorem dX7_value_87 : decode cX7_value 87 = .ok (.aload_n 0, 1) := by decide +kernel
theorem dX7_value_88 : decode cX7_value 88 = .ok (.getfield 27, 3) := by decide +kernel
theorem dX7_value_91 : decode cX7_value 91 = .ok (.iload 4, 2) := by decide +kernel
theorem dX7_value_93 : decode cX7_value 93 = .ok (.iconst 1, 1) := by decide +kernel
theorem dX7_value_94 : decode cX7_value 94 = .ok (.isub, 1) := by decide +kernel
theorem dX7_value_95 : decode cX7_value 95 = .ok (.iconst 1, 1) := by decide +kernel
theorem dX7_value_96 : decode cX7_value 96 = .ok (.aload_n 0, 1) := by decide +kernel
theorem dX7_value_97 : decode cX7_value 97 = .ok (.getfield 27, 3) := by decide +kernel
theorem dX7_value_100 : decode cX7_value 100 = .ok (.iload 4, 2) := by decide +kernel
theorem dX7_value_102 : decode cX7_value 102 = .ok (.iconst 1, 1) := by decide +kernel
theorem dX7_value_103 : decode cX7_value 103 = .ok (.isub, 1) := by decide +kernel
theorem dX7_value_104 : decode cX7_value 104 = .ok (.iaload, 1) := by decide +kernel
theorem dX7_value_105 : decode cX7_value 105 = .ok (.isub, 1) := by decide +kernel
theorem dX7_value_106 : decode cX7_value 106 = .ok (.iastore, 1) := by decide +kernel
theorem dX7_value_107 : decode cX7_value 107 = .ok (.goto 42, 3) := by decide +kernel
theorem dX7_value_110 : decode cX7_value 110 = .ok (.iload 4, 2) := by decide +kernel
theorem dX7_value_112 : decode cX7_value 112 = .ok (.iconst 1, 1) := by decide +kernel
theorem dX7_value_113 : decode cX7_value 113 = .ok (.if_icmp .le 36, 3) := by decide +kernel
theorem dX7_value_116 : decode cX7_value 116 = .ok (.iinc 4 (-1), 3) := by decide +kernel
theorem dX7_value_119 : decode cX7_value 119 = .ok (.aload_n 0, 1) := by decide +kernel
theorem dX7_value_120 : decode cX7_value 120 = .ok (.getfield 27, 3) := by decide +kernel
theorem dX7_value_123 : decode cX7_value 123 = .ok (.iload 4, 2) := by decide +kernel
theorem dX7_value_125 : decode cX7_value 125 = .ok (.iconst 1, 1) := by decide +kernel
theorem dX7_value_126 : decode cX7_value 126 = .ok (.isub, 1) := by decide +kernel
theorem dX7_value_127 : decode cX7_value 127 = .ok (.iload 6, 2) := by decide +kernel
theorem dX7_value_129 : decode cX7_value 129 = .ok (.aload_n 0, 1) := by decide +kernel
theorem dX7_value_130 : decode cX7_value 130 = .ok (.getfield 27, 3) := by decide +kernel
theorem dX7_value_133 : decode cX7_value 133 = .ok (.iload 4, 2) := by decide +kernel
theorem dX7_value_135 : decode cX7_value 135 = .ok (.iconst 1, 1) := by decide +kernel
theorem dX7_value_136 : decode cX7_value 136 = .ok (.isub, 1) := by decide +kernel
theorem dX7_value_137 : decode cX7_value 137 = .ok (.iaload, 1) := by decide +kernel
theorem dX7_value_138 : decode cX7_value 138 = .ok (.aload_n 0, 1) := by decide +kernel
theorem dX7_value_139 : decode cX7_value 139 = .ok (.getfield 27, 3) := by decide +kernel
theorem dX7_value_142 : decode cX7_value 142 = .ok (.iload 4, 2) := by decide +kernel
theorem dX7_value_144 : decode cX7_value 144 = .ok (.iaload, 1) := by decide +kernel
theorem dX7_value_145 : decode cX7_value 145 = .ok (.invokestatic 85, 3) := by decide +kernel
theorem dX7_value_148 : decode cX7_value 148 = .ok (.iastore, 1) := by decide +kernel
theorem dX7_value_149 : decode cX7_value 149 = .ok (.iinc 5 1, 3) := by decide +kernel
theorem dX7_value_152 : decode cX7_value 152 = .ok (.goto (-146), 3) := by decide +kernel
theorem dX7_value_155 : decode cX7_value 155 = .ok (.iload 4, 2) := by decide +kernel
theorem dX7_value_157 : decode cX7_value 157 = .ok (.ifCond .le 15, 3) := by decide +kernel
theorem dX7_value_160 : decode cX7_value 160 = .ok (.aload_n 0, 1) := by decide +kernel
theorem dX7_value_161 : decode cX7_value 161 = .ok (.getfield 27, 3) := by decide +kernel
theorem dX7_value_164 : decode cX7_value 164 = .ok (.iload 4, 2) := by decide +kernel
theorem dX7_value_166 : decode cX7_value 166 = .ok (.iconst 1, 1) := by decide +kernel
theorem dX7_value_167 : decode cX7_value 167 = .ok (.isub, 1) := by decide +kernel
theorem dX7_value_168 : decode cX7_value 168 = .ok (.iaload, 1) := by decide +kernel
theorem dX7_value_169 : decode cX7_value 169 = .ok (.goto 4, 3) := by decide +kernel
theorem dX7_value_172 : decode cX7_value 172 = .ok (.iconst 0, 1) := by decide +kernel
theorem dX7_value_173 : decode cX7_value 173 = .ok (.ireturn, 1) := by decide +kernel
theorem dX7_combined_0 : decode cX7_combined 0 = .ok (.iload_n 0, 1) := by decide +kernel
theorem dX7_combined_1 : decode cX7_combined 1 = .ok (.lookupswitch 148 #[(42, 91), (43, 83), (45, 87), (47, 95), (60, 107), (61, 118), (62, 129), (256, 144), (257, 140)], 83) := by decide +kernel
theorem dX7_combined_84 : decode cX7_combined 84 = .ok (.iload_n 1, 1) := by decide +kernel
theorem dX7_combined_85 : decode cX7_combined 85 = .ok (.iload_n 2, 1) := by decide +kernel
theorem dX7_combined_86 : decode cX7_combined 86 = .ok (.iadd, 1) := by decide +kernel
theorem dX7_combined_87 : decode cX7_combined 87 = .ok (.ireturn, 1) := by decide +kernel
theorem dX7_combined_88 : decode cX7_combined 88 = .ok (.iload_n 1, 1) := by decide +kernel
theorem dX7_combined_89 : decode cX7_combined 89 = .ok (.iload_n 2, 1) := by decide +kernel
theorem dX7_combined_90 : decode cX7_combined 90 = .ok (.isub, 1) := by decide +kernel
theorem dX7_combined_91 : decode cX7_combined 91 = .ok (.ireturn, 1) := by decide +kernel
theorem dX7_combined_92 : decode cX7_combined 92 = .ok (.iload_n 1, 1) := by decide +kernel
theorem dX7_combined_93 : decode cX7_combined 93 = .ok (.iload_n 2, 1) := by decide +kernel
theorem dX7_combined_94 : decode cX7_combined 94 = .ok (.imul, 1) := by decide +kernel
theorem dX7_combined_95 : decode cX7_combined 95 = .ok (.ireturn, 1) := by decide +kernel
theorem dX7_combined_96 : decode cX7_combined 96 = .ok (.iload_n 2, 1) := by decide +kernel
theorem dX7_combined_97 : decode cX7_combined 97 = .ok (.ifCond .ne 7, 3) := by decide +kernel
theorem dX7_combined_100 : decode cX7_combined 100 = .ok (.iconst 0, 1) := by decide +kernel
theorem dX7_combined_101 : decode cX7_combined 101 = .ok (.goto 6, 3) := by decide +kernel
theorem dX7_combined_104 : decode cX7_combined 104 = .ok (.iload_n 1, 1) := by decide +kernel
theorem dX7_combined_105 : decode cX7_combined 105 = .ok (.iload_n 2, 1) := by decide +kernel
theorem dX7_combined_106 : decode cX7_combined 106 = .ok (.idiv, 1) := by decide +kernel
theorem dX7_combined_107 : decode cX7_combined 107 = .ok (.ireturn, 1) := by decide +kernel
theorem dX7_combined_108 : decode cX7_combined 108 = .ok (.iload_n 1, 1) := by decide +kernel
theorem dX7_combined_109 : decode cX7_combined 109 = .ok (.iload_n 2, 1) := by decide +kernel
theorem dX7_combined_110 : decode cX7_combined 110 = .ok (.if_icmp .ge 7, 3) := by decide +kernel
theorem dX7_combined_113 : decode cX7_combined 113 = .ok (.iconst 1, 1) := by decide +kernel
theorem dX7_combined_114 : decode cX7_combined 114 = .ok (.goto 4, 3) := by decide +kernel
theorem dX7_combined_117 : decode cX7_combined 117 = .ok (.iconst 0, 1) := by decide +kernel
theorem dX7_combined_118 : decode cX7_combined 118 = .ok (.ireturn, 1) := by decide +kernel
theorem dX7_combined_119 : decode cX7_combined 119 = .ok (.iload_n 1, 1) := by decide +kernel
theorem dX7_combined_120 : decode cX7_combined 120 = .ok (.iload_n 2, 1) := by decide +kernel
theorem dX7_combined_121 : decode cX7_combined 121 = .ok (.if_icmp .ne 7, 3) := by decide +kernel
theorem dX7_combined_124 : decode cX7_combined 124 = .ok (.iconst 1, 1) := by decide +kernel
theorem dX7_combined_125 : decode cX7_combined 125 = .ok (.goto 4, 3) := by decide +kernel
theorem dX7_combined_128 : decode cX7_combined 128 = .ok (.iconst 0, 1) := by decide +kernel
theorem dX7_combined_129 : decode cX7_combined 129 = .ok (.ireturn, 1) := by decide +kernel
theorem dX7_combined_130 : decode cX7_combined 130 = .ok (.iload_n 1, 1) := by decide +kernel
theorem dX7_combined_131 : decode cX7_combined 131 = .ok (.iload_n 2, 1) := by decide +kernel
theorem dX7_combined_132 : decode cX7_combined 132 = .ok (.if_icmp .le 7, 3) := by decide +kernel
theorem dX7_combined_135 : decode cX7_combined 135 = .ok (.iconst 1, 1) := by decide +kernel
theorem dX7_combined_136 : decode cX7_combined 136 = .ok (.goto 4, 3) := by decide +kernel
theorem dX7_combined_139 : decode cX7_combined 139 = .ok (.iconst 0, 1) := by decide +kernel
theorem dX7_combined_140 : decode cX7_combined 140 = .ok (.ireturn, 1) := by decide +kernel
theorem dX7_combined_141 : decode cX7_combined 141 = .ok (.iload_n 1, 1) := by decide +kernel
theorem dX7_combined_142 : decode cX7_combined 142 = .ok (.iload_n 2, 1) := by decide +kernel
theorem dX7_combined_143 : decode cX7_combined 143 = .ok (.iand, 1) := by decide +kernel
theorem dX7_combined_144 : decode cX7_combined 144 = .ok (.ireturn, 1) := by decide +kernel
theorem dX7_combined_145 : decode cX7_combined 145 = .ok (.iload_n 1, 1) := by decide +kernel
theorem dX7_combined_146 : decode cX7_combined 146 = .ok (.iload_n 2, 1) := by decide +kernel
theorem dX7_combined_147 : decode cX7_combined 147 = .ok (.ior, 1) := by decide +kernel
theorem dX7_combined_148 : decode cX7_combined 148 = .ok (.ireturn, 1) := by decide +kernel
theorem dX7_combined_149 : decode cX7_combined 149 = .ok (.iconst 0, 1) := by decide +kernel
theorem dX7_combined_150 : decode cX7_combined 150 = .ok (.ireturn, 1) := by decide +kernel
theorem dX8_init_0 : decode cX8_init 0 = .ok (.aload_n 0, 1) := by decide +kernel
theorem dX8_init_1 : decode cX8_init 1 = .ok (.invokespecial 3, 3) := by decide +kernel
theorem dX8_init_4 : decode cX8_init 4 = .ok (.aload_n 0, 1) := by decide +kernel
theorem dX8_init_5 : decode cX8_init 5 = .ok (.sipush 600, 3) := by decide +kernel
theorem dX8_init_8 : decode cX8_init 8 = .ok (.newarray .int, 2) := by decide +kernel
theorem dX8_init_10 : decode cX8_init 10 = .ok (.putfield 9, 3) := by decide +kernel
theorem dX8_init_13 : decode cX8_init 13 = .ok (.aload_n 0, 1) := by decide +kernel
theorem dX8_init_14 : decode cX8_init 14 = .ok (.sipush 601, 3) := by decide +kernel
theorem dX8_init_17 : decode cX8_init 17 = .ok (.newarray .int, 2) := by decide +kernel
theorem dX8_init_19 : decode cX8_init 19 = .ok (.putfield 15, 3) := by decide +kernel
theorem dX8_init_22 : decode cX8_init 22 = .ok (.aload_n 0, 1) := by decide +kernel
theorem dX8_init_23 : decode cX8_init 23 = .ok (.sipush 601, 3) := by decide +kernel
theorem dX8_init_26 : decode cX8_init 26 = .ok (.newarray .int, 2) := by decide +kernel
theorem dX8_init_28 : decode cX8_init 28 = .ok (.putfield 18, 3) := by decide +kernel
theorem dX8_init_31 : decode cX8_init 31 = .ok (.return_, 1) := by decide +kernel
theorem dX8_put_0 : decode cX8_put 0 = .ok (.bipush 24, 2) := by decide +kernel
theorem dX8_put_2 : decode cX8_put 2 = .ok (.istore_n 2, 1) := by decide +kernel
theorem dX8_put_3 : decode cX8_put 3 = .ok (.iload_n 2, 1) := by decide +kernel
theorem dX8_put_4 : decode cX8_put 4 = .ok (.ifCond .lt 45, 3) := by decide +kernel
theorem dX8_put_7 : decode cX8_put 7 = .ok (.aload_n 0, 1) := by decide +kernel
theorem dX8_put_8 : decode cX8_put 8 = .ok (.getfield 21, 3) := by decide +kernel
theorem dX8_put_11 : decode cX8_put 11 = .ok (.sipush 600, 3) := by decide +kernel
theorem dX8_put_14 : decode cX8_put 14 = .ok (.if_icmp .ge 29, 3) := by decide +kernel
theorem dX8_put_17 : decode cX8_put 17 = .ok (.aload_n 0, 1) := by decide +kernel
theorem dX8_put_18 : decode cX8_put 18 = .ok (.getfield 9, 3) := by decide +kernel
theorem dX8_put_21 : decode cX8_put 21 = .ok (.aload_n 0, 1) := by decide +kernel
theorem dX8_put_22 : decode cX8_put 22 = .ok (.getfield 21, 3) := by decide +kernel
theorem dX8_put_25 : decode cX8_put 25 = .ok (.iload_n 1, 1) := by decide +kernel
theorem dX8_put_26 : decode cX8_put 26 = .ok (.iload_n 2, 1) := by decide +kernel
theorem dX8_put_27 : decode cX8_put 27 = .ok (.iushr, 1) := by decide +kernel
theorem dX8_put_28 : decode cX8_put 28 = .ok (.sipush 255, 3) := by decide +kernel
theorem dX8_put_31 : decode cX8_put 31 = .ok (.iand, 1) := by decide +kernel
theorem dX8_put_32 : decode cX8_put 32 = .ok (.iastore, 1) := by decide +kernel
theorem dX8_put_33 : decode cX8_put 33 = .ok (.aload_n 0, 1) := by decide +kernel
theorem dX8_put_34 : decode cX8_put 34 = .ok (.dup, 1) := by decide +kernel
theorem dX8_put_35 : decode cX8_put 35 = .ok (.getfield 21, 3) := by decide +kernel
theorem dX8_put_38 : decode cX8_put 38 = .ok (.iconst 1, 1) := by decide +kernel
theorem dX8_put_39 : decode cX8_put 39 = .ok (.iadd, 1) := by decide +kernel
theorem dX8_put_40 : decode cX8_put 40 = .ok (.putfield 21, 3) := by decide +kernel
theorem dX8_put_43 : decode cX8_put 43 = .ok (.iinc 2 (-8), 3) := by decide +kernel
theorem dX8_put_46 : decode cX8_put 46 = .ok (.goto (-43), 3) := by decide +kernel
theorem dX8_put_49 : decode cX8_put 49 = .ok (.return_, 1) := by decide +kernel
theorem dX8_scan_0 : decode cX8_scan 0 = .ok (.aload_n 0, 1) := by decide +kernel
theorem dX8_scan_1 : decode cX8_scan 1 = .ok (.iconst 0, 1) := by decide +kernel
theorem dX8_scan_2 : decode cX8_scan 2 = .ok (.putfield 25, 3) := by decide +kernel
theorem dX8_scan_5 : decode cX8_scan 5 = .ok (.iconst 0, 1) := by decide +kernel
theorem dX8_scan_6 : decode cX8_scan 6 = .ok (.istore_n 1, 1) := by decide +kernel
theorem dX8_scan_7 : decode cX8_scan 7 = .ok (.iload_n 1, 1) := by decide +kernel
theorem dX8_scan_8 : decode cX8_scan 8 = .ok (.aload_n 0, 1) := by decide +kernel
theorem dX8_scan_9 : decode cX8_scan 9 = .ok (.getfield 21, 3) := by decide +kernel
theorem dX8_scan_12 : decode cX8_scan 12 = .ok (.if_icmp .ge 51, 3) := by decide +kernel
theorem dX8_scan_15 : decode cX8_scan 15 = .ok (.aload_n 0, 1) := by decide +kernel
theorem dX8_scan_16 : decode cX8_scan 16 = .ok (.iload_n 1, 1) := by decide +kernel
theorem dX8_scan_17 : decode cX8_scan 17 = .ok (.invokevirtual 28, 3) := by decide +kernel
theorem dX8_scan_20 : decode cX8_scan 20 = .ok (.ifCond .eq 37, 3) := by decide +kernel
theorem dX8_scan_23 : decode cX8_scan 23 = .ok (.aload_n 0, 1) := by decide +kernel
theorem dX8_scan_24 : decode cX8_scan 24 = .ok (.getfield 15, 3) := by decide +kernel
theorem dX8_scan_27 : decode cX8_scan 27 = .ok (.aload_n 0, 1) := by decide +kernel
theorem dX8_scan_28 : decode cX8_scan 28 = .ok (.getfield 25, 3) := by decide +kernel
theorem dX8_scan_31 : decode cX8_scan 31 = .ok (.aload_n 0, 1) := by decide +kernel
theorem dX8_scan_32 : decode cX8_scan 32 = .ok (.iload_n 1, 1) := by decide +kernel
theorem dX8_scan_33 : decode cX8_scan 33 = .ok (.invokevirtual 32, 3) := by decide +kernel
theorem dX8_scan_36 : decode cX8_scan 36 = .ok (.iastore, 1) := by decide +kernel
theorem dX8_scan_37 : decode cX8_scan 37 = .ok (.aload_n 0, 1) := by decide +kernel
theorem dX8_scan_38 : decode cX8_scan 38 = .ok (.getfield 18, 3) := by decide +kernel
theorem dX8_scan_41 : decode cX8_scan 41 = .ok (.aload_n 0, 1) := by decide +kernel
theorem dX8_scan_42 : decode cX8_scan 42 = .ok (.getfield 25, 3) := by decide +kernel
theorem dX8_scan_45 : decode cX8_scan 45 = .ok (.iload_n 1, 1) := by decide +kernel
theorem dX8_scan_46 : decode cX8_scan 46 = .ok (.iastore, 1) := by decide +kernel
theorem dX8_scan_47 : decode cX8_scan 47 = .ok (.aload_n 0, 1) := by decide +kernel
theorem dX8_scan_48 : decode cX8_scan 48 = .ok (.dup, 1) := by decide +kernel
theorem dX8_scan_49 : decode cX8_scan 49 = .ok (.getfield 25, 3) := by decide +kernel
theorem dX8_scan_52 : decode cX8_scan 52 = .ok (.iconst 1, 1) := by decide +kernel
theorem dX8_scan_53 : decode cX8_scan 53 = .ok (.iadd, 1) := by decide +kernel
theorem dX8_scan_54 : decode cX8_scan 54 = .ok (.putfield 25, 3) := by decide +kernel
theorem dX8_scan_57 : decode cX8_scan 57 = .ok (.iinc 1 1, 3) := by decide +kernel
theorem dX8_scan_60 : decode cX8_scan 60 = .ok (.goto (-53), 3) := by decide +kernel
theorem dX8_scan_63 : decode cX8_scan 63 = .ok (.aload_n 0, 1) := by decide +kernel
theorem dX8_scan_64 : decode cX8_scan 64 = .ok (.getfield 15, 3) := by decide +kernel
theorem dX8_scan_67 : decode cX8_scan 67 = .ok (.aload_n 0, 1) := by decide +kernel
theorem dX8_scan_68 : decode cX8_scan 68 = .ok (.getfield 25, 3) := by decide +kernel
theorem dX8_scan_71 : decode cX8_scan 71 = .ok (.iconst 0, 1) := by decide +kernel
theorem dX8_scan_72 : decode cX8_scan 72 = .ok (.iastore, 1) := by decide +kernel
theorem dX8_scan_73 : decode cX8_scan 73 = .ok (.aload_n 0, 1) := by decide +kernel
theorem dX8_scan_74 : decode cX8_scan 74 = .ok (.getfield 18, 3) := by decide +kernel
theorem dX8_scan_77 : decode cX8_scan 77 = .ok (.aload_n 0, 1) := by decide +kernel
theorem dX8_scan_78 : decode cX8_scan 78 = .ok (.getfield 25, 3) := by decide +kernel
theorem dX8_scan_81 : decode cX8_scan 81 = .ok (.aload_n 0, 1) := by decide +kernel
theorem dX8_scan_82 : decode cX8_scan 82 = .ok (.getfield 21, 3) := by decide +kernel
theorem dX8_scan_85 : decode cX8_scan 85 = .ok (.iastore, 1) := by decide +kernel
theorem dX8_scan_86 : decode cX8_scan 86 = .ok (.return_, 1) := by decide +kernel
theorem dX8_isStart_0 : decode cX8_isStart 0 = .ok (.aload_n 0, 1) := by decide +kernel
theorem dX8_isStart_1 : decode cX8_isStart 1 = .ok (.getfield 9, 3) := by decide +kernel
theorem dX8_isStart_4 : decode cX8_isStart 4 = .ok (.iload_n 1, 1) := by decide +kernel
theorem dX8_isStart_5 : decode cX8_isStart 5 = .ok (.iaload, 1) := by decide +kernel
theorem dX8_isStart_6 : decode cX8_isStart 6 = .ok (.invokestatic 36, 3) := by decide +kernel
theorem dX8_isStart_9 : decode cX8_isStart 9 = .ok (.istore_n 2, 1) := by decide +kernel
theorem dX8_isStart_10 : decode cX8_isStart 10 = .ok (.iload_n 2, 1) := by decide +kernel
theorem dX8_isStart_11 : decode cX8_isStart 11 = .ok (.iconst 3, 1) := by decide +kernel
theorem dX8_isStart_12 : decode cX8_isStart 12 = .ok (.if_icmp .eq 26, 3) := by decide +kernel
theorem dX8_isStart_15 : decode cX8_isStart 15 = .ok (.iload_n 2, 1) := by decide +kernel
theorem dX8_isStart_16 : decode cX8_isStart 16 = .ok (.ifCond .eq 26, 3) := by decide +kernel
theorem dX8_isStart_19 : decode cX8_isStart 19 = .ok (.iload_n 1, 1) := by decide +kernel
theorem dX8_isStart_20 : decode cX8_isStart 20 = .ok (.ifCond .eq 18, 3) := by decide +kernel
theorem dX8_isStart_23 : decode cX8_isStart 23 = .ok (.aload_n 0, 1) := by decide +kernel
theorem dX8_isStart_24 : decode cX8_isStart 24 = .ok (.getfield 9, 3) := by decide +kernel
theorem dX8_isStart_27 : decode cX8_isStart 27 = .ok (.iload_n 1, 1) := by decide +kernel
theorem dX8_isStart_28 : decode cX8_isStart 28 = .ok (.iconst 1, 1) := by decide +kernel
theorem dX8_isStart_29 : decode cX8_isStart 29 = .ok (.isub, 1) := by decide +kernel
theorem dX8_isStart_30 : decode cX8_isStart 30 = .ok (.iaload, 1) := by decide +kernel
theorem dX8_isStart_31 : decode cX8_isStart 31 = .ok (.invokestatic 36, 3) := by decide +kernel
theorem dX8_isStart_34 : decode cX8_isStart 34 = .ok (.iload_n 2, 1) := by decide +kernel
theorem dX8_isStart_35 : decode cX8_isStart 35 = .ok (.if_icmp .eq 7, 3) := by decide +kernel
theorem dX8_isStart_38 : decode cX8_isStart 38 = .ok (.iconst 1, 1) := by decide +kernel
theorem dX8_isStart_39 : decode cX8_isStart 39 = .ok (.goto 4, 3) := by decide +kernel
theorem dX8_isStart_42 : decode cX8_isStart 42 = .ok (.iconst 0, 1) := by decide +kernel
theorem dX8_isStart_43 : decode cX8_isStart 43 = .ok (.ireturn, 1) := by decide +kernel
theorem dX8_sortOf_0 : decode cX8_sortOf 0 = .ok (.iload_n 0, 1) := by decide +kernel
theorem dX8_sortOf_1 : decode cX8_sortOf 1 = .ok (.bipush 32, 2) := by decide +kernel
theorem dX8_sortOf_3 : decode cX8_sortOf 3 = .ok (.if_icmp .eq 9, 3) := by decide +kernel
theorem dX8_sortOf_6 : decode cX8_sortOf 6 = .ok (.iload_n 0, 1) := by decide +kernel
theorem dX8_sortOf_7 : decode cX8_sortOf 7 = .ok (.bipush 10, 2) := by decide +kernel
theorem dX8_sortOf_9 : decode cX8_sortOf 9 = .ok (.if_icmp .ne 5, 3) := by decide +kernel
theorem dX8_sortOf_12 : decode cX8_sortOf 12 = .ok (.iconst 0, 1) := by decide +kernel
theorem dX8_sortOf_13 : decode cX8_sortOf 13 = .ok (.ireturn, 1) := by decide +kernel
theorem dX8_sortOf_14 : decode cX8_sortOf 14 = .ok (.iload_n 0, 1) := by decide +kernel
theorem dX8_sortOf_15 : decode cX8_sortOf 15 = .ok (.bipush 97, 2) := by decide +kernel
theorem dX8_sortOf_17 : decode cX8_sortOf 17 = .ok (.if_icmp .lt 9, 3) := by decide +kernel
theorem dX8_sortOf_20 : decode cX8_sortOf 20 = .ok (.iload_n 0, 1) := by decide +kernel
theorem dX8_sortOf_21 : decode cX8_sortOf 21 = .ok (.bipush 122, 2) := by decide +kernel
theorem dX8_sortOf_23 : decode cX8_sortOf 23 = .ok (.if_icmp .le 15, 3) := by decide +kernel
theorem dX8_sortOf_26 : decode cX8_sortOf 26 = .ok (.iload_n 0, 1) := by decide +kernel
theorem dX8_sortOf_27 : decode cX8_sortOf 27 = .ok (.bipush 65, 2) := by decide +kernel
theorem dX8_sortOf_29 : decode cX8_sortOf 29 = .ok (.if_icmp .lt 11, 3) := by decide +kernel
theorem dX8_sortOf_32 : decode cX8_sortOf 32 = .ok (.iload_n 0, 1) := by decide +kernel
theorem dX8_sortOf_33 : decode cX8_sortOf 33 = .ok (.bipush 90, 2) := by decide +kernel
theorem dX8_sortOf_35 : decode cX8_sortOf 35 = .ok (.if_icmp .gt 5, 3) := by decide +kernel
theorem dX8_sortOf_38 : decode cX8_sortOf 38 = .ok (.iconst 1, 1) := by decide +kernel
theorem dX8_sortOf_39 : decode cX8_sortOf 39 = .ok (.ireturn, 1) := by decide +kernel
theorem dX8_sortOf_40 : decode cX8_sortOf 40 = .ok (.iload_n 0, 1) := by decide +kernel
theorem dX8_sortOf_41 : decode cX8_sortOf 41 = .ok (.bipush 48, 2) := by decide +kernel
theorem dX8_sortOf_43 : decode cX8_sortOf 43 = .ok (.if_icmp .lt 13, 3) := by decide +kernel
theorem dX8_sortOf_46 : decode cX8_sortOf 46 = .ok (.iload_n 0, 1) := by decide +kernel
theorem dX8_sortOf_47 : decode cX8_sortOf 47 = .ok (.bipush 57, 2) := by decide +kernel
theorem dX8_sortOf_49 : decode cX8_sortOf 49 = .ok (.if_icmp .gt 7, 3) := by decide +kernel
theorem dX8_sortOf_52 : decode cX8_sortOf 52 = .ok (.iconst 2, 1) := by decide +kernel
theorem dX8_sortOf_53 : decode cX8_sortOf 53 = .ok (.goto 4, 3) := by decide +kernel
theorem dX8_sortOf_56 : decode cX8_sortOf 56 = .ok (.iconst 3, 1) := by decide +kernel
theorem dX8_sortOf_57 : decode cX8_sortOf 57 = .ok (.ireturn, 1) := by decide +kernel
theorem dX8_kindAt_0 : decode cX8_kindAt 0 = .ok (.aload_n 0, 1) := by decide +kernel
theorem dX8_kindAt_1 : decode cX8_kindAt 1 = .ok (.getfield 9, 3) := by decide +kernel
theorem dX8_kindAt_4 : decode cX8_kindAt 4 = .ok (.iload_n 1, 1) := by decide +kernel
theorem dX8_kindAt_5 : decode cX8_kindAt 5 = .ok (.iaload, 1) := by decide +kernel
theorem dX8_kindAt_6 : decode cX8_kindAt 6 = .ok (.invokestatic 36, 3) := by decide +kernel
theorem dX8_kindAt_9 : decode cX8_kindAt 9 = .ok (.istore_n 2, 1) := by decide +kernel
theorem dX8_kindAt_10 : decode cX8_kindAt 10 = .ok (.iload_n 2, 1) := by decide +kernel
theorem dX8_kindAt_11 : decode cX8_kindAt 11 = .ok (.iconst 1, 1) := by decide +kernel
theorem dX8_kindAt_12 : decode cX8_kindAt 12 = .ok (.if_icmp .ne 14, 3) := by decide +kernel
theorem dX8_kindAt_15 : decode cX8_kindAt 15 = .ok (.aload_n 0, 1) := by decide +kernel
theorem dX8_kindAt_16 : decode cX8_kindAt 16 = .ok (.iload_n 1, 1) := by decide +kernel
theorem dX8_kindAt_17 : decode cX8_kindAt 17 = .ok (.aload_n 0, 1) := by decide +kernel
theorem dX8_kindAt_18 : decode cX8_kindAt 18 = .ok (.iload_n 1, 1) := by decide +kernel
theorem dX8_kindAt_19 : decode cX8_kindAt 19 = .ok (.invokevirtual 39, 3) := by decide +kernel
theorem dX8_kindAt_22 : decode cX8_kindAt 22 = .ok (.invokevirtual 42, 3) := by decide +kernel
theorem dX8_kindAt_25 : decode cX8_kindAt 25 = .ok (.ireturn, 1) := by decide +kernel
theorem dX8_kindAt_26 : decode cX8_kindAt 26 = .ok (.iload_n 2, 1) := by decide +kernel
theorem dX8_kindAt_27 : decode cX8_kindAt 27 = .ok (.iconst 2, 1) := by decide +kernel
theorem dX8_kindAt_28 : decode cX8_kindAt 28 = .ok (.if_icmp .ne 14, 3) := by decide +kernel
theorem dX8_kindAt_31 : decode cX8_kindAt 31 = .ok (.aload_n 0, 1) := by decide +kernel
theorem dX8_kindAt_32 : decode cX8_kindAt 32 = .ok (.iload_n 1, 1) := by decide +kernel
theorem dX8_kindAt_33 : decode cX8_kindAt 33 = .ok (.aload_n 0, 1) := by decide +kernel
theorem dX8_kindAt_34 : decode cX8_kindAt 34 = .ok (.iload_n 1, 1) := by decide +kernel
theorem dX8_kindAt_35 : decode cX8_kindAt 35 = .ok (.invokevirtual 39, 3) := by decide +kernel
theorem dX8_kindAt_38 : decode cX8_kindAt 38 = .ok (.invokevirtual 46, 3) := by decide +kernel
theorem dX8_kindAt_41 : decode cX8_kindAt 41 = .ok (.ireturn, 1) := by decide +kernel
theorem dX8_kindAt_42 : decode cX8_kindAt 42 = .ok (.ldc 49, 2) := by decide +kernel
theorem dX8_kindAt_44 : decode cX8_kindAt 44 = .ok (.aload_n 0, 1) := by decide +kernel
theorem dX8_kindAt_45 : decode cX8_kindAt 45 = .ok (.getfield 9, 3) := by decide +kernel
theorem dX8_kindAt_48 : decode cX8_kindAt 48 = .ok (.iload_n 1, 1) := by decide +kernel
theorem dX8_kindAt_49 : decode cX8_kindAt 49 = .ok (.iaload, 1) := by decide +kernel
theorem dX8_kindAt_50 : decode cX8_kindAt 50 = .ok (.i2c, 1) := by decide +kernel
theorem dX8_kindAt_51 : decode cX8_kindAt 51 = .ok (.invokevirtual 51, 3) := by decide +kernel
theorem dX8_kindAt_54 : decode cX8_kindAt 54 = .ok (.ifCond .lt 12, 3) := by decide +kernel
theorem dX8_kindAt_57 : decode cX8_kindAt 57 = .ok (.aload_n 0, 1) := by decide +kernel
theorem dX8_kindAt_58 : decode cX8_kindAt 58 = .ok (.getfield 9, 3) := by decide +kernel
theorem dX8_kindAt_61 : decode cX8_kindAt 61 = .ok (.iload_n 1, 1) := by decide +kernel
theorem dX8_kindAt_62 : decode cX8_kindAt 62 = .ok (.iaload, 1) := by decide +kernel
theorem dX8_kindAt_63 : decode cX8_kindAt 63 = .ok (.goto 4, 3) := by decide +kernel
theorem dX8_kindAt_66 : decode cX8_kindAt 66 = .ok (.iconst 1, 1) := by decide +kernel
theorem dX8_kindAt_67 : decode cX8_kindAt 67 = .ok (.ireturn, 1) := by decide +kernel
theorem dX8_runFrom_0 : decode cX8_runFrom 0 = .ok (.aload_n 0, 1) := by decide +kernel
theorem dX8_runFrom_1 : decode cX8_runFrom 1 = .ok (.getfield 9, 3) := by decide +kernel
theorem dX8_runFrom_4 : decode cX8_runFrom 4 = .ok (.iload_n 1, 1) := by decide +kernel
theorem dX8_runFrom_5 : decode cX8_runFrom 5 = .ok (.iaload, 1) := by decide +kernel
theorem dX8_runFrom_6 : decode cX8_runFrom 6 = .ok (.invokestatic 36, 3) := by decide +kernel
theorem dX8_runFrom_9 : decode cX8_runFrom 9 = .ok (.istore_n 2, 1) := by decide +kernel
theorem dX8_runFrom_10 : decode cX8_runFrom 10 = .ok (.iconst 1, 1) := by decide +kernel
theorem dX8_runFrom_11 : decode cX8_runFrom 11 = .ok (.istore_n 3, 1) := by decide +kernel
theorem dX8_runFrom_12 : decode cX8_runFrom 12 = .ok (.iload_n 1, 1) := by decide +kernel
theorem dX8_runFrom_13 : decode cX8_runFrom 13 = .ok (.iconst 1, 1) := by decide +kernel
theorem dX8_runFrom_14 : decode cX8_runFrom 14 = .ok (.iadd, 1) := by decide +kernel
theorem dX8_runFrom_15 : decode cX8_runFrom 15 = .ok (.istore 4, 2) := by decide +kernel
theorem dX8_runFrom_17 : decode cX8_runFrom 17 = .ok (.iload 4, 2) := by decide +kernel
theorem dX8_runFrom_19 : decode cX8_runFrom 19 = .ok (.aload_n 0, 1) := by decide +kernel
theorem dX8_runFrom_20 : decode cX8_runFrom 20 = .ok (.getfield 21, 3) := by decide +kernel
theorem dX8_runFrom_23 : decode cX8_runFrom 23 = .ok (.if_icmp .ge 26, 3) := by decide +kernel
theorem dX8_runFrom_26 : decode cX8_runFrom 26 = .ok (.aload_n 0, 1) := by decide +kernel
theorem dX8_runFrom_27 : decode cX8_runFrom 27 = .ok (.getfield 9, 3) := by decide +kernel
theorem dX8_runFrom_30 : decode cX8_runFrom 30 = .ok (.iload 4, 2) := by decide +kernel
theorem dX8_runFrom_32 : decode cX8_runFrom 32 = .ok (.iaload, 1) := by decide +kernel
theorem dX8_runFrom_33 : decode cX8_runFrom 33 = .ok (.invokestatic 36, 3) := by decide +kernel
theorem dX8_runFrom_36 : decode cX8_runFrom 36 = .ok (.iload_n 2, 1) := by decide +kernel
theorem dX8_runFrom_37 : decode cX8_runFrom 37 = .ok (.if_icmp .ne 12, 3) := by decide +kernel
theorem dX8_runFrom_40 : decode cX8_runFrom 40 = .ok (.iinc 3 1, 3) := by decide +kernel
theorem dX8_runFrom_43 : decode cX8_runFrom 43 = .ok (.iinc 4 1, 3) := by decide +kernel
theorem dX8_runFrom_46 : decode cX8_runFrom 46 = .ok (.goto (-29), 3) := by decide +kernel
theorem dX8_runFrom_49 : decode cX8_runFrom 49 = .ok (.iload_n 3, 1) := by decide +kernel
theorem dX8_runFrom_50 : decode cX8_runFrom 50 = .ok (.ireturn, 1) := by decide +kernel
theorem dX8_numberKind_0 : decode cX8_numberKind 0 = .ok (.iload_n 2, 1) := by decide +kernel
theorem dX8_numberKind_1 : decode cX8_numberKind 1 = .ok (.iconst 4, 1) := by decide +kernel
theorem dX8_numberKind_2 : decode cX8_numberKind 2 = .ok (.if_icmp .le 5, 3) := by decide +kernel
theorem dX8_numberKind_5 : decode cX8_numberKind 5 = .ok (.iconst 1, 1) := by decide +kernel
theorem dX8_numberKind_6 : decode cX8_numberKind 6 = .ok (.ireturn, 1) := by decide +kernel
theorem dX8_numberKind_7 : decode cX8_numberKind 7 = .ok (.iconst 0, 1) := by decide +kernel
theorem dX8_numberKind_8 : decode cX8_numberKind 8 = .ok (.istore_n 3, 1) := by decide +kernel
theorem dX8_numberKind_9 : decode cX8_numberKind 9 = .ok (.iload_n 1, 1) := by decide +kernel
theorem dX8_numberKind_10 : decode cX8_numberKind 10 = .ok (.istore 4, 2) := by decide +kernel
theorem dX8_numberKind_12 : decode cX8_numberKind 12 = .ok (.iload 4, 2) := by decide +kernel
theorem dX8_numberKind_14 : decode cX8_numberKind 14 = .ok (.iload_n 1, 1) := by decide +kernel
theorem dX8_numberKind_15 : decode cX8_numberKind 15 = .ok (.iload_n 2, 1) := by decide +kernel
theorem dX8_numberKind_16 : decode cX8_numberKind 16 = .ok (.iadd, 1) := by decide +kernel
theorem dX8_numberKind_17 : decode cX8_numberKind 17 = .ok (.if_icmp .ge 25, 3) := by decide +kernel
theorem dX8_numberKind_20 : decode cX8_numberKind 20 = .ok (.iload_n 3, 1) := by decide +kernel
theorem dX8_numberKind_21 : decode cX8_numberKind 21 = .ok (.bipush 10, 2) := by decide +kernel
theorem dX8_numberKind_23 : decode cX8_numberKind 23 = .ok (.imul, 1) := by decide +kernel
theorem dX8_numberKind_24 : decode cX8_numberKind 24 = .ok (.aload_n 0, 1) := by decide +kernel
theorem dX8_numberKind_25 : decode cX8_numberKind 25 = .ok (.getfield 9, 3) := by decide +kernel
theorem dX8_numberKind_28 : decode cX8_numberKind 28 = .ok (.iload 4, 2) := by decide +kernel
theorem dX8_numberKind_30 : decode cX8_numberKind 30 = .ok (.iaload, 1) := by decide +kernel
theorem dX8_numberKind_31 : decode cX8_numberKind 31 = .ok (.iadd, 1) := by decide +kernel
theorem dX8_numberKind_32 : decode cX8_numberKind 32 = .ok (.bipush 48, 2) := by decide +kernel
theorem dX8_numberKind_34 : decode cX8_numberKind 34 = .ok (.isub, 1) := by decide +kernel
theorem dX8_numberKind_35 : decode cX8_numberKind 35 = .ok (.istore_n 3, 1) := by decide +kernel
theorem dX8_numberKind_36 : decode cX8_numberKind 36 = .ok (.iinc 4 1, 3) := by decide +kernel
theorem dX8_numberKind_39 : decode cX8_numberKind 39 = .ok (.goto (-27), 3) := by decide +kernel
theorem dX8_numberKind_42 : decode cX8_numberKind 42 = .ok (.iload_n 3, 1) := by decide +kernel
theorem dX8_numberKind_43 : decode cX8_numberKind 43 = .ok (.iconst (-1), 1) := by decide +kernel
theorem dX8_numberKind_44 : decode cX8_numberKind 44 = .ok (.ixor, 1) := by decide +kernel
theorem dX8_numberKind_45 : decode cX8_numberKind 45 = .ok (.ireturn, 1) := by decide +kernel
theorem dX8_wordKind_0 : decode cX8_wordKind 0 = .ok (.iconst 0, 1) := by decide +kernel
theorem dX8_wordKind_1 : decode cX8_wordKind 1 = .ok (.istore_n 3, 1) := by decide +kernel
theorem dX8_wordKind_2 : decode cX8_wordKind 2 = .ok (.iconst 0, 1) := by decide +kernel
theorem dX8_wordKind_3 : decode cX8_wordKind 3 = .ok (.istore 4, 2) := by decide +kernel
theorem dX8_wordKind_5 : decode cX8_wordKind 5 = .ok (.iconst 0, 1) := by decide +kernel
theorem dX8_wordKind_6 : decode cX8_wordKind 6 = .ok (.istore 5, 2) := by decide +kernel
theorem dX8_wordKind_8 : decode cX8_wordKind 8 = .ok (.iload 5, 2) := by decide +kernel
theorem dX8_wordKind_10 : decode cX8_wordKind 10 = .ok (.ldc 56, 2) := by decide +kernel
theorem dX8_wordKind_12 : decode cX8_wordKind 12 = .ok (.invokevirtual 58, 3) := by decide +kernel
theorem dX8_wordKind_15 : decode cX8_wordKind 15 = .ok (.if_icmp .ge 56, 3) := by decide +kernel
theorem dX8_wordKind_18 : decode cX8_wordKind 18 = .ok (.ldc 56, 2) := by decide +kernel
theorem dX8_wordKind_20 : decode cX8_wordKind 20 = .ok (.iload 5, 2) := by decide +kernel
theorem dX8_wordKind_22 : decode cX8_wordKind 22 = .ok (.invokevirtual 61, 3) := by decide +kernel
theorem dX8_wordKind_25 : decode cX8_wordKind 25 = .ok (.bipush 32, 2) := by decide +kernel
theorem dX8_wordKind_27 : decode cX8_wordKind 27 = .ok (.if_icmp .ne 38, 3) := by decide +kernel
theorem dX8_wordKind_30 : decode cX8_wordKind 30 = .ok (.iload 5, 2) := by decide +kernel
theorem dX8_wordKind_32 : decode cX8_wordKind 32 = .ok (.iload 4, 2) := by decide +kernel
theorem dX8_wordKind_34 : decode cX8_wordKind 34 = .ok (.isub, 1) := by decide +kernel
theorem dX8_wordKind_35 : decode cX8_wordKind 35 = .ok (.iload_n 2, 1) := by decide +kernel
theorem dX8_wordKind_36 : decode cX8_wordKind 36 = .ok (.if_icmp .ne 20, 3) := by decide +kernel
theorem dX8_wordKind_39 : decode cX8_wordKind 39 = .ok (.aload_n 0, 1) := by decide +kernel
theorem dX8_wordKind_40 : decode cX8_wordKind 40 = .ok (.iload_n 1, 1) := by decide +kernel
theorem dX8_wordKind_41 : decode cX8_wordKind 41 = .ok (.iload 4, 2) := by decide +kernel
theorem dX8_wordKind_43 : decode cX8_wordKind 43 = .ok (.iload_n 2, 1) := by decide +kernel
theorem dX8_wordKind_44 : decode cX8_wordKind 44 = .ok (.invokevirtual 65, 3) := by decide +kernel
theorem dX8_wordKind_47 : decode cX8_wordKind 47 = .ok (.ifCond .eq 9, 3) := by decide +kernel
theorem dX8_wordKind_50 : decode cX8_wordKind 50 = .ok (.sipush 256, 3) := by decide +kernel
theorem dX8_wordKind_53 : decode cX8_wordKind 53 = .ok (.iload_n 3, 1) := by decide +kernel
theorem dX8_wordKind_54 : decode cX8_wordKind 54 = .ok (.iadd, 1) := by decide +kernel
theorem dX8_wordKind_55 : decode cX8_wordKind 55 = .ok (.ireturn, 1) := by decide +kernel
theorem dX8_wordKind_56 : decode cX8_wordKind 56 = .ok (.iinc 3 1, 3) := by decide +kernel
theorem dX8_wordKind_59 : decode cX8_wordKind 59 = .ok (.iload 5, 2) := by decide +kernel
theorem dX8_wordKind_61 : decode cX8_wordKind 61 = .ok (.iconst 1, 1) := by decide +kernel
theorem dX8_wordKind_62 : decode cX8_wordKind 62 = .ok (.iadd, 1) := by decide +kernel
theorem dX8_wordKind_63 : decode cX8_wordKind 63 = .ok (.istore 4, 2) := by decide +kernel
theorem dX8_wordKind_65 : decode cX8_wordKind 65 = .ok (.iinc 5 1, 3) := by decide +kernel
theorem dX8_wordKind_68 : decode cX8_wordKind 68 = .ok (.goto (-60), 3) := by decide +kernel
theorem dX8_wordKind_71 : decode cX8_wordKind 71 = .ok (.iconst 1, 1) := by decide +kernel
theorem dX8_wordKind_72 : decode cX8_wordKind 72 = .ok (.ireturn, 1) := by decide +kernel
theorem dX8_isWord_0 : decode cX8_isWord 0 = .ok (.iconst 0, 1) := by decide +kernel
theorem dX8_isWord_1 : decode cX8_isWord 1 = .ok (.istore 4, 2) := by decide +kernel
theorem dX8_isWord_3 : decode cX8_isWord 3 = .ok (.iload 4, 2) := by decide +kernel
theorem dX8_isWord_5 : decode cX8_isWord 5 = .ok (.iload_n 3, 1) := by decide +kernel
theorem dX8_isWord_6 : decode cX8_isWord 6 = .ok (.if_icmp .ge 32, 3) := by decide +kernel
theorem dX8_isWord_9 : decode cX8_isWord 9 = .ok (.ldc 56, 2) := by decide +kernel
theorem dX8_isWord_11 : decode cX8_isWord 11 = .ok (.iload_n 2, 1) := by decide +kernel
theorem dX8_isWord_12 : decode cX8_isWord 12 = .ok (.iload 4, 2) := by decide +kernel
theorem dX8_isWord_14 : decode cX8_isWord 14 = .ok (.iadd, 1) := by decide +kernel
theorem dX8_isWord_15 : decode cX8_isWord 15 = .ok (.invokevirtual 61, 3) := by decide +kernel
theorem dX8_isWord_18 : decode cX8_isWord 18 = .ok (.aload_n 0, 1) := by decide +kernel
theorem dX8_isWord_19 : decode cX8_isWord 19 = .ok (.getfield 9, 3) := by decide +kernel
theorem dX8_isWord_22 : decode cX8_isWord 22 = .ok (.iload_n 1, 1) := by decide +kernel
theorem dX8_isWord_23 : decode cX8_isWord 23 = .ok (.iload 4, 2) := by decide +kernel
theorem dX8_isWord_25 : decode cX8_isWord 25 = .ok (.iadd, 1) := by decide +kernel
theorem dX8_isWord_26 : decode cX8_isWord 26 = .ok (.iaload, 1) := by decide +kernel
theorem dX8_isWord_27 : decode cX8_isWord 27 = .ok (.if_icmp .eq 5, 3) := by decide +kernel
theorem dX8_isWord_30 : decode cX8_isWord 30 = .ok (.iconst 0, 1) := by decide +kernel
theorem dX8_isWord_31 : decode cX8_isWord 31 = .ok (.ireturn, 1) := by decide +kernel
theorem dX8_isWord_32 : decode cX8_isWord 32 = .ok (.iinc 4 1, 3) := by decide +kernel
theorem dX8_isWord_35 : decode cX8_isWord 35 = .ok (.goto (-32), 3) := by decide +kernel
theorem dX8_isWord_38 : decode cX8_isWord 38 = .ok (.iconst 1, 1) := by decide +kernel
theorem dX8_isWord_39 : decode cX8_isWord 39 = .ok (.ireturn, 1) := by decide +kernel
theorem dX9_init_0 : decode cX9_init 0 = .ok (.aload_n 0, 1) := by decide +kernel
theorem dX9_init_1 : decode cX9_init 1 = .ok (.invokespecial 3, 3) := by decide +kernel
theorem dX9_init_4 : decode cX9_init 4 = .ok (.aload_n 0, 1) := by decide +kernel
theorem dX9_init_5 : decode cX9_init 5 = .ok (.bipush 32, 2) := by decide +kernel
theorem dX9_init_7 : decode cX9_init 7 = .ok (.newarray .int, 2) := by decide +kernel
theorem dX9_init_9 : decode cX9_init 9 = .ok (.putfield 9, 3) := by decide +kernel
theorem dX9_init_12 : decode cX9_init 12 = .ok (.aload_n 0, 1) := by decide +kernel
theorem dX9_init_13 : decode cX9_init 13 = .ok (.iload_n 1, 1) := by decide +kernel
theorem dX9_init_14 : decode cX9_init 14 = .ok (.putfield 15, 3) := by decide +kernel
theorem dX9_init_17 : decode cX9_init 17 = .ok (.aload_n 0, 1) := by decide +kernel
theorem dX9_init_18 : decode cX9_init 18 = .ok (.getfield 9, 3) := by decide +kernel
theorem dX9_init_21 : decode cX9_init 21 = .ok (.bipush 32, 2) := by decide +kernel
theorem dX9_init_23 : decode cX9_init 23 = .ok (.invokestatic 19, 3) := by decide +kernel
theorem dX9_init_26 : decode cX9_init 26 = .ok (.return_, 1) := by decide +kernel

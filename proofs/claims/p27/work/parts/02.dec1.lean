theorem dJ0_coder_7d493_0 : decode cJ0_coder_7d493 0 = .ok (.getstatic 38, 3) := by decide +kernel
theorem dJ0_coder_7d493_3 : decode cJ0_coder_7d493 3 = .ok (.ifCond .eq 10, 3) := by decide +kernel
theorem dJ0_coder_7d493_6 : decode cJ0_coder_7d493 6 = .ok (.aload_n 0, 1) := by decide +kernel
theorem dJ0_coder_7d493_7 : decode cJ0_coder_7d493 7 = .ok (.getfield 15, 3) := by decide +kernel
theorem dJ0_coder_7d493_10 : decode cJ0_coder_7d493 10 = .ok (.goto 4, 3) := by decide +kernel
theorem dJ0_coder_7d493_13 : decode cJ0_coder_7d493 13 = .ok (.iconst 1, 1) := by decide +kernel
theorem dJ0_coder_7d493_14 : decode cJ0_coder_7d493 14 = .ok (.ireturn, 1) := by decide +kernel
theorem dJ0_indexOf_0f7a4_0 : decode cJ0_indexOf_0f7a4 0 = .ok (.aload_n 0, 1) := by decide +kernel
theorem dJ0_indexOf_0f7a4_1 : decode cJ0_indexOf_0f7a4 1 = .ok (.iload_n 1, 1) := by decide +kernel
theorem dJ0_indexOf_0f7a4_2 : decode cJ0_indexOf_0f7a4 2 = .ok (.iconst 0, 1) := by decide +kernel
theorem dJ0_indexOf_0f7a4_3 : decode cJ0_indexOf_0f7a4 3 = .ok (.invokevirtual 633, 3) := by decide +kernel
theorem dJ0_indexOf_0f7a4_6 : decode cJ0_indexOf_0f7a4 6 = .ok (.ireturn, 1) := by decide +kernel
theorem dJ0_indexOf_7cf53_0 : decode cJ0_indexOf_7cf53 0 = .ok (.aload_n 0, 1) := by decide +kernel
theorem dJ0_indexOf_7cf53_1 : decode cJ0_indexOf_7cf53 1 = .ok (.invokevirtual 492, 3) := by decide +kernel
theorem dJ0_indexOf_7cf53_4 : decode cJ0_indexOf_7cf53 4 = .ok (.ifCond .eq 19, 3) := by decide +kernel
theorem dJ0_indexOf_7cf53_7 : decode cJ0_indexOf_7cf53 7 = .ok (.aload_n 0, 1) := by decide +kernel
theorem dJ0_indexOf_7cf53_8 : decode cJ0_indexOf_7cf53 8 = .ok (.getfield 9, 3) := by decide +kernel
theorem dJ0_indexOf_7cf53_11 : decode cJ0_indexOf_7cf53 11 = .ok (.iload_n 1, 1) := by decide +kernel
theorem dJ0_indexOf_7cf53_12 : decode cJ0_indexOf_7cf53 12 = .ok (.iload_n 2, 1) := by decide +kernel
theorem dJ0_indexOf_7cf53_13 : decode cJ0_indexOf_7cf53 13 = .ok (.aload_n 0, 1) := by decide +kernel
theorem dJ0_indexOf_7cf53_14 : decode cJ0_indexOf_7cf53 14 = .ok (.invokevirtual 505, 3) := by decide +kernel
theorem dJ0_indexOf_7cf53_17 : decode cJ0_indexOf_7cf53 17 = .ok (.invokestatic 637, 3) := by decide +kernel
theorem dJ0_indexOf_7cf53_20 : decode cJ0_indexOf_7cf53 20 = .ok (.goto 16, 3) := by decide +kernel
theorem dJ0_indexOf_7cf53_23 : decode cJ0_indexOf_7cf53 23 = .ok (.aload_n 0, 1) := by decide +kernel
theorem dJ0_indexOf_7cf53_24 : decode cJ0_indexOf_7cf53 24 = .ok (.getfield 9, 3) := by decide +kernel
theorem dJ0_indexOf_7cf53_27 : decode cJ0_indexOf_7cf53 27 = .ok (.iload_n 1, 1) := by decide +kernel
theorem dJ0_indexOf_7cf53_28 : decode cJ0_indexOf_7cf53 28 = .ok (.iload_n 2, 1) := by decide +kernel
theorem dJ0_indexOf_7cf53_29 : decode cJ0_indexOf_7cf53 29 = .ok (.aload_n 0, 1) := by decide +kernel
theorem dJ0_indexOf_7cf53_30 : decode cJ0_indexOf_7cf53 30 = .ok (.invokevirtual 505, 3) := by decide +kernel
theorem dJ0_indexOf_7cf53_33 : decode cJ0_indexOf_7cf53 33 = .ok (.invokestatic 640, 3) := by decide +kernel
theorem dJ0_indexOf_7cf53_36 : decode cJ0_indexOf_7cf53 36 = .ok (.ireturn, 1) := by decide +kernel
theorem dJ0_isLatin1_aae02_0 : decode cJ0_isLatin1_aae02 0 = .ok (.getstatic 38, 3) := by decide +kernel
theorem dJ0_isLatin1_aae02_3 : decode cJ0_isLatin1_aae02 3 = .ok (.ifCond .eq 14, 3) := by decide +kernel
theorem dJ0_isLatin1_aae02_6 : decode cJ0_isLatin1_aae02 6 = .ok (.aload_n 0, 1) := by decide +kernel
theorem dJ0_isLatin1_aae02_7 : decode cJ0_isLatin1_aae02 7 = .ok (.getfield 15, 3) := by decide +kernel
theorem dJ0_isLatin1_aae02_10 : decode cJ0_isLatin1_aae02 10 = .ok (.ifCond .ne 7, 3) := by decide +kernel
theorem dJ0_isLatin1_aae02_13 : decode cJ0_isLatin1_aae02 13 = .ok (.iconst 1, 1) := by decide +kernel
theorem dJ0_isLatin1_aae02_14 : decode cJ0_isLatin1_aae02 14 = .ok (.goto 4, 3) := by decide +kernel
theorem dJ0_isLatin1_aae02_17 : decode cJ0_isLatin1_aae02 17 = .ok (.iconst 0, 1) := by decide +kernel
theorem dJ0_isLatin1_aae02_18 : decode cJ0_isLatin1_aae02 18 = .ok (.ireturn, 1) := by decide +kernel
theorem dJ0_length_8abf5_0 : decode cJ0_length_8abf5 0 = .ok (.aload_n 0, 1) := by decide +kernel
theorem dJ0_length_8abf5_1 : decode cJ0_length_8abf5 1 = .ok (.getfield 9, 3) := by decide +kernel
theorem dJ0_length_8abf5_4 : decode cJ0_length_8abf5 4 = .ok (.arraylength, 1) := by decide +kernel
theorem dJ0_length_8abf5_5 : decode cJ0_length_8abf5 5 = .ok (.aload_n 0, 1) := by decide +kernel
theorem dJ0_length_8abf5_6 : decode cJ0_length_8abf5 6 = .ok (.invokevirtual 335, 3) := by decide +kernel
theorem dJ0_length_8abf5_9 : decode cJ0_length_8abf5 9 = .ok (.ishr, 1) := by decide +kernel
theorem dJ0_length_8abf5_10 : decode cJ0_length_8abf5 10 = .ok (.ireturn, 1) := by decide +kernel
theorem dJ1_canEncode_9a6ad_0 : decode cJ1_canEncode_9a6ad 0 = .ok (.iload_n 0, 1) := by decide +kernel
theorem dJ1_canEncode_9a6ad_1 : decode cJ1_canEncode_9a6ad 1 = .ok (.ifCond .lt 14, 3) := by decide +kernel
theorem dJ1_canEncode_9a6ad_4 : decode cJ1_canEncode_9a6ad 4 = .ok (.iload_n 0, 1) := by decide +kernel
theorem dJ1_canEncode_9a6ad_5 : decode cJ1_canEncode_9a6ad 5 = .ok (.sipush 255, 3) := by decide +kernel
theorem dJ1_canEncode_9a6ad_8 : decode cJ1_canEncode_9a6ad 8 = .ok (.if_icmp .gt 7, 3) := by decide +kernel
theorem dJ1_canEncode_9a6ad_11 : decode cJ1_canEncode_9a6ad 11 = .ok (.iconst 1, 1) := by decide +kernel
theorem dJ1_canEncode_9a6ad_12 : decode cJ1_canEncode_9a6ad 12 = .ok (.goto 4, 3) := by decide +kernel
theorem dJ1_canEncode_9a6ad_15 : decode cJ1_canEncode_9a6ad 15 = .ok (.iconst 0, 1) := by decide +kernel
theorem dJ1_canEncode_9a6ad_16 : decode cJ1_canEncode_9a6ad 16 = .ok (.ireturn, 1) := by decide +kernel
theorem dJ1_indexOfChar_4cfef_0 : decode cJ1_indexOfChar_4cfef 0 = .ok (.iload_n 1, 1) := by decide +kernel
theorem dJ1_indexOfChar_4cfef_1 : decode cJ1_indexOfChar_4cfef 1 = .ok (.i2b, 1) := by decide +kernel
theorem dJ1_indexOfChar_4cfef_2 : decode cJ1_indexOfChar_4cfef 2 = .ok (.istore 4, 2) := by decide +kernel
theorem dJ1_indexOfChar_4cfef_4 : decode cJ1_indexOfChar_4cfef 4 = .ok (.iload_n 2, 1) := by decide +kernel
theorem dJ1_indexOfChar_4cfef_5 : decode cJ1_indexOfChar_4cfef 5 = .ok (.istore 5, 2) := by decide +kernel
theorem dJ1_indexOfChar_4cfef_7 : decode cJ1_indexOfChar_4cfef 7 = .ok (.iload 5, 2) := by decide +kernel
theorem dJ1_indexOfChar_4cfef_9 : decode cJ1_indexOfChar_4cfef 9 = .ok (.iload_n 3, 1) := by decide +kernel
theorem dJ1_indexOfChar_4cfef_10 : decode cJ1_indexOfChar_4cfef 10 = .ok (.if_icmp .ge 21, 3) := by decide +kernel
theorem dJ1_indexOfChar_4cfef_13 : decode cJ1_indexOfChar_4cfef 13 = .ok (.aload_n 0, 1) := by decide +kernel
theorem dJ1_indexOfChar_4cfef_14 : decode cJ1_indexOfChar_4cfef 14 = .ok (.iload 5, 2) := by decide +kernel
theorem dJ1_indexOfChar_4cfef_16 : decode cJ1_indexOfChar_4cfef 16 = .ok (.baload, 1) := by decide +kernel
theorem dJ1_indexOfChar_4cfef_17 : decode cJ1_indexOfChar_4cfef 17 = .ok (.iload 4, 2) := by decide +kernel
theorem dJ1_indexOfChar_4cfef_19 : decode cJ1_indexOfChar_4cfef 19 = .ok (.if_icmp .ne 6, 3) := by decide +kernel
theorem dJ1_indexOfChar_4cfef_22 : decode cJ1_indexOfChar_4cfef 22 = .ok (.iload 5, 2) := by decide +kernel
theorem dJ1_indexOfChar_4cfef_24 : decode cJ1_indexOfChar_4cfef 24 = .ok (.ireturn, 1) := by decide +kernel
theorem dJ1_indexOfChar_4cfef_25 : decode cJ1_indexOfChar_4cfef 25 = .ok (.iinc 5 1, 3) := by decide +kernel
theorem dJ1_indexOfChar_4cfef_28 : decode cJ1_indexOfChar_4cfef 28 = .ok (.goto (-21), 3) := by decide +kernel
theorem dJ1_indexOfChar_4cfef_31 : decode cJ1_indexOfChar_4cfef 31 = .ok (.iconst (-1), 1) := by decide +kernel
theorem dJ1_indexOfChar_4cfef_32 : decode cJ1_indexOfChar_4cfef 32 = .ok (.ireturn, 1) := by decide +kernel
theorem dJ1_indexOf_4cfef_0 : decode cJ1_indexOf_4cfef 0 = .ok (.iload_n 1, 1) := by decide +kernel
theorem dJ1_indexOf_4cfef_1 : decode cJ1_indexOf_4cfef 1 = .ok (.invokestatic 88, 3) := by decide +kernel
theorem dJ1_indexOf_4cfef_4 : decode cJ1_indexOf_4cfef 4 = .ok (.ifCond .ne 5, 3) := by decide +kernel
theorem dJ1_indexOf_4cfef_7 : decode cJ1_indexOf_4cfef 7 = .ok (.iconst (-1), 1) := by decide +kernel
theorem dJ1_indexOf_4cfef_8 : decode cJ1_indexOf_4cfef 8 = .ok (.ireturn, 1) := by decide +kernel
theorem dJ1_indexOf_4cfef_9 : decode cJ1_indexOf_4cfef 9 = .ok (.iload_n 2, 1) := by decide +kernel
theorem dJ1_indexOf_4cfef_10 : decode cJ1_indexOf_4cfef 10 = .ok (.iconst 0, 1) := by decide +kernel
theorem dJ1_indexOf_4cfef_11 : decode cJ1_indexOf_4cfef 11 = .ok (.invokestatic 92, 3) := by decide +kernel
theorem dJ1_indexOf_4cfef_14 : decode cJ1_indexOf_4cfef 14 = .ok (.istore_n 2, 1) := by decide +kernel
theorem dJ1_indexOf_4cfef_15 : decode cJ1_indexOf_4cfef 15 = .ok (.iload_n 3, 1) := by decide +kernel
theorem dJ1_indexOf_4cfef_16 : decode cJ1_indexOf_4cfef 16 = .ok (.aload_n 0, 1) := by decide +kernel
theorem dJ1_indexOf_4cfef_17 : decode cJ1_indexOf_4cfef 17 = .ok (.arraylength, 1) := by decide +kernel
theorem dJ1_indexOf_4cfef_18 : decode cJ1_indexOf_4cfef 18 = .ok (.invokestatic 38, 3) := by decide +kernel
theorem dJ1_indexOf_4cfef_21 : decode cJ1_indexOf_4cfef 21 = .ok (.istore_n 3, 1) := by decide +kernel
theorem dJ1_indexOf_4cfef_22 : decode cJ1_indexOf_4cfef 22 = .ok (.iload_n 2, 1) := by decide +kernel
theorem dJ1_indexOf_4cfef_23 : decode cJ1_indexOf_4cfef 23 = .ok (.iload_n 3, 1) := by decide +kernel
theorem dJ1_indexOf_4cfef_24 : decode cJ1_indexOf_4cfef 24 = .ok (.if_icmp .lt 5, 3) := by decide +kernel
theorem dJ1_indexOf_4cfef_27 : decode cJ1_indexOf_4cfef 27 = .ok (.iconst (-1), 1) := by decide +kernel
theorem dJ1_indexOf_4cfef_28 : decode cJ1_indexOf_4cfef 28 = .ok (.ireturn, 1) := by decide +kernel
theorem dJ1_indexOf_4cfef_29 : decode cJ1_indexOf_4cfef 29 = .ok (.aload_n 0, 1) := by decide +kernel
theorem dJ1_indexOf_4cfef_30 : decode cJ1_indexOf_4cfef 30 = .ok (.iload_n 1, 1) := by decide +kernel
theorem dJ1_indexOf_4cfef_31 : decode cJ1_indexOf_4cfef 31 = .ok (.iload_n 2, 1) := by decide +kernel
theorem dJ1_indexOf_4cfef_32 : decode cJ1_indexOf_4cfef 32 = .ok (.iload_n 3, 1) := by decide +kernel
theorem dJ1_indexOf_4cfef_33 : decode cJ1_indexOf_4cfef 33 = .ok (.invokestatic 95, 3) := by decide +kernel
theorem dJ1_indexOf_4cfef_36 : decode cJ1_indexOf_4cfef 36 = .ok (.ireturn, 1) := by decide +kernel
theorem dJ6_bitCount_0f7a4_0 : decode cJ6_bitCount_0f7a4 0 = .ok (.iload_n 0, 1) := by decide +kernel
theorem dJ6_bitCount_0f7a4_1 : decode cJ6_bitCount_0f7a4 1 = .ok (.iload_n 0, 1) := by decide +kernel
theorem dJ6_bitCount_0f7a4_2 : decode cJ6_bitCount_0f7a4 2 = .ok (.iconst 1, 1) := by decide +kernel
theorem dJ6_bitCount_0f7a4_3 : decode cJ6_bitCount_0f7a4 3 = .ok (.iushr, 1) := by decide +kernel
theorem dJ6_bitCount_0f7a4_4 : decode cJ6_bitCount_0f7a4 4 = .ok (.ldc_w 265, 3) := by decide +kernel
theorem dJ6_bitCount_0f7a4_7 : decode cJ6_bitCount_0f7a4 7 = .ok (.iand, 1) := by decide +kernel
theorem dJ6_bitCount_0f7a4_8 : decode cJ6_bitCount_0f7a4 8 = .ok (.isub, 1) := by decide +kernel
theorem dJ6_bitCount_0f7a4_9 : decode cJ6_bitCount_0f7a4 9 = .ok (.istore_n 0, 1) := by decide +kernel
theorem dJ6_bitCount_0f7a4_10 : decode cJ6_bitCount_0f7a4 10 = .ok (.iload_n 0, 1) := by decide +kernel
theorem dJ6_bitCount_0f7a4_11 : decode cJ6_bitCount_0f7a4 11 = .ok (.ldc_w 266, 3) := by decide +kernel
theorem dJ6_bitCount_0f7a4_14 : decode cJ6_bitCount_0f7a4 14 = .ok (.iand, 1) := by decide +kernel
theorem dJ6_bitCount_0f7a4_15 : decode cJ6_bitCount_0f7a4 15 = .ok (.iload_n 0, 1) := by decide +kernel
theorem dJ6_bitCount_0f7a4_16 : decode cJ6_bitCount_0f7a4 16 = .ok (.iconst 2, 1) := by decide +kernel
theorem dJ6_bitCount_0f7a4_17 : decode cJ6_bitCount_0f7a4 17 = .ok (.iushr, 1) := by decide +kernel
theorem dJ6_bitCount_0f7a4_18 : decode cJ6_bitCount_0f7a4 18 = .ok (.ldc_w 266, 3) := by decide +kernel
theorem dJ6_bitCount_0f7a4_21 : decode cJ6_bitCount_0f7a4 21 = .ok (.iand, 1) := by decide +kernel
theorem dJ6_bitCount_0f7a4_22 : decode cJ6_bitCount_0f7a4 22 = .ok (.iadd, 1) := by decide +kernel
theorem dJ6_bitCount_0f7a4_23 : decode cJ6_bitCount_0f7a4 23 = .ok (.istore_n 0, 1) := by decide +kernel
theorem dJ6_bitCount_0f7a4_24 : decode cJ6_bitCount_0f7a4 24 = .ok (.iload_n 0, 1) := by decide +kernel
theorem dJ6_bitCount_0f7a4_25 : decode cJ6_bitCount_0f7a4 25 = .ok (.iload_n 0, 1) := by decide +kernel
theorem dJ6_bitCount_0f7a4_26 : decode cJ6_bitCount_0f7a4 26 = .ok (.iconst 4, 1) := by decide +kernel
theorem dJ6_bitCount_0f7a4_27 : decode cJ6_bitCount_0f7a4 27 = .ok (.iushr, 1) := by decide +kernel
theorem dJ6_bitCount_0f7a4_28 : decode cJ6_bitCount_0f7a4 28 = .ok (.iadd, 1) := by decide +kernel
theorem dJ6_bitCount_0f7a4_29 : decode cJ6_bitCount_0f7a4 29 = .ok (.ldc_w 267, 3) := by decide +kernel
theorem dJ6_bitCount_0f7a4_32 : decode cJ6_bitCount_0f7a4 32 = .ok (.iand, 1) := by decide +kernel
theorem dJ6_bitCount_0f7a4_33 : decode cJ6_bitCount_0f7a4 33 = .ok (.istore_n 0, 1) := by decide +kernel
theorem dJ6_bitCount_0f7a4_34 : decode cJ6_bitCount_0f7a4 34 = .ok (.iload_n 0, 1) := by decide +kernel
theorem dJ6_bitCount_0f7a4_35 : decode cJ6_bitCount_0f7a4 35 = .ok (.iload_n 0, 1) := by decide +kernel
theorem dJ6_bitCount_0f7a4_36 : decode cJ6_bitCount_0f7a4 36 = .ok (.bipush 8, 2) := by decide +kernel
theorem dJ6_bitCount_0f7a4_38 : decode cJ6_bitCount_0f7a4 38 = .ok (.iushr, 1) := by decide +kernel
theorem dJ6_bitCount_0f7a4_39 : decode cJ6_bitCount_0f7a4 39 = .ok (.iadd, 1) := by decide +kernel
theorem dJ6_bitCount_0f7a4_40 : decode cJ6_bitCount_0f7a4 40 = .ok (.istore_n 0, 1) := by decide +kernel
theorem dJ6_bitCount_0f7a4_41 : decode cJ6_bitCount_0f7a4 41 = .ok (.iload_n 0, 1) := by decide +kernel
theorem dJ6_bitCount_0f7a4_42 : decode cJ6_bitCount_0f7a4 42 = .ok (.iload_n 0, 1) := by decide +kernel
theorem dJ6_bitCount_0f7a4_43 : decode cJ6_bitCount_0f7a4 43 = .ok (.bipush 16, 2) := by decide +kernel
theorem dJ6_bitCount_0f7a4_45 : decode cJ6_bitCount_0f7a4 45 = .ok (.iushr, 1) := by decide +kernel
theorem dJ6_bitCount_0f7a4_46 : decode cJ6_bitCount_0f7a4 46 = .ok (.iadd, 1) := by decide +kernel
theorem dJ6_bitCount_0f7a4_47 : decode cJ6_bitCount_0f7a4 47 = .ok (.istore_n 0, 1) := by decide +kernel
theorem dJ6_bitCount_0f7a4_48 : decode cJ6_bitCount_0f7a4 48 = .ok (.iload_n 0, 1) := by decide +kernel
theorem dJ6_bitCount_0f7a4_49 : decode cJ6_bitCount_0f7a4 49 = .ok (.bipush 63, 2) := by decide +kernel
theorem dJ6_bitCount_0f7a4_51 : decode cJ6_bitCount_0f7a4 51 = .ok (.iand, 1) := by decide +kernel
theorem dJ6_bitCount_0f7a4_52 : decode cJ6_bitCount_0f7a4 52 = .ok (.ireturn, 1) := by decide +kernel
theorem dX0_admit_0 : decode cX0_admit 0 = .ok (.aload_n 0, 1) := by decide +kernel
theorem dX0_admit_1 : decode cX0_admit 1 = .ok (.dup, 1) := by decide +kernel
theorem dX0_admit_2 : decode cX0_admit 2 = .ok (.getfield 38, 3) := by decide +kernel
theorem dX0_admit_5 : decode cX0_admit 5 = .ok (.iconst 1, 1) := by decide +kernel
theorem dX0_admit_6 : decode cX0_admit 6 = .ok (.iadd, 1) := by decide +kernel
theorem dX0_admit_7 : decode cX0_admit 7 = .ok (.putfield 38, 3) := by decide +kernel
theorem dX0_admit_10 : decode cX0_admit 10 = .ok (.aload_n 0, 1) := by decide +kernel
theorem dX0_admit_11 : decode cX0_admit 11 = .ok (.getfield 22, 3) := by decide +kernel
theorem dX0_admit_14 : decode cX0_admit 14 = .ok (.aload_n 0, 1) := by decide +kernel
theorem dX0_admit_15 : decode cX0_admit 15 = .ok (.getfield 17, 3) := by decide +kernel
theorem dX0_admit_18 : decode cX0_admit 18 = .ok (.if_icmp .lt 7, 3) := by decide +kernel
theorem dX0_admit_21 : decode cX0_admit 21 = .ok (.aload_n 0, 1) := by decide +kernel
theorem dX0_admit_22 : decode cX0_admit 22 = .ok (.invokevirtual 41, 3) := by decide +kernel
theorem dX0_admit_25 : decode cX0_admit 25 = .ok (.aload_n 0, 1) := by decide +kernel
theorem dX0_admit_26 : decode cX0_admit 26 = .ok (.getfield 11, 3) := by decide +kernel
theorem dX0_admit_29 : decode cX0_admit 29 = .ok (.aload_n 0, 1) := by decide +kernel
theorem dX0_admit_30 : decode cX0_admit 30 = .ok (.getfield 22, 3) := by decide +kernel
theorem dX0_admit_33 : decode cX0_admit 33 = .ok (.aaload, 1) := by decide +kernel
theorem dX0_admit_34 : decode cX0_admit 34 = .ok (.astore_n 3, 1) := by decide +kernel
theorem dX0_admit_35 : decode cX0_admit 35 = .ok (.aload_n 0, 1) := by decide +kernel
theorem dX0_admit_36 : decode cX0_admit 36 = .ok (.dup, 1) := by decide +kernel
theorem dX0_admit_37 : decode cX0_admit 37 = .ok (.getfield 22, 3) := by decide +kernel
theorem dX0_admit_40 : decode cX0_admit 40 = .ok (.iconst 1, 1) := by decide +kernel
theorem dX0_admit_41 : decode cX0_admit 41 = .ok (.iadd, 1) := by decide +kernel
theorem dX0_admit_42 : decode cX0_admit 42 = .ok (.putfield 22, 3) := by decide +kernel
theorem dX0_admit_45 : decode cX0_admit 45 = .ok (.aload_n 3, 1) := by decide +kernel
theorem dX0_admit_46 : decode cX0_admit 46 = .ok (.iload_n 1, 1) := by decide +kernel
theorem dX0_admit_47 : decode cX0_admit 47 = .ok (.putfield 25, 3) := by decide +kernel
theorem dX0_admit_50 : decode cX0_admit 50 = .ok (.aload_n 3, 1) := by decide +kernel
theorem dX0_admit_51 : decode cX0_admit 51 = .ok (.iload_n 2, 1) := by decide +kernel
theorem dX0_admit_52 : decode cX0_admit 52 = .ok (.putfield 28, 3) := by decide +kernel
theorem dX0_admit_55 : decode cX0_admit 55 = .ok (.aload_n 0, 1) := by decide +kernel
theorem dX0_admit_56 : decode cX0_admit 56 = .ok (.aload_n 3, 1) := by decide +kernel
theorem dX0_admit_57 : decode cX0_admit 57 = .ok (.invokevirtual 34, 3) := by decide +kernel
theorem dX0_admit_60 : decode cX0_admit 60 = .ok (.aload_n 3, 1) := by decide +kernel
theorem dX0_admit_61 : decode cX0_admit 61 = .ok (.areturn, 1) := by decide +kernel
theorem dX0_changeRoom_0 : decode cX0_changeRoom 0 = .ok (.aload_n 0, 1) := by decide +kernel
theorem dX0_changeRoom_1 : decode cX0_changeRoom 1 = .ok (.iload_n 1, 1) := by decide +kernel
theorem dX0_changeRoom_2 : decode cX0_changeRoom 2 = .ok (.putfield 17, 3) := by decide +kernel
theorem dX0_changeRoom_5 : decode cX0_changeRoom 5 = .ok (.aload_n 0, 1) := by decide +kernel
theorem dX0_changeRoom_6 : decode cX0_changeRoom 6 = .ok (.getfield 22, 3) := by decide +kernel
theorem dX0_changeRoom_9 : decode cX0_changeRoom 9 = .ok (.iload_n 1, 1) := by decide +kernel
theorem dX0_changeRoom_10 : decode cX0_changeRoom 10 = .ok (.isub, 1) := by decide +kernel
theorem dX0_changeRoom_11 : decode cX0_changeRoom 11 = .ok (.istore_n 2, 1) := by decide +kernel
theorem dX0_changeRoom_12 : decode cX0_changeRoom 12 = .ok (.iload_n 2, 1) := by decide +kernel
theorem dX0_changeRoom_13 : decode cX0_changeRoom 13 = .ok (.ifCond .le 13, 3) := by decide +kernel
theorem dX0_changeRoom_16 : decode cX0_changeRoom 16 = .ok (.aload_n 0, 1) := by decide +kernel
theorem dX0_changeRoom_17 : decode cX0_changeRoom 17 = .ok (.invokevirtual 41, 3) := by decide +kernel
theorem dX0_changeRoom_20 : decode cX0_changeRoom 20 = .ok (.iinc 2 (-1), 3) := by decide +kernel
theorem dX0_changeRoom_23 : decode cX0_changeRoom 23 = .ok (.goto (-11), 3) := by decide +kernel
theorem dX0_changeRoom_26 : decode cX0_changeRoom 26 = .ok (.return_, 1) := by decide +kernel
theorem dX0_dropOldest_0 : decode cX0_dropOldest 0 = .ok (.iconst 0, 1) := by decide +kernel
theorem dX0_dropOldest_1 : decode cX0_dropOldest 1 = .ok (.istore_n 1, 1) := by decide +kernel
theorem dX0_dropOldest_2 : decode cX0_dropOldest 2 = .ok (.iconst 1, 1) := by decide +kernel
theorem dX0_dropOldest_3 : decode cX0_dropOldest 3 = .ok (.istore_n 2, 1) := by decide +kernel
theorem dX0_dropOldest_4 : decode cX0_dropOldest 4 = .ok (.iload_n 2, 1) := by decide +kernel
theorem dX0_dropOldest_5 : decode cX0_dropOldest 5 = .ok (.aload_n 0, 1) := by decide +kernel
theorem dX0_dropOldest_6 : decode cX0_dropOldest 6 = .ok (.getfield 22, 3) := by decide +kernel
theorem dX0_dropOldest_9 : decode cX0_dropOldest 9 = .ok (.if_icmp .ge 32, 3) := by decide +kernel
theorem dX0_dropOldest_12 : decode cX0_dropOldest 12 = .ok (.aload_n 0, 1) := by decide +kernel
theorem dX0_dropOldest_13 : decode cX0_dropOldest 13 = .ok (.getfield 11, 3) := by decide +kernel
theorem dX0_dropOldest_16 : decode cX0_dropOldest 16 = .ok (.iload_n 2, 1) := by decide +kernel
theorem dX0_dropOldest_17 : decode cX0_dropOldest 17 = .ok (.aaload, 1) := by decide +kernel
theorem dX0_dropOldest_18 : decode cX0_dropOldest 18 = .ok (.getfield 66, 3) := by decide +kernel
theorem dX0_dropOldest_21 : decode cX0_dropOldest 21 = .ok (.aload_n 0, 1) := by decide +kernel
theorem dX0_dropOldest_22 : decode cX0_dropOldest 22 = .ok (.getfield 11, 3) := by decide +kernel
theorem dX0_dropOldest_25 : decode cX0_dropOldest 25 = .ok (.iload_n 1, 1) := by decide +kernel
theorem dX0_dropOldest_26 : decode cX0_dropOldest 26 = .ok (.aaload, 1) := by decide +kernel
theorem dX0_dropOldest_27 : decode cX0_dropOldest 27 = .ok (.getfield 66, 3) := by decide +kernel
theorem dX0_dropOldest_30 : decode cX0_dropOldest 30 = .ok (.if_icmp .ge 5, 3) := by decide +kernel
theorem dX0_dropOldest_33 : decode cX0_dropOldest 33 = .ok (.iload_n 2, 1) := by decide +kernel
theorem dX0_dropOldest_34 : decode cX0_dropOldest 34 = .ok (.istore_n 1, 1) := by decide +kernel
theorem dX0_dropOldest_35 : decode cX0_dropOldest 35 = .ok (.iinc 2 1, 3) := by decide +kernel
theorem dX0_dropOldest_38 : decode cX0_dropOldest 38 = .ok (.goto (-34), 3) := by decide +kernel
theorem dX0_dropOldest_41 : decode cX0_dropOldest 41 = .ok (.aload_n 0, 1) := by decide +kernel
theorem dX0_dropOldest_42 : decode cX0_dropOldest 42 = .ok (.iload_n 1, 1) := by decide +kernel
theorem dX0_dropOldest_43 : decode cX0_dropOldest 43 = .ok (.invokevirtual 56, 3) := by decide +kernel
theorem dX0_dropOldest_46 : decode cX0_dropOldest 46 = .ok (.aload_n 0, 1) := by decide +kernel
theorem dX0_dropOldest_47 : decode cX0_dropOldest 47 = .ok (.dup, 1) := by decide +kernel
theorem dX0_dropOldest_48 : decode cX0_dropOldest 48 = .ok (.getfield 69, 3) := by decide +kernel
theorem dX0_dropOldest_51 : decode cX0_dropOldest 51 = .ok (.iconst 1, 1) := by decide +kernel
theorem dX0_dropOldest_52 : decode cX0_dropOldest 52 = .ok (.iadd, 1) := by decide +kernel
theorem dX0_dropOldest_53 : decode cX0_dropOldest 53 = .ok (.putfield 69, 3) := by decide +kernel
theorem dX0_dropOldest_56 : decode cX0_dropOldest 56 = .ok (.return_, 1) := by decide +kernel
theorem dX0_empty_0 : decode cX0_empty 0 = .ok (.aload_n 0, 1) := by decide +kernel
theorem dX0_empty_1 : decode cX0_empty 1 = .ok (.iconst 0, 1) := by decide +kernel
theorem dX0_empty_2 : decode cX0_empty 2 = .ok (.putfield 22, 3) := by decide +kernel
theorem dX0_empty_5 : decode cX0_empty 5 = .ok (.return_, 1) := by decide +kernel
theorem dX0_find_0 : decode cX0_find 0 = .ok (.iconst 0, 1) := by decide +kernel
theorem dX0_find_1 : decode cX0_find 1 = .ok (.istore_n 3, 1) := by decide +kernel
theorem dX0_find_2 : decode cX0_find 2 = .ok (.iload_n 3, 1) := by decide +kernel
theorem dX0_find_3 : decode cX0_find 3 = .ok (.aload_n 0, 1) := by decide +kernel
theorem dX0_find_4 : decode cX0_find 4 = .ok (.getfield 22, 3) := by decide +kernel
theorem dX0_find_7 : decode cX0_find 7 = .ok (.if_icmp .ge 38, 3) := by decide +kernel
theorem dX0_find_10 : decode cX0_find 10 = .ok (.aload_n 0, 1) := by decide +kernel
theorem dX0_find_11 : decode cX0_find 11 = .ok (.getfield 11, 3) := by decide +kernel
theorem dX0_find_14 : decode cX0_find 14 = .ok (.iload_n 3, 1) := by decide +kernel
theorem dX0_find_15 : decode cX0_find 15 = .ok (.aaload, 1) := by decide +kernel
theorem dX0_find_16 : decode cX0_find 16 = .ok (.astore 4, 2) := by decide +kernel
theorem dX0_find_18 : decode cX0_find 18 = .ok (.aload 4, 2) := by decide +kernel
theorem dX0_find_20 : decode cX0_find 20 = .ok (.getfield 25, 3) := by decide +kernel
theorem dX0_find_23 : decode cX0_find 23 = .ok (.iload_n 1, 1) := by decide +kernel
theorem dX0_find_24 : decode cX0_find 24 = .ok (.if_icmp .ne 15, 3) := by decide +kernel
theorem dX0_find_27 : decode cX0_find 27 = .ok (.aload 4, 2) := by decide +kernel
theorem dX0_find_29 : decode cX0_find 29 = .ok (.getfield 28, 3) := by decide +kernel
theorem dX0_find_32 : decode cX0_find 32 = .ok (.iload_n 2, 1) := by decide +kernel
theorem dX0_find_33 : decode cX0_find 33 = .ok (.if_icmp .ne 6, 3) := by decide +kernel
theorem dX0_find_36 : decode cX0_find 36 = .ok (.aload 4, 2) := by decide +kernel
theorem dX0_find_38 : decode cX0_find 38 = .ok (.areturn, 1) := by decide +kernel
theorem dX0_find_39 : decode cX0_find 39 = .ok (.iinc 3 1, 3) := by decide +kernel
theorem dX0_find_42 : decode cX0_find 42 = .ok (.goto (-40), 3) := by decide +kernel
theorem dX0_find_45 : decode cX0_find 45 = .ok (.aconst_null, 1) := by decide +kernel
theorem dX0_find_46 : decode cX0_find 46 = .ok (.areturn, 1) := by decide +kernel
theorem dX0_hit_0 : decode cX0_hit 0 = .ok (.aload_n 0, 1) := by decide +kernel
theorem dX0_hit_1 : decode cX0_hit 1 = .ok (.dup, 1) := by decide +kernel
theorem dX0_hit_2 : decode cX0_hit 2 = .ok (.getfield 31, 3) := by decide +kernel
theorem dX0_hit_5 : decode cX0_hit 5 = .ok (.iconst 1, 1) := by decide +kernel
theorem dX0_hit_6 : decode cX0_hit 6 = .ok (.iadd, 1) := by decide +kernel
theorem dX0_hit_7 : decode cX0_hit 7 = .ok (.putfield 31, 3) := by decide +kernel
theorem dX0_hit_10 : decode cX0_hit 10 = .ok (.aload_n 0, 1) := by decide +kernel
theorem dX0_hit_11 : decode cX0_hit 11 = .ok (.aload_n 1, 1) := by decide +kernel
theorem dX0_hit_12 : decode cX0_hit 12 = .ok (.invokevirtual 34, 3) := by decide +kernel
theorem dX0_hit_15 : decode cX0_hit 15 = .ok (.return_, 1) := by decide +kernel
theorem dX0_init_0 : decode cX0_init 0 = .ok (.aload_n 0, 1) := by decide +kernel
theorem dX0_init_1 : decode cX0_init 1 = .ok (.invokespecial 3, 3) := by decide +kernel
theorem dX0_init_4 : decode cX0_init 4 = .ok (.aload_n 0, 1) := by decide +kernel
theorem dX0_init_5 : decode cX0_init 5 = .ok (.bipush 48, 2) := by decide +kernel
theorem dX0_init_7 : decode cX0_init 7 = .ok (.anewarray 9, 3) := by decide +kernel
theorem dX0_init_10 : decode cX0_init 10 = .ok (.putfield 11, 3) := by decide +kernel
theorem dX0_init_13 : decode cX0_init 13 = .ok (.aload_n 0, 1) := by decide +kernel
theorem dX0_init_14 : decode cX0_init 14 = .ok (.bipush 16, 2) := by decide +kernel
theorem dX0_init_16 : decode cX0_init 16 = .ok (.putfield 17, 3) := by decide +kernel
theorem dX0_init_19 : decode cX0_init 19 = .ok (.iconst 0, 1) := by decide +kernel
theorem dX0_init_20 : decode cX0_init 20 = .ok (.istore_n 1, 1) := by decide +kernel
theorem dX0_init_21 : decode cX0_init 21 = .ok (.iload_n 1, 1) := by decide +kernel
theorem dX0_init_22 : decode cX0_init 22 = .ok (.bipush 48, 2) := by decide +kernel
theorem dX0_init_24 : decode cX0_init 24 = .ok (.if_icmp .ge 22, 3) := by decide +kernel
theorem dX0_init_27 : decode cX0_init 27 = .ok (.aload_n 0, 1) := by decide +kernel
theorem dX0_init_28 : decode cX0_init 28 = .ok (.getfield 11, 3) := by decide +kernel
theorem dX0_init_31 : decode cX0_init 31 = .ok (.iload_n 1, 1) := by decide +kernel
theorem dX0_init_32 : decode cX0_init 32 = .ok (.new 9, 3) := by decide +kernel
theorem dX0_init_35 : decode cX0_init 35 = .ok (.dup, 1) := by decide +kernel
theorem dX0_init_36 : decode cX0_init 36 = .ok (.invokespecial 21, 3) := by decide +kernel
theorem dX0_init_39 : decode cX0_init 39 = .ok (.aastore, 1) := by decide +kernel
theorem dX0_init_40 : decode cX0_init 40 = .ok (.iinc 1 1, 3) := by decide +kernel
theorem dX0_init_43 : decode cX0_init 43 = .ok (.goto (-22), 3) := by decide +kernel
theorem dX0_init_46 : decode cX0_init 46 = .ok (.return_, 1) := by decide +kernel
theorem dX0_makeVoid_0 : decode cX0_makeVoid 0 = .ok (.aload_n 0, 1) := by decide +kernel
theorem dX0_makeVoid_1 : decode cX0_makeVoid 1 = .ok (.iload_n 1, 1) := by decide +kernel
theorem dX0_makeVoid_2 : decode cX0_makeVoid 2 = .ok (.iload_n 2, 1) := by decide +kernel
theorem dX0_makeVoid_3 : decode cX0_makeVoid 3 = .ok (.iload_n 3, 1) := by decide +kernel
theorem dX0_makeVoid_4 : decode cX0_makeVoid 4 = .ok (.iconst 1, 1) := by decide +kernel
theorem dX0_makeVoid_5 : decode cX0_makeVoid 5 = .ok (.iconst 0, 1) := by decide +kernel
theorem dX0_makeVoid_6 : decode cX0_makeVoid 6 = .ok (.invokevirtual 44, 3) := by decide +kernel
theorem dX0_makeVoid_9 : decode cX0_makeVoid 9 = .ok (.ireturn, 1) := by decide +kernel
theorem dX0_makeVoidInOne_0 : decode cX0_makeVoidInOne 0 = .ok (.aload_n 0, 1) := by decide +kernel
theorem dX0_makeVoidInOne_1 : decode cX0_makeVoidInOne 1 = .ok (.getfield 22, 3) := by decide +kernel
theorem dX0_makeVoidInOne_4 : decode cX0_makeVoidInOne 4 = .ok (.istore 6, 2) := by decide +kernel
theorem dX0_makeVoidInOne_6 : decode cX0_makeVoidInOne 6 = .ok (.aload_n 0, 1) := by decide +kernel
theorem dX0_makeVoidInOne_7 : decode cX0_makeVoidInOne 7 = .ok (.getfield 22, 3) := by decide +kernel
theorem dX0_makeVoidInOne_10 : decode cX0_makeVoidInOne 10 = .ok (.iconst 1, 1) := by decide +kernel
theorem dX0_makeVoidInOne_11 : decode cX0_makeVoidInOne 11 = .ok (.isub, 1) := by decide +kernel
theorem dX0_makeVoidInOne_12 : decode cX0_makeVoidInOne 12 = .ok (.istore 7, 2) := by decide +kernel
theorem dX0_makeVoidInOne_14 : decode cX0_makeVoidInOne 14 = .ok (.iload 7, 2) := by decide +kernel
theorem dX0_makeVoidInOne_16 : decode cX0_makeVoidInOne 16 = .ok (.ifCond .lt 69, 3) := by decide +kernel
theorem dX0_makeVoidInOne_19 : decode cX0_makeVoidInOne 19 = .ok (.aload_n 0, 1) := by decide +kernel
theorem dX0_makeVoidInOne_20 : decode cX0_makeVoidInOne 20 = .ok (.getfield 11, 3) := by decide +kernel
theorem dX0_makeVoidInOne_23 : decode cX0_makeVoidInOne 23 = .ok (.iload 7, 2) := by decide +kernel
theorem dX0_makeVoidInOne_25 : decode cX0_makeVoidInOne 25 = .ok (.aaload, 1) := by decide +kernel
theorem dX0_makeVoidInOne_26 : decode cX0_makeVoidInOne 26 = .ok (.astore 8, 2) := by decide +kernel
theorem dX0_makeVoidInOne_28 : decode cX0_makeVoidInOne 28 = .ok (.aload 8, 2) := by decide +kernel
theorem dX0_makeVoidInOne_30 : decode cX0_makeVoidInOne 30 = .ok (.getfield 28, 3) := by decide +kernel
theorem dX0_makeVoidInOne_33 : decode cX0_makeVoidInOne 33 = .ok (.iload_n 2, 1) := by decide +kernel
theorem dX0_makeVoidInOne_34 : decode cX0_makeVoidInOne 34 = .ok (.iload_n 3, 1) := by decide +kernel
theorem dX0_makeVoidInOne_35 : decode cX0_makeVoidInOne 35 = .ok (.invokestatic 48, 3) := by decide +kernel
theorem dX0_makeVoidInOne_38 : decode cX0_makeVoidInOne 38 = .ok (.istore 9, 2) := by decide +kernel
theorem dX0_makeVoidInOne_40 : decode cX0_makeVoidInOne 40 = .ok (.aload 8, 2) := by decide +kernel
theorem dX0_makeVoidInOne_42 : decode cX0_makeVoidInOne 42 = .ok (.getfield 28, 3) := by decide +kernel
theorem dX0_makeVoidInOne_45 : decode cX0_makeVoidInOne 45 = .ok (.iload 4, 2) := by decide +kernel
theorem dX0_makeVoidInOne_47 : decode cX0_makeVoidInOne 47 = .ok (.iload 5, 2) := by decide +kernel
theorem dX0_makeVoidInOne_49 : decode cX0_makeVoidInOne 49 = .ok (.invokestatic 48, 3) := by decide +kernel
theorem dX0_makeVoidInOne_52 : decode cX0_makeVoidInOne 52 = .ok (.istore 10, 2) := by decide +kernel
theorem dX0_makeVoidInOne_54 : decode cX0_makeVoidInOne 54 = .ok (.iload 9, 2) := by decide +kernel
theorem dX0_makeVoidInOne_56 : decode cX0_makeVoidInOne 56 = .ok (.iload 10, 2) := by decide +kernel
theorem dX0_makeVoidInOne_58 : decode cX0_makeVoidInOne 58 = .ok (.if_icmp .eq 21, 3) := by decide +kernel
theorem dX0_makeVoidInOne_61 : decode cX0_makeVoidInOne 61 = .ok (.iload_n 1, 1) := by decide +kernel
theorem dX0_makeVoidInOne_62 : decode cX0_makeVoidInOne 62 = .ok (.aload 8, 2) := by decide +kernel
theorem dX0_makeVoidInOne_64 : decode cX0_makeVoidInOne 64 = .ok (.getfield 25, 3) := by decide +kernel
theorem dX0_makeVoidInOne_67 : decode cX0_makeVoidInOne 67 = .ok (.invokestatic 52, 3) := by decide +kernel
theorem dX0_makeVoidInOne_70 : decode cX0_makeVoidInOne 70 = .ok (.ifCond .eq 9, 3) := by decide +kernel
theorem dX0_makeVoidInOne_73 : decode cX0_makeVoidInOne 73 = .ok (.aload_n 0, 1) := by decide +kernel
theorem dX0_makeVoidInOne_74 : decode cX0_makeVoidInOne 74 = .ok (.iload 7, 2) := by decide +kernel
theorem dX0_makeVoidInOne_76 : decode cX0_makeVoidInOne 76 = .ok (.invokevirtual 56, 3) := by decide +kernel
theorem dX0_makeVoidInOne_79 : decode cX0_makeVoidInOne 79 = .ok (.iinc 7 (-1), 3) := by decide +kernel
theorem dX0_makeVoidInOne_82 : decode cX0_makeVoidInOne 82 = .ok (.goto (-68), 3) := by decide +kernel
theorem dX0_makeVoidInOne_85 : decode cX0_makeVoidInOne 85 = .ok (.aload_n 0, 1) := by decide +kernel
theorem dX0_makeVoidInOne_86 : decode cX0_makeVoidInOne 86 = .ok (.dup, 1) := by decide +kernel
theorem dX0_makeVoidInOne_87 : decode cX0_makeVoidInOne 87 = .ok (.getfield 60, 3) := by decide +kernel
theorem dX0_makeVoidInOne_90 : decode cX0_makeVoidInOne 90 = .ok (.iload 6, 2) := by decide +kernel
theorem dX0_makeVoidInOne_92 : decode cX0_makeVoidInOne 92 = .ok (.aload_n 0, 1) := by decide +kernel
theorem dX0_makeVoidInOne_93 : decode cX0_makeVoidInOne 93 = .ok (.getfield 22, 3) := by decide +kernel
theorem dX0_makeVoidInOne_96 : decode cX0_makeVoidInOne 96 = .ok (.isub, 1) := by decide +kernel
theorem dX0_makeVoidInOne_97 : decode cX0_makeVoidInOne 97 = .ok (.iadd, 1) := by decide +kernel
theorem dX0_makeVoidInOne_98 : decode cX0_makeVoidInOne 98 = .ok (.putfield 60, 3) := by decide +kernel
theorem dX0_makeVoidInOne_101 : decode cX0_makeVoidInOne 101 = .ok (.iload 6, 2) := by decide +kernel
theorem dX0_makeVoidInOne_103 : decode cX0_makeVoidInOne 103 = .ok (.aload_n 0, 1) := by decide +kernel
theorem dX0_makeVoidInOne_104 : decode cX0_makeVoidInOne 104 = .ok (.getfield 22, 3) := by decide +kernel
theorem dX0_makeVoidInOne_107 : decode cX0_makeVoidInOne 107 = .ok (.isub, 1) := by decide +kernel
theorem dX0_makeVoidInOne_108 : decode cX0_makeVoidInOne 108 = .ok (.ireturn, 1) := by decide +kernel
theorem dX0_remove_0 : decode cX0_remove 0 = .ok (.iload_n 1, 1) := by decide +kernel
theorem dX0_remove_1 : decode cX0_remove 1 = .ok (.iconst 0, 1) := by decide +kernel
theorem dX0_remove_2 : decode cX0_remove 2 = .ok (.aload_n 0, 1) := by decide +kernel
theorem dX0_remove_3 : decode cX0_remove 3 = .ok (.getfield 22, 3) := by decide +kernel
theorem dX0_remove_6 : decode cX0_remove 6 = .ok (.iconst 1, 1) := by decide +kernel
theorem dX0_remove_7 : decode cX0_remove 7 = .ok (.isub, 1) := by decide +kernel
theorem dX0_remove_8 : decode cX0_remove 8 = .ok (.invokestatic 48, 3) := by decide +kernel
theorem dX0_remove_11 : decode cX0_remove 11 = .ok (.ifCond .eq 45, 3) := by decide +kernel
theorem dX0_remove_14 : decode cX0_remove 14 = .ok (.aload_n 0, 1) := by decide +kernel
theorem dX0_remove_15 : decode cX0_remove 15 = .ok (.dup, 1) := by decide +kernel
theorem dX0_remove_16 : decode cX0_remove 16 = .ok (.getfield 22, 3) := by decide +kernel
theorem dX0_remove_19 : decode cX0_remove 19 = .ok (.iconst 1, 1) := by decide +kernel
theorem dX0_remove_20 : decode cX0_remove 20 = .ok (.isub, 1) := by decide +kernel
theorem dX0_remove_21 : decode cX0_remove 21 = .ok (.putfield 22, 3) := by decide +kernel
theorem dX0_remove_24 : decode cX0_remove 24 = .ok (.aload_n 0, 1) := by decide +kernel
theorem dX0_remove_25 : decode cX0_remove 25 = .ok (.getfield 11, 3) := by decide +kernel
theorem dX0_remove_28 : decode cX0_remove 28 = .ok (.iload_n 1, 1) := by decide +kernel
theorem dX0_remove_29 : decode cX0_remove 29 = .ok (.aaload, 1) := by decide +kernel
theorem dX0_remove_30 : decode cX0_remove 30 = .ok (.astore_n 2, 1) := by decide +kernel
theorem dX0_remove_31 : decode cX0_remove 31 = .ok (.aload_n 0, 1) := by decide +kernel
theorem dX0_remove_32 : decode cX0_remove 32 = .ok (.getfield 11, 3) := by decide +kernel
theorem dX0_remove_35 : decode cX0_remove 35 = .ok (.iload_n 1, 1) := by decide +kernel
theorem dX0_remove_36 : decode cX0_remove 36 = .ok (.aload_n 0, 1) := by decide +kernel
theorem dX0_remove_37 : decode cX0_remove 37 = .ok (.getfield 11, 3) := by decide +kernel
theorem dX0_remove_40 : decode cX0_remove 40 = .ok (.aload_n 0, 1) := by decide +kernel
theorem dX0_remove_41 : decode cX0_remove 41 = .ok (.getfield 22, 3) := by decide +kernel
theorem dX0_remove_44 : decode cX0_remove 44 = .ok (.aaload, 1) := by decide +kernel
theorem dX0_remove_45 : decode cX0_remove 45 = .ok (.aastore, 1) := by decide +kernel
theorem dX0_remove_46 : decode cX0_remove 46 = .ok (.aload_n 0, 1) := by decide +kernel
theorem dX0_remove_47 : decode cX0_remove 47 = .ok (.getfield 11, 3) := by decide +kernel
theorem dX0_remove_50 : decode cX0_remove 50 = .ok (.aload_n 0, 1) := by decide +kernel
theorem dX0_remove_51 : decode cX0_remove 51 = .ok (.getfield 22, 3) := by decide +kernel
theorem dX0_remove_54 : decode cX0_remove 54 = .ok (.aload_n 2, 1) := by decide +kernel
theorem dX0_remove_55 : decode cX0_remove 55 = .ok (.aastore, 1) := by decide +kernel
theorem dX0_remove_56 : decode cX0_remove 56 = .ok (.return_, 1) := by decide +kernel
theorem dX0_touch_0 : decode cX0_touch 0 = .ok (.aload_n 0, 1) := by decide +kernel
theorem dX0_touch_1 : decode cX0_touch 1 = .ok (.dup, 1) := by decide +kernel
theorem dX0_touch_2 : decode cX0_touch 2 = .ok (.getfield 63, 3) := by decide +kernel
theorem dX0_touch_5 : decode cX0_touch 5 = .ok (.iconst 1, 1) := by decide +kernel
theorem dX0_touch_6 : decode cX0_touch 6 = .ok (.iadd, 1) := by decide +kernel
theorem dX0_touch_7 : decode cX0_touch 7 = .ok (.putfield 63, 3) := by decide +kernel
theorem dX0_touch_10 : decode cX0_touch 10 = .ok (.aload_n 1, 1) := by decide +kernel
theorem dX0_touch_11 : decode cX0_touch 11 = .ok (.aload_n 0, 1) := by decide +kernel
theorem dX0_touch_12 : decode cX0_touch 12 = .ok (.getfield 63, 3) := by decide +kernel
theorem dX0_touch_15 : decode cX0_touch 15 = .ok (.putfield 66, 3) := by decide +kernel
theorem dX0_touch_18 : decode cX0_touch 18 = .ok (.return_, 1) := by decide +kernel
theorem dX1_add_0 : decode cX1_add 0 = .ok (.aload_n 0, 1) := by decide +kernel
theorem dX1_add_1 : decode cX1_add 1 = .ok (.getfield 28, 3) := by decide +kernel
theorem dX1_add_4 : decode cX1_add 4 = .ok (.bipush 12, 2) := by decide +kernel
theorem dX1_add_6 : decode cX1_add 6 = .ok (.if_icmp .lt 7, 3) := by decide +kernel
theorem dX1_add_9 : decode cX1_add 9 = .ok (.sipush (-1004), 3) := by decide +kernel
theorem dX1_add_12 : decode cX1_add 12 = .ok (.ireturn, 1) := by decide +kernel
theorem dX1_add_13 : decode cX1_add 13 = .ok (.aload_n 0, 1) := by decide +kernel
theorem dX1_add_14 : decode cX1_add 14 = .ok (.getfield 28, 3) := by decide +kernel
theorem dX1_add_17 : decode cX1_add 17 = .ok (.istore_n 2, 1) := by decide +kernel
theorem dX1_add_18 : decode cX1_add 18 = .ok (.aload_n 0, 1) := by decide +kernel
theorem dX1_add_19 : decode cX1_add 19 = .ok (.getfield 11, 3) := by decide +kernel
theorem dX1_add_22 : decode cX1_add 22 = .ok (.iload_n 2, 1) := by decide +kernel
theorem dX1_add_23 : decode cX1_add 23 = .ok (.aaload, 1) := by decide +kernel
theorem dX1_add_24 : decode cX1_add 24 = .ok (.iload_n 1, 1) := by decide +kernel
theorem dX1_add_25 : decode cX1_add 25 = .ok (.invokevirtual 52, 3) := by decide +kernel
theorem dX1_add_28 : decode cX1_add 28 = .ok (.aload_n 0, 1) := by decide +kernel
theorem dX1_add_29 : decode cX1_add 29 = .ok (.dup, 1) := by decide +kernel
theorem dX1_add_30 : decode cX1_add 30 = .ok (.getfield 28, 3) := by decide +kernel
theorem dX1_add_33 : decode cX1_add 33 = .ok (.iconst 1, 1) := by decide +kernel
theorem dX1_add_34 : decode cX1_add 34 = .ok (.iadd, 1) := by decide +kernel
theorem dX1_add_35 : decode cX1_add 35 = .ok (.putfield 28, 3) := by decide +kernel
theorem dX1_add_38 : decode cX1_add 38 = .ok (.aload_n 0, 1) := by decide +kernel
theorem dX1_add_39 : decode cX1_add 39 = .ok (.invokevirtual 56, 3) := by decide +kernel
theorem dX1_add_42 : decode cX1_add 42 = .ok (.iload_n 2, 1) := by decide +kernel
theorem dX1_add_43 : decode cX1_add 43 = .ok (.ireturn, 1) := by decide +kernel
theorem dX1_addAll_0 : decode cX1_addAll 0 = .ok (.iconst 0, 1) := by decide +kernel
theorem dX1_addAll_1 : decode cX1_addAll 1 = .ok (.istore_n 3, 1) := by decide +kernel
theorem dX1_addAll_2 : decode cX1_addAll 2 = .ok (.iload_n 3, 1) := by decide +kernel
theorem dX1_addAll_3 : decode cX1_addAll 3 = .ok (.iload_n 2, 1) := by decide +kernel
theorem dX1_addAll_4 : decode cX1_addAll 4 = .ok (.if_icmp .ge 49, 3) := by decide +kernel
theorem dX1_addAll_7 : decode cX1_addAll 7 = .ok (.iload_n 3, 1) := by decide +kernel
theorem dX1_addAll_8 : decode cX1_addAll 8 = .ok (.aload_n 1, 1) := by decide +kernel
theorem dX1_addAll_9 : decode cX1_addAll 9 = .ok (.arraylength, 1) := by decide +kernel
theorem dX1_addAll_10 : decode cX1_addAll 10 = .ok (.if_icmp .ge 43, 3) := by decide +kernel
theorem dX1_addAll_13 : decode cX1_addAll 13 = .ok (.aload_n 0, 1) := by decide +kernel
theorem dX1_addAll_14 : decode cX1_addAll 14 = .ok (.getfield 28, 3) := by decide +kernel
theorem dX1_addAll_17 : decode cX1_addAll 17 = .ok (.bipush 12, 2) := by decide +kernel
theorem dX1_addAll_19 : decode cX1_addAll 19 = .ok (.if_icmp .ge 34, 3) := by decide +kernel
theorem dX1_addAll_22 : decode cX1_addAll 22 = .ok (.aload_n 0, 1) := by decide +kernel
theorem dX1_addAll_23 : decode cX1_addAll 23 = .ok (.getfield 11, 3) := by decide +kernel
theorem dX1_addAll_26 : decode cX1_addAll 26 = .ok (.aload_n 0, 1) := by decide +kernel
theorem dX1_addAll_27 : decode cX1_addAll 27 = .ok (.getfield 28, 3) := by decide +kernel
theorem dX1_addAll_30 : decode cX1_addAll 30 = .ok (.aaload, 1) := by decide +kernel
theorem dX1_addAll_31 : decode cX1_addAll 31 = .ok (.aload_n 1, 1) := by decide +kernel
theorem dX1_addAll_32 : decode cX1_addAll 32 = .ok (.iload_n 3, 1) := by decide +kernel
theorem dX1_addAll_33 : decode cX1_addAll 33 = .ok (.aaload, 1) := by decide +kernel
theorem dX1_addAll_34 : decode cX1_addAll 34 = .ok (.invokevirtual 69, 3) := by decide +kernel
theorem dX1_addAll_37 : decode cX1_addAll 37 = .ok (.aload_n 0, 1) := by decide +kernel
theorem dX1_addAll_38 : decode cX1_addAll 38 = .ok (.dup, 1) := by decide +kernel
theorem dX1_addAll_39 : decode cX1_addAll 39 = .ok (.getfield 28, 3) := by decide +kernel
theorem dX1_addAll_42 : decode cX1_addAll 42 = .ok (.iconst 1, 1) := by decide +kernel
theorem dX1_addAll_43 : decode cX1_addAll 43 = .ok (.iadd, 1) := by decide +kernel
theorem dX1_addAll_44 : decode cX1_addAll 44 = .ok (.putfield 28, 3) := by decide +kernel
theorem dX1_addAll_47 : decode cX1_addAll 47 = .ok (.iinc 3 1, 3) := by decide +kernel
theorem dX1_addAll_50 : decode cX1_addAll 50 = .ok (.goto (-48), 3) := by decide +kernel
theorem dX1_addAll_53 : decode cX1_addAll 53 = .ok (.aload_n 0, 1) := by decide +kernel
theorem dX1_addAll_54 : decode cX1_addAll 54 = .ok (.invokevirtual 56, 3) := by decide +kernel
theorem dX1_addAll_57 : decode cX1_addAll 57 = .ok (.return_, 1) := by decide +kernel
theorem dX1_arrange_0 : decode cX1_arrange 0 = .ok (.iconst 0, 1) := by decide +kernel
theorem dX1_arrange_1 : decode cX1_arrange 1 = .ok (.istore_n 1, 1) := by decide +kernel
theorem dX1_arrange_2 : decode cX1_arrange 2 = .ok (.iconst 0, 1) := by decide +kernel
theorem dX1_arrange_3 : decode cX1_arrange 3 = .ok (.istore_n 2, 1) := by decide +kernel
theorem dX1_arrange_4 : decode cX1_arrange 4 = .ok (.iload_n 2, 1) := by decide +kernel
theorem dX1_arrange_5 : decode cX1_arrange 5 = .ok (.aload_n 0, 1) := by decide +kernel
theorem dX1_arrange_6 : decode cX1_arrange 6 = .ok (.getfield 28, 3) := by decide +kernel
theorem dX1_arrange_9 : decode cX1_arrange 9 = .ok (.if_icmp .ge 51, 3) := by decide +kernel
theorem dX1_arrange_12 : decode cX1_arrange 12 = .ok (.aload_n 0, 1) := by decide +kernel
theorem dX1_arrange_13 : decode cX1_arrange 13 = .ok (.iload_n 1, 1) := by decide +kernel
theorem dX1_arrange_14 : decode cX1_arrange 14 = .ok (.invokevirtual 77, 3) := by decide +kernel
theorem dX1_arrange_17 : decode cX1_arrange 17 = .ok (.istore_n 3, 1) := by decide +kernel
theorem dX1_arrange_18 : decode cX1_arrange 18 = .ok (.aload_n 0, 1) := by decide +kernel
theorem dX1_arrange_19 : decode cX1_arrange 19 = .ok (.getfield 17, 3) := by decide +kernel
theorem dX1_arrange_22 : decode cX1_arrange 22 = .ok (.iload_n 2, 1) := by decide +kernel
theorem dX1_arrange_23 : decode cX1_arrange 23 = .ok (.iload_n 3, 1) := by decide +kernel
theorem dX1_arrange_24 : decode cX1_arrange 24 = .ok (.iastore, 1) := by decide +kernel
theorem dX1_arrange_25 : decode cX1_arrange 25 = .ok (.aload_n 0, 1) := by decide +kernel
theorem dX1_arrange_26 : decode cX1_arrange 26 = .ok (.getfield 21, 3) := by decide +kernel
theorem dX1_arrange_29 : decode cX1_arrange 29 = .ok (.iload_n 3, 1) := by decide +kernel
theorem dX1_arrange_30 : decode cX1_arrange 30 = .ok (.iload_n 2, 1) := by decide +kernel
theorem dX1_arrange_31 : decode cX1_arrange 31 = .ok (.iastore, 1) := by decide +kernel
theorem dX1_arrange_32 : decode cX1_arrange 32 = .ok (.aload_n 0, 1) := by decide +kernel
theorem dX1_arrange_33 : decode cX1_arrange 33 = .ok (.getfield 24, 3) := by decide +kernel
theorem dX1_arrange_36 : decode cX1_arrange 36 = .ok (.iload_n 3, 1) := by decide +kernel
theorem dX1_arrange_37 : decode cX1_arrange 37 = .ok (.aload_n 0, 1) := by decide +kernel
theorem dX1_arrange_38 : decode cX1_arrange 38 = .ok (.aload_n 0, 1) := by decide +kernel
theorem dX1_arrange_39 : decode cX1_arrange 39 = .ok (.getfield 11, 3) := by decide +kernel
theorem dX1_arrange_42 : decode cX1_arrange 42 = .ok (.iload_n 3, 1) := by decide +kernel
theorem dX1_arrange_43 : decode cX1_arrange 43 = .ok (.aaload, 1) := by decide +kernel
theorem dX1_arrange_44 : decode cX1_arrange 44 = .ok (.invokevirtual 80, 3) := by decide +kernel
theorem dX1_arrange_47 : decode cX1_arrange 47 = .ok (.iastore, 1) := by decide +kernel
theorem dX1_arrange_48 : decode cX1_arrange 48 = .ok (.iload_n 1, 1) := by decide +kernel
theorem dX1_arrange_49 : decode cX1_arrange 49 = .ok (.iconst 1, 1) := by decide +kernel
theorem dX1_arrange_50 : decode cX1_arrange 50 = .ok (.iload_n 3, 1) := by decide +kernel
theorem dX1_arrange_51 : decode cX1_arrange 51 = .ok (.ishl, 1) := by decide +kernel
theorem dX1_arrange_52 : decode cX1_arrange 52 = .ok (.ior, 1) := by decide +kernel
theorem dX1_arrange_53 : decode cX1_arrange 53 = .ok (.istore_n 1, 1) := by decide +kernel
theorem dX1_arrange_54 : decode cX1_arrange 54 = .ok (.iinc 2 1, 3) := by decide +kernel
theorem dX1_arrange_57 : decode cX1_arrange 57 = .ok (.goto (-53), 3) := by decide +kernel
theorem dX1_arrange_60 : decode cX1_arrange 60 = .ok (.return_, 1) := by decide +kernel
theorem dX1_copyFrom_0 : decode cX1_copyFrom 0 = .ok (.aload_n 0, 1) := by decide +kernel
theorem dX1_copyFrom_1 : decode cX1_copyFrom 1 = .ok (.iconst 0, 1) := by decide +kernel
theorem dX1_copyFrom_2 : decode cX1_copyFrom 2 = .ok (.putfield 28, 3) := by decide +kernel
theorem dX1_copyFrom_5 : decode cX1_copyFrom 5 = .ok (.aload_n 0, 1) := by decide +kernel
theorem dX1_copyFrom_6 : decode cX1_copyFrom 6 = .ok (.aload_n 1, 1) := by decide +kernel
theorem dX1_copyFrom_7 : decode cX1_copyFrom 7 = .ok (.getfield 11, 3) := by decide +kernel
theorem dX1_copyFrom_10 : decode cX1_copyFrom 10 = .ok (.aload_n 1, 1) := by decide +kernel
theorem dX1_copyFrom_11 : decode cX1_copyFrom 11 = .ok (.getfield 28, 3) := by decide +kernel
theorem dX1_copyFrom_14 : decode cX1_copyFrom 14 = .ok (.invokevirtual 65, 3) := by decide +kernel
theorem dX1_copyFrom_17 : decode cX1_copyFrom 17 = .ok (.return_, 1) := by decide +kernel
theorem dX1_dependents_0 : decode cX1_dependents 0 = .ok (.iconst 1, 1) := by decide +kernel
theorem dX1_dependents_1 : decode cX1_dependents 1 = .ok (.iload_n 1, 1) := by decide +kernel
theorem dX1_dependents_2 : decode cX1_dependents 2 = .ok (.ishl, 1) := by decide +kernel
theorem dX1_dependents_3 : decode cX1_dependents 3 = .ok (.istore_n 2, 1) := by decide +kernel
theorem dX1_dependents_4 : decode cX1_dependents 4 = .ok (.iconst 0, 1) := by decide +kernel
theorem dX1_dependents_5 : decode cX1_dependents 5 = .ok (.istore_n 3, 1) := by decide +kernel
theorem dX1_dependents_6 : decode cX1_dependents 6 = .ok (.iload_n 3, 1) := by decide +kernel
theorem dX1_dependents_7 : decode cX1_dependents 7 = .ok (.aload_n 0, 1) := by decide +kernel
theorem dX1_dependents_8 : decode cX1_dependents 8 = .ok (.getfield 28, 3) := by decide +kernel
theorem dX1_dependents_11 : decode cX1_dependents 11 = .ok (.if_icmp .ge 39, 3) := by decide +kernel
theorem dX1_dependents_14 : decode cX1_dependents 14 = .ok (.aload_n 0, 1) := by decide +kernel
theorem dX1_dependents_15 : decode cX1_dependents 15 = .ok (.getfield 17, 3) := by decide +kernel
theorem dX1_dependents_18 : decode cX1_dependents 18 = .ok (.iload_n 3, 1) := by decide +kernel
theorem dX1_dependents_19 : decode cX1_dependents 19 = .ok (.iaload, 1) := by decide +kernel
theorem dX1_dependents_20 : decode cX1_dependents 20 = .ok (.istore 4, 2) := by decide +kernel
theorem dX1_dependents_22 : decode cX1_dependents 22 = .ok (.aload_n 0, 1) := by decide +kernel
theorem dX1_dependents_23 : decode cX1_dependents 23 = .ok (.getfield 11, 3) := by decide +kernel
theorem dX1_dependents_26 : decode cX1_dependents 26 = .ok (.iload 4, 2) := by decide +kernel
theorem dX1_dependents_28 : decode cX1_dependents 28 = .ok (.aaload, 1) := by decide +kernel
theorem dX1_dependents_29 : decode cX1_dependents 29 = .ok (.invokevirtual 73, 3) := by decide +kernel
theorem dX1_dependents_32 : decode cX1_dependents 32 = .ok (.iload_n 2, 1) := by decide +kernel
theorem dX1_dependents_33 : decode cX1_dependents 33 = .ok (.iand, 1) := by decide +kernel
theorem dX1_dependents_34 : decode cX1_dependents 34 = .ok (.ifCond .eq 10, 3) := by decide +kernel
theorem dX1_dependents_37 : decode cX1_dependents 37 = .ok (.iload_n 2, 1) := by decide +kernel
theorem dX1_dependents_38 : decode cX1_dependents 38 = .ok (.iconst 1, 1) := by decide +kernel
theorem dX1_dependents_39 : decode cX1_dependents 39 = .ok (.iload 4, 2) := by decide +kernel
theorem dX1_dependents_41 : decode cX1_dependents 41 = .ok (.ishl, 1) := by decide +kernel
theorem dX1_dependents_42 : decode cX1_dependents 42 = .ok (.ior, 1) := by decide +kernel
theorem dX1_dependents_43 : decode cX1_dependents 43 = .ok (.istore_n 2, 1) := by decide +kernel
theorem dX1_dependents_44 : decode cX1_dependents 44 = .ok (.iinc 3 1, 3) := by decide +kernel
theorem dX1_dependents_47 : decode cX1_dependents 47 = .ok (.goto (-41), 3) := by decide +kernel
theorem dX1_dependents_50 : decode cX1_dependents 50 = .ok (.iload_n 2, 1) := by decide +kernel
theorem dX1_dependents_51 : decode cX1_dependents 51 = .ok (.ireturn, 1) := by decide +kernel
theorem dX1_depthBehindInputs_0 : decode cX1_depthBehindInputs 0 = .ok (.iconst 0, 1) := by decide +kernel
theorem dX1_depthBehindInputs_1 : decode cX1_depthBehindInputs 1 = .ok (.istore_n 2, 1) := by decide +kernel
theorem dX1_depthBehindInputs_2 : decode cX1_depthBehindInputs 2 = .ok (.iconst 0, 1) := by decide +kernel
theorem dX1_depthBehindInputs_3 : decode cX1_depthBehindInputs 3 = .ok (.istore_n 3, 1) := by decide +kernel
theorem dX1_depthBehindInputs_4 : decode cX1_depthBehindInputs 4 = .ok (.iload_n 3, 1) := by decide +kernel
theorem dX1_depthBehindInputs_5 : decode cX1_depthBehindInputs 5 = .ok (.iconst 3, 1) := by decide +kernel
theorem dX1_depthBehindInputs_6 : decode cX1_depthBehindInputs 6 = .ok (.if_icmp .ge 40, 3) := by decide +kernel
theorem dX1_depthBehindInputs_9 : decode cX1_depthBehindInputs 9 = .ok (.aload_n 1, 1) := by decide +kernel
theorem dX1_depthBehindInputs_10 : decode cX1_depthBehindInputs 10 = .ok (.getfield 63, 3) := by decide +kernel
theorem dX1_depthBehindInputs_13 : decode cX1_depthBehindInputs 13 = .ok (.iload_n 3, 1) := by decide +kernel
theorem dX1_depthBehindInputs_14 : decode cX1_depthBehindInputs 14 = .ok (.iaload, 1) := by decide +kernel
theorem dX1_depthBehindInputs_15 : decode cX1_depthBehindInputs 15 = .ok (.istore 4, 2) := by decide +kernel
theorem dX1_depthBehindInputs_17 : decode cX1_depthBehindInputs 17 = .ok (.aload_n 0, 1) := by decide +kernel
theorem dX1_depthBehindInputs_18 : decode cX1_depthBehindInputs 18 = .ok (.iload 4, 2) := by decide +kernel
theorem dX1_depthBehindInputs_20 : decode cX1_depthBehindInputs 20 = .ok (.invokevirtual 36, 3) := by decide +kernel
theorem dX1_depthBehindInputs_23 : decode cX1_depthBehindInputs 23 = .ok (.ifCond .eq 17, 3) := by decide +kernel
theorem dX1_depthBehindInputs_26 : decode cX1_depthBehindInputs 26 = .ok (.iload_n 2, 1) := by decide +kernel
theorem dX1_depthBehindInputs_27 : decode cX1_depthBehindInputs 27 = .ok (.aload_n 0, 1) := by decide +kernel
theorem dX1_depthBehindInputs_28 : decode cX1_depthBehindInputs 28 = .ok (.getfield 24, 3) := by decide +kernel
theorem dX1_depthBehindInputs_31 : decode cX1_depthBehindInputs 31 = .ok (.iload 4, 2) := by decide +kernel
theorem dX1_depthBehindInputs_33 : decode cX1_depthBehindInputs 33 = .ok (.iaload, 1) := by decide +kernel
theorem dX1_depthBehindInputs_34 : decode cX1_depthBehindInputs 34 = .ok (.iconst 1, 1) := by decide +kernel
theorem dX1_depthBehindInputs_35 : decode cX1_depthBehindInputs 35 = .ok (.iadd, 1) := by decide +kernel
theorem dX1_depthBehindInputs_36 : decode cX1_depthBehindInputs 36 = .ok (.invokestatic 87, 3) := by decide +kernel
theorem dX1_depthBehindInputs_39 : decode cX1_depthBehindInputs 39 = .ok (.istore_n 2, 1) := by decide +kernel
theorem dX1_depthBehindInputs_40 : decode cX1_depthBehindInputs 40 = .ok (.iinc 3 1, 3) := by decide +kernel
theorem dX1_depthBehindInputs_43 : decode cX1_depthBehindInputs 43 = .ok (.goto (-39), 3) := by decide +kernel
theorem dX1_depthBehindInputs_46 : decode cX1_depthBehindInputs 46 = .ok (.iload_n 2, 1) := by decide +kernel
theorem dX1_depthBehindInputs_47 : decode cX1_depthBehindInputs 47 = .ok (.ireturn, 1) := by decide +kernel
theorem dX1_firstReady_0 : decode cX1_firstReady 0 = .ok (.iconst 0, 1) := by decide +kernel
theorem dX1_firstReady_1 : decode cX1_firstReady 1 = .ok (.istore_n 2, 1) := by decide +kernel
theorem dX1_firstReady_2 : decode cX1_firstReady 2 = .ok (.iload_n 2, 1) := by decide +kernel
theorem dX1_firstReady_3 : decode cX1_firstReady 3 = .ok (.aload_n 0, 1) := by decide +kernel
theorem dX1_firstReady_4 : decode cX1_firstReady 4 = .ok (.getfield 28, 3) := by decide +kernel
theorem dX1_firstReady_7 : decode cX1_firstReady 7 = .ok (.if_icmp .ge 45, 3) := by decide +kernel
theorem dX1_firstReady_10 : decode cX1_firstReady 10 = .ok (.aload_n 0, 1) := by decide +kernel
theorem dX1_firstReady_11 : decode cX1_firstReady 11 = .ok (.getfield 11, 3) := by decide +kernel
theorem dX1_firstReady_14 : decode cX1_firstReady 14 = .ok (.iload_n 2, 1) := by decide +kernel
theorem dX1_firstReady_15 : decode cX1_firstReady 15 = .ok (.aaload, 1) := by decide +kernel
theorem dX1_firstReady_16 : decode cX1_firstReady 16 = .ok (.invokevirtual 73, 3) := by decide +kernel
theorem dX1_firstReady_19 : decode cX1_firstReady 19 = .ok (.iload_n 1, 1) := by decide +kernel
theorem dX1_firstReady_20 : decode cX1_firstReady 20 = .ok (.iconst (-1), 1) := by decide +kernel
theorem dX1_firstReady_21 : decode cX1_firstReady 21 = .ok (.ixor, 1) := by decide +kernel
theorem dX1_firstReady_22 : decode cX1_firstReady 22 = .ok (.iand, 1) := by decide +kernel
theorem dX1_firstReady_23 : decode cX1_firstReady 23 = .ok (.ifCond .ne 7, 3) := by decide +kernel
theorem dX1_firstReady_26 : decode cX1_firstReady 26 = .ok (.iconst 1, 1) := by decide +kernel
theorem dX1_firstReady_27 : decode cX1_firstReady 27 = .ok (.goto 4, 3) := by decide +kernel
theorem dX1_firstReady_30 : decode cX1_firstReady 30 = .ok (.iconst 0, 1) := by decide +kernel
theorem dX1_firstReady_31 : decode cX1_firstReady 31 = .ok (.istore_n 3, 1) := by decide +kernel
theorem dX1_firstReady_32 : decode cX1_firstReady 32 = .ok (.iload_n 3, 1) := by decide +kernel
theorem dX1_firstReady_33 : decode cX1_firstReady 33 = .ok (.ifCond .eq 13, 3) := by decide +kernel
theorem dX1_firstReady_36 : decode cX1_firstReady 36 = .ok (.iload_n 1, 1) := by decide +kernel
theorem dX1_firstReady_37 : decode cX1_firstReady 37 = .ok (.iload_n 2, 1) := by decide +kernel
theorem dX1_firstReady_38 : decode cX1_firstReady 38 = .ok (.invokestatic 84, 3) := by decide +kernel
theorem dX1_firstReady_41 : decode cX1_firstReady 41 = .ok (.ifCond .ne 5, 3) := by decide +kernel
theorem dX1_firstReady_44 : decode cX1_firstReady 44 = .ok (.iload_n 2, 1) := by decide +kernel
theorem dX1_firstReady_45 : decode cX1_firstReady 45 = .ok (.ireturn, 1) := by decide +kernel
theorem dX1_firstReady_46 : decode cX1_firstReady 46 = .ok (.iinc 2 1, 3) := by decide +kernel
theorem dX1_firstReady_49 : decode cX1_firstReady 49 = .ok (.goto (-47), 3) := by decide +kernel
theorem dX1_firstReady_52 : decode cX1_firstReady 52 = .ok (.iconst 0, 1) := by decide +kernel
theorem dX1_firstReady_53 : decode cX1_firstReady 53 = .ok (.ireturn, 1) := by decide +kernel
theorem dX1_has_0 : decode cX1_has 0 = .ok (.iload_n 1, 1) := by decide +kernel
theorem dX1_has_1 : decode cX1_has 1 = .ok (.iconst 0, 1) := by decide +kernel
theorem dX1_has_2 : decode cX1_has 2 = .ok (.aload_n 0, 1) := by decide +kernel
theorem dX1_has_3 : decode cX1_has 3 = .ok (.getfield 28, 3) := by decide +kernel
theorem dX1_has_6 : decode cX1_has 6 = .ok (.iconst 1, 1) := by decide +kernel
theorem dX1_has_7 : decode cX1_has 7 = .ok (.isub, 1) := by decide +kernel
theorem dX1_has_8 : decode cX1_has 8 = .ok (.invokestatic 32, 3) := by decide +kernel
theorem dX1_has_11 : decode cX1_has 11 = .ok (.ireturn, 1) := by decide +kernel
theorem dX1_hasInput_0 : decode cX1_hasInput 0 = .ok (.aload_n 0, 1) := by decide +kernel
theorem dX1_hasInput_1 : decode cX1_hasInput 1 = .ok (.iload_n 1, 1) := by decide +kernel
theorem dX1_hasInput_2 : decode cX1_hasInput 2 = .ok (.invokevirtual 36, 3) := by decide +kernel
theorem dX1_hasInput_5 : decode cX1_hasInput 5 = .ok (.ifCond .eq 29, 3) := by decide +kernel
theorem dX1_hasInput_8 : decode cX1_hasInput 8 = .ok (.iload_n 2, 1) := by decide +kernel
theorem dX1_hasInput_9 : decode cX1_hasInput 9 = .ok (.iconst 0, 1) := by decide +kernel
theorem dX1_hasInput_10 : decode cX1_hasInput 10 = .ok (.aload_n 0, 1) := by decide +kernel
theorem dX1_hasInput_11 : decode cX1_hasInput 11 = .ok (.getfield 11, 3) := by decide +kernel
theorem dX1_hasInput_14 : decode cX1_hasInput 14 = .ok (.iload_n 1, 1) := by decide +kernel
theorem dX1_hasInput_15 : decode cX1_hasInput 15 = .ok (.aaload, 1) := by decide +kernel
theorem dX1_hasInput_16 : decode cX1_hasInput 16 = .ok (.getfield 40, 3) := by decide +kernel
theorem dX1_hasInput_19 : decode cX1_hasInput 19 = .ok (.invokestatic 43, 3) := by decide +kernel
theorem dX1_hasInput_22 : decode cX1_hasInput 22 = .ok (.iconst 1, 1) := by decide +kernel
theorem dX1_hasInput_23 : decode cX1_hasInput 23 = .ok (.isub, 1) := by decide +kernel
theorem dX1_hasInput_24 : decode cX1_hasInput 24 = .ok (.invokestatic 32, 3) := by decide +kernel
theorem dX1_hasInput_27 : decode cX1_hasInput 27 = .ok (.ifCond .eq 7, 3) := by decide +kernel
theorem dX1_hasInput_30 : decode cX1_hasInput 30 = .ok (.iconst 1, 1) := by decide +kernel
theorem dX1_hasInput_31 : decode cX1_hasInput 31 = .ok (.goto 4, 3) := by decide +kernel
theorem dX1_hasInput_34 : decode cX1_hasInput 34 = .ok (.iconst 0, 1) := by decide +kernel
theorem dX1_hasInput_35 : decode cX1_hasInput 35 = .ok (.ireturn, 1) := by decide +kernel
theorem dX1_hasParameter_0 : decode cX1_hasParameter 0 = .ok (.aload_n 0, 1) := by decide +kernel
theorem dX1_hasParameter_1 : decode cX1_hasParameter 1 = .ok (.iload_n 1, 1) := by decide +kernel
theorem dX1_hasParameter_2 : decode cX1_hasParameter 2 = .ok (.invokevirtual 36, 3) := by decide +kernel
theorem dX1_hasParameter_5 : decode cX1_hasParameter 5 = .ok (.ifCond .eq 29, 3) := by decide +kernel
theorem dX1_hasParameter_8 : decode cX1_hasParameter 8 = .ok (.iload_n 2, 1) := by decide +kernel
theorem dX1_hasParameter_9 : decode cX1_hasParameter 9 = .ok (.iconst 0, 1) := by decide +kernel
theorem dX1_hasParameter_10 : decode cX1_hasParameter 10 = .ok (.aload_n 0, 1) := by decide +kernel
theorem dX1_hasParameter_11 : decode cX1_hasParameter 11 = .ok (.getfield 11, 3) := by decide +kernel
theorem dX1_hasParameter_14 : decode cX1_hasParameter 14 = .ok (.iload_n 1, 1) := by decide +kernel
theorem dX1_hasParameter_15 : decode cX1_hasParameter 15 = .ok (.aaload, 1) := by decide +kernel
theorem dX1_hasParameter_16 : decode cX1_hasParameter 16 = .ok (.getfield 40, 3) := by decide +kernel
theorem dX1_hasParameter_19 : decode cX1_hasParameter 19 = .ok (.invokestatic 49, 3) := by decide +kernel
theorem dX1_hasParameter_22 : decode cX1_hasParameter 22 = .ok (.iconst 1, 1) := by decide +kernel
theorem dX1_hasParameter_23 : decode cX1_hasParameter 23 = .ok (.isub, 1) := by decide +kernel
theorem dX1_hasParameter_24 : decode cX1_hasParameter 24 = .ok (.invokestatic 32, 3) := by decide +kernel
theorem dX1_hasParameter_27 : decode cX1_hasParameter 27 = .ok (.ifCond .eq 7, 3) := by decide +kernel
theorem dX1_hasParameter_30 : decode cX1_hasParameter 30 = .ok (.iconst 1, 1) := by decide +kernel
theorem dX1_hasParameter_31 : decode cX1_hasParameter 31 = .ok (.goto 4, 3) := by decide +kernel
theorem dX1_hasParameter_34 : decode cX1_hasParameter 34 = .ok (.iconst 0, 1) := by decide +kernel
theorem dX1_hasParameter_35 : decode cX1_hasParameter 35 = .ok (.ireturn, 1) := by decide +kernel
theorem dX1_init_0 : decode cX1_init 0 = .ok (.aload_n 0, 1) := by decide +kernel
theorem dX1_init_1 : decode cX1_init 1 = .ok (.invokespecial 3, 3) := by decide +kernel
theorem dX1_init_4 : decode cX1_init 4 = .ok (.aload_n 0, 1) := by decide +kernel
theorem dX1_init_5 : decode cX1_init 5 = .ok (.bipush 12, 2) := by decide +kernel
theorem dX1_init_7 : decode cX1_init 7 = .ok (.anewarray 9, 3) := by decide +kernel
theorem dX1_init_10 : decode cX1_init 10 = .ok (.putfield 11, 3) := by decide +kernel
theorem dX1_init_13 : decode cX1_init 13 = .ok (.aload_n 0, 1) := by decide +kernel
theorem dX1_init_14 : decode cX1_init 14 = .ok (.bipush 12, 2) := by decide +kernel
theorem dX1_init_16 : decode cX1_init 16 = .ok (.newarray .int, 2) := by decide +kernel
theorem dX1_init_18 : decode cX1_init 18 = .ok (.putfield 17, 3) := by decide +kernel
theorem dX1_init_21 : decode cX1_init 21 = .ok (.aload_n 0, 1) := by decide +kernel
theorem dX1_init_22 : decode cX1_init 22 = .ok (.bipush 12, 2) := by decide +kernel
theorem dX1_init_24 : decode cX1_init 24 = .ok (.newarray .int, 2) := by decide +kernel
theorem dX1_init_26 : decode cX1_init 26 = .ok (.putfield 21, 3) := by decide +kernel
theorem dX1_init_29 : decode cX1_init 29 = .ok (.aload_n 0, 1) := by decide +kernel
theorem dX1_init_30 : decode cX1_init 30 = .ok (.bipush 12, 2) := by decide +kernel
theorem dX1_init_32 : decode cX1_init 32 = .ok (.newarray .int, 2) := by decide +kernel
theorem dX1_init_34 : decode cX1_init 34 = .ok (.putfield 24, 3) := by decide +kernel
theorem dX1_init_37 : decode cX1_init 37 = .ok (.iconst 0, 1) := by decide +kernel
theorem dX1_init_38 : decode cX1_init 38 = .ok (.istore_n 1, 1) := by decide +kernel
theorem dX1_init_39 : decode cX1_init 39 = .ok (.iload_n 1, 1) := by decide +kernel
theorem dX1_init_40 : decode cX1_init 40 = .ok (.bipush 12, 2) := by decide +kernel
theorem dX1_init_42 : decode cX1_init 42 = .ok (.if_icmp .ge 22, 3) := by decide +kernel
theorem dX1_init_45 : decode cX1_init 45 = .ok (.aload_n 0, 1) := by decide +kernel
theorem dX1_init_46 : decode cX1_init 46 = .ok (.getfield 11, 3) := by decide +kernel
theorem dX1_init_49 : decode cX1_init 49 = .ok (.iload_n 1, 1) := by decide +kernel
theorem dX1_init_50 : decode cX1_init 50 = .ok (.new 9, 3) := by decide +kernel
theorem dX1_init_53 : decode cX1_init 53 = .ok (.dup, 1) := by decide +kernel
theorem dX1_init_54 : decode cX1_init 54 = .ok (.invokespecial 27, 3) := by decide +kernel
theorem dX1_init_57 : decode cX1_init 57 = .ok (.aastore, 1) := by decide +kernel
theorem dX1_init_58 : decode cX1_init 58 = .ok (.iinc 1 1, 3) := by decide +kernel
theorem dX1_init_61 : decode cX1_init 61 = .ok (.goto (-22), 3) := by decide +kernel
theorem dX1_init_64 : decode cX1_init 64 = .ok (.return_, 1) := by decide +kernel
theorem dX1_link_0 : decode cX1_link 0 = .ok (.aload_n 0, 1) := by decide +kernel
theorem dX1_link_1 : decode cX1_link 1 = .ok (.iload_n 1, 1) := by decide +kernel
theorem dX1_link_2 : decode cX1_link 2 = .ok (.iload_n 2, 1) := by decide +kernel
theorem dX1_link_3 : decode cX1_link 3 = .ok (.invokevirtual 59, 3) := by decide +kernel
theorem dX1_link_6 : decode cX1_link 6 = .ok (.ifCond .eq 19, 3) := by decide +kernel
theorem dX1_link_9 : decode cX1_link 9 = .ok (.aload_n 0, 1) := by decide +kernel
theorem dX1_link_10 : decode cX1_link 10 = .ok (.getfield 11, 3) := by decide +kernel
theorem dX1_link_13 : decode cX1_link 13 = .ok (.iload_n 1, 1) := by decide +kernel
theorem dX1_link_14 : decode cX1_link 14 = .ok (.aaload, 1) := by decide +kernel
theorem dX1_link_15 : decode cX1_link 15 = .ok (.getfield 63, 3) := by decide +kernel
theorem dX1_link_18 : decode cX1_link 18 = .ok (.iload_n 2, 1) := by decide +kernel
theorem dX1_link_19 : decode cX1_link 19 = .ok (.iload_n 3, 1) := by decide +kernel
theorem dX1_link_20 : decode cX1_link 20 = .ok (.iastore, 1) := by decide +kernel
theorem dX1_link_21 : decode cX1_link 21 = .ok (.aload_n 0, 1) := by decide +kernel
theorem dX1_link_22 : decode cX1_link 22 = .ok (.invokevirtual 56, 3) := by decide +kernel
theorem dX1_link_25 : decode cX1_link 25 = .ok (.return_, 1) := by decide +kernel
theorem dX1_removeAll_0 : decode cX1_removeAll 0 = .ok (.aload_n 0, 1) := by decide +kernel
theorem dX1_removeAll_1 : decode cX1_removeAll 1 = .ok (.iconst 0, 1) := by decide +kernel
theorem dX1_removeAll_2 : decode cX1_removeAll 2 = .ok (.putfield 28, 3) := by decide +kernel
theorem dX1_removeAll_5 : decode cX1_removeAll 5 = .ok (.return_, 1) := by decide +kernel
theorem dX2_atFirst_0 : decode cX2_atFirst 0 = .ok (.getstatic 31, 3) := by decide +kernel
theorem dX2_atFirst_3 : decode cX2_atFirst 3 = .ok (.iload_n 0, 1) := by decide +kernel
theorem dX2_atFirst_4 : decode cX2_atFirst 4 = .ok (.iconst 4, 1) := by decide +kernel
theorem dX2_atFirst_5 : decode cX2_atFirst 5 = .ok (.imul, 1) := by decide +kernel
theorem dX2_atFirst_6 : decode cX2_atFirst 6 = .ok (.iload_n 1, 1) := by decide +kernel
theorem dX2_atFirst_7 : decode cX2_atFirst 7 = .ok (.iadd, 1) := by decide +kernel
theorem dX2_atFirst_8 : decode cX2_atFirst 8 = .ok (.invokestatic 15, 3) := by decide +kernel
theorem dX2_atFirst_11 : decode cX2_atFirst 11 = .ok (.ireturn, 1) := by decide +kernel
theorem dX2_entry_0 : decode cX2_entry 0 = .ok (.iconst 0, 1) := by decide +kernel
theorem dX2_entry_1 : decode cX2_entry 1 = .ok (.iload_n 1, 1) := by decide +kernel
theorem dX2_entry_2 : decode cX2_entry 2 = .ok (.if_icmp .gt 15, 3) := by decide +kernel
theorem dX2_entry_5 : decode cX2_entry 5 = .ok (.iload_n 1, 1) := by decide +kernel
theorem dX2_entry_6 : decode cX2_entry 6 = .ok (.aload_n 0, 1) := by decide +kernel
theorem dX2_entry_7 : decode cX2_entry 7 = .ok (.arraylength, 1) := by decide +kernel
theorem dX2_entry_8 : decode cX2_entry 8 = .ok (.if_icmp .ge 9, 3) := by decide +kernel
theorem dX2_entry_11 : decode cX2_entry 11 = .ok (.aload_n 0, 1) := by decide +kernel
theorem dX2_entry_12 : decode cX2_entry 12 = .ok (.iload_n 1, 1) := by decide +kernel
theorem dX2_entry_13 : decode cX2_entry 13 = .ok (.iaload, 1) := by decide +kernel
theorem dX2_entry_14 : decode cX2_entry 14 = .ok (.goto 4, 3) := by decide +kernel
theorem dX2_entry_17 : decode cX2_entry 17 = .ok (.iconst 0, 1) := by decide +kernel
theorem dX2_entry_18 : decode cX2_entry 18 = .ok (.ireturn, 1) := by decide +kernel
theorem dX2_highest_0 : decode cX2_highest 0 = .ok (.getstatic 28, 3) := by decide +kernel
theorem dX2_highest_3 : decode cX2_highest 3 = .ok (.iload_n 0, 1) := by decide +kernel
theorem dX2_highest_4 : decode cX2_highest 4 = .ok (.iconst 4, 1) := by decide +kernel
theorem dX2_highest_5 : decode cX2_highest 5 = .ok (.imul, 1) := by decide +kernel
theorem dX2_highest_6 : decode cX2_highest 6 = .ok (.iload_n 1, 1) := by decide +kernel
theorem dX2_highest_7 : decode cX2_highest 7 = .ok (.iadd, 1) := by decide +kernel
theorem dX2_highest_8 : decode cX2_highest 8 = .ok (.invokestatic 15, 3) := by decide +kernel
theorem dX2_highest_11 : decode cX2_highest 11 = .ok (.ireturn, 1) := by decide +kernel
theorem dX2_inputs_0 : decode cX2_inputs 0 = .ok (.getstatic 9, 3) := by decide +kernel
theorem dX2_inputs_3 : decode cX2_inputs 3 = .ok (.iload_n 0, 1) := by decide +kernel
theorem dX2_inputs_4 : decode cX2_inputs 4 = .ok (.invokestatic 15, 3) := by decide +kernel
theorem dX2_inputs_7 : decode cX2_inputs 7 = .ok (.ireturn, 1) := by decide +kernel
theorem dX2_lowest_0 : decode cX2_lowest 0 = .ok (.getstatic 25, 3) := by decide +kernel
theorem dX2_lowest_3 : decode cX2_lowest 3 = .ok (.iload_n 0, 1) := by decide +kernel
theorem dX2_lowest_4 : decode cX2_lowest 4 = .ok (.iconst 4, 1) := by decide +kernel
theorem dX2_lowest_5 : decode cX2_lowest 5 = .ok (.imul, 1) := by decide +kernel
theorem dX2_lowest_6 : decode cX2_lowest 6 = .ok (.iload_n 1, 1) := by decide +kernel
theorem dX2_lowest_7 : decode cX2_lowest 7 = .ok (.iadd, 1) := by decide +kernel
theorem dX2_lowest_8 : decode cX2_lowest 8 = .ok (.invokestatic 15, 3) := by decide +kernel
theorem dX2_lowest_11 : decode cX2_lowest 11 = .ok (.ireturn, 1) := by decide +kernel
theorem dX2_numbers_0 : decode cX2_numbers 0 = .ok (.getstatic 22, 3) := by decide +kernel
theorem dX2_numbers_3 : decode cX2_numbers 3 = .ok (.iload_n 0, 1) := by decide +kernel
theorem dX2_numbers_4 : decode cX2_numbers 4 = .ok (.invokestatic 15, 3) := by decide +kernel
theorem dX2_numbers_7 : decode cX2_numbers 7 = .ok (.ireturn, 1) := by decide +kernel
theorem dX2_parameters_0 : decode cX2_parameters 0 = .ok (.getstatic 19, 3) := by decide +kernel
theorem dX2_parameters_3 : decode cX2_parameters 3 = .ok (.iload_n 0, 1) := by decide +kernel
theorem dX2_parameters_4 : decode cX2_parameters 4 = .ok (.invokestatic 15, 3) := by decide +kernel
theorem dX2_parameters_7 : decode cX2_parameters 7 = .ok (.ireturn, 1) := by decide +kernel
theorem dX3_copyFrom_0 : decode cX3_copyFrom 0 = .ok (.aload_n 0, 1) := by decide +kernel
theorem dX3_copyFrom_1 : decode cX3_copyFrom 1 = .ok (.aload_n 1, 1) := by decide +kernel
theorem dX3_copyFrom_2 : decode cX3_copyFrom 2 = .ok (.getfield 18, 3) := by decide +kernel
theorem dX3_copyFrom_5 : decode cX3_copyFrom 5 = .ok (.putfield 18, 3) := by decide +kernel
theorem dX3_copyFrom_8 : decode cX3_copyFrom 8 = .ok (.aload_n 0, 1) := by decide +kernel
theorem dX3_copyFrom_9 : decode cX3_copyFrom 9 = .ok (.aload_n 1, 1) := by decide +kernel
theorem dX3_copyFrom_10 : decode cX3_copyFrom 10 = .ok (.getfield 22, 3) := by decide +kernel
theorem dX3_copyFrom_13 : decode cX3_copyFrom 13 = .ok (.putfield 22, 3) := by decide +kernel
theorem dX3_copyFrom_16 : decode cX3_copyFrom 16 = .ok (.aload_n 0, 1) := by decide +kernel
theorem dX3_copyFrom_17 : decode cX3_copyFrom 17 = .ok (.aload_n 1, 1) := by decide +kernel
theorem dX3_copyFrom_18 : decode cX3_copyFrom 18 = .ok (.getfield 25, 3) := by decide +kernel
theorem dX3_copyFrom_21 : decode cX3_copyFrom 21 = .ok (.putfield 25, 3) := by decide +kernel
theorem dX3_copyFrom_24 : decode cX3_copyFrom 24 = .ok (.aload_n 1, 1) := by decide +kernel
theorem dX3_copyFrom_25 : decode cX3_copyFrom 25 = .ok (.getfield 9, 3) := by decide +kernel
theorem dX3_copyFrom_28 : decode cX3_copyFrom 28 = .ok (.iconst 0, 1) := by decide +kernel
theorem dX3_copyFrom_29 : decode cX3_copyFrom 29 = .ok (.aload_n 0, 1) := by decide +kernel
theorem dX3_copyFrom_30 : decode cX3_copyFrom 30 = .ok (.getfield 9, 3) := by decide +kernel
theorem dX3_copyFrom_33 : decode cX3_copyFrom 33 = .ok (.iconst 0, 1) := by decide +kernel
theorem dX3_copyFrom_34 : decode cX3_copyFrom 34 = .ok (.iconst 3, 1) := by decide +kernel
theorem dX3_copyFrom_35 : decode cX3_copyFrom 35 = .ok (.invokestatic 34, 3) := by decide +kernel
theorem dX3_copyFrom_38 : decode cX3_copyFrom 38 = .ok (.aload_n 1, 1) := by decide +kernel
theorem dX3_copyFrom_39 : decode cX3_copyFrom 39 = .ok (.getfield 15, 3) := by decide +kernel
theorem dX3_copyFrom_42 : decode cX3_copyFrom 42 = .ok (.iconst 0, 1) := by decide +kernel
theorem dX3_copyFrom_43 : decode cX3_copyFrom 43 = .ok (.aload_n 0, 1) := by decide +kernel
theorem dX3_copyFrom_44 : decode cX3_copyFrom 44 = .ok (.getfield 15, 3) := by decide +kernel
theorem dX3_copyFrom_47 : decode cX3_copyFrom 47 = .ok (.iconst 0, 1) := by decide +kernel
theorem dX3_copyFrom_48 : decode cX3_copyFrom 48 = .ok (.iconst 4, 1) := by decide +kernel
theorem dX3_copyFrom_49 : decode cX3_copyFrom 49 = .ok (.invokestatic 34, 3) := by decide +kernel
theorem dX3_copyFrom_52 : decode cX3_copyFrom 52 = .ok (.return_, 1) := by decide +kernel
theorem dX3_init_0 : decode cX3_init 0 = .ok (.aload_n 0, 1) := by decide +kernel
theorem dX3_init_1 : decode cX3_init 1 = .ok (.invokespecial 3, 3) := by decide +kernel
theorem dX3_init_4 : decode cX3_init 4 = .ok (.aload_n 0, 1) := by decide +kernel
theorem dX3_init_5 : decode cX3_init 5 = .ok (.iconst 3, 1) := by decide +kernel
theorem dX3_init_6 : decode cX3_init 6 = .ok (.newarray .int, 2) := by decide +kernel
theorem dX3_init_8 : decode cX3_init 8 = .ok (.putfield 9, 3) := by decide +kernel
theorem dX3_init_11 : decode cX3_init 11 = .ok (.aload_n 0, 1) := by decide +kernel
theorem dX3_init_12 : decode cX3_init 12 = .ok (.iconst 4, 1) := by decide +kernel
theorem dX3_init_13 : decode cX3_init 13 = .ok (.newarray .int, 2) := by decide +kernel
theorem dX3_init_15 : decode cX3_init 15 = .ok (.putfield 15, 3) := by decide +kernel
theorem dX3_init_18 : decode cX3_init 18 = .ok (.return_, 1) := by decide +kernel
theorem dX3_inputSet_0 : decode cX3_inputSet 0 = .ok (.iconst 0, 1) := by decide +kernel
theorem dX3_inputSet_1 : decode cX3_inputSet 1 = .ok (.istore_n 1, 1) := by decide +kernel
theorem dX3_inputSet_2 : decode cX3_inputSet 2 = .ok (.iconst 0, 1) := by decide +kernel
theorem dX3_inputSet_3 : decode cX3_inputSet 3 = .ok (.istore_n 2, 1) := by decide +kernel
theorem dX3_inputSet_4 : decode cX3_inputSet 4 = .ok (.iload_n 2, 1) := by decide +kernel
theorem dX3_inputSet_5 : decode cX3_inputSet 5 = .ok (.iconst 3, 1) := by decide +kernel
theorem dX3_inputSet_6 : decode cX3_inputSet 6 = .ok (.if_icmp .ge 32, 3) := by decide +kernel
theorem dX3_inputSet_9 : decode cX3_inputSet 9 = .ok (.aload_n 0, 1) := by decide +kernel
theorem dX3_inputSet_10 : decode cX3_inputSet 10 = .ok (.getfield 9, 3) := by decide +kernel
theorem dX3_inputSet_13 : decode cX3_inputSet 13 = .ok (.iload_n 2, 1) := by decide +kernel
theorem dX3_inputSet_14 : decode cX3_inputSet 14 = .ok (.iaload, 1) := by decide +kernel
theorem dX3_inputSet_15 : decode cX3_inputSet 15 = .ok (.sipush (-1005), 3) := by decide +kernel
theorem dX3_inputSet_18 : decode cX3_inputSet 18 = .ok (.if_icmp .eq 14, 3) := by decide +kernel
theorem dX3_inputSet_21 : decode cX3_inputSet 21 = .ok (.iload_n 1, 1) := by decide +kernel
theorem dX3_inputSet_22 : decode cX3_inputSet 22 = .ok (.iconst 1, 1) := by decide +kernel
theorem dX3_inputSet_23 : decode cX3_inputSet 23 = .ok (.aload_n 0, 1) := by decide +kernel
theorem dX3_inputSet_24 : decode cX3_inputSet 24 = .ok (.getfield 9, 3) := by decide +kernel
theorem dX3_inputSet_27 : decode cX3_inputSet 27 = .ok (.iload_n 2, 1) := by decide +kernel
theorem dX3_inputSet_28 : decode cX3_inputSet 28 = .ok (.iaload, 1) := by decide +kernel
theorem dX3_inputSet_29 : decode cX3_inputSet 29 = .ok (.ishl, 1) := by decide +kernel
theorem dX3_inputSet_30 : decode cX3_inputSet 30 = .ok (.ior, 1) := by decide +kernel
theorem dX3_inputSet_31 : decode cX3_inputSet 31 = .ok (.istore_n 1, 1) := by decide +kernel
theorem dX3_inputSet_32 : decode cX3_inputSet 32 = .ok (.iinc 2 1, 3) := by decide +kernel
theorem dX3_inputSet_35 : decode cX3_inputSet 35 = .ok (.goto (-31), 3) := by decide +kernel
theorem dX3_inputSet_38 : decode cX3_inputSet 38 = .ok (.iload_n 1, 1) := by decide +kernel
theorem dX3_inputSet_39 : decode cX3_inputSet 39 = .ok (.ireturn, 1) := by decide +kernel
theorem dX3_reset_0 : decode cX3_reset 0 = .ok (.aload_n 0, 1) := by decide +kernel
theorem dX3_reset_1 : decode cX3_reset 1 = .ok (.iload_n 1, 1) := by decide +kernel
theorem dX3_reset_2 : decode cX3_reset 2 = .ok (.putfield 18, 3) := by decide +kernel
theorem dX3_reset_5 : decode cX3_reset 5 = .ok (.aload_n 0, 1) := by decide +kernel
theorem dX3_reset_6 : decode cX3_reset 6 = .ok (.iconst 0, 1) := by decide +kernel
theorem dX3_reset_7 : decode cX3_reset 7 = .ok (.putfield 22, 3) := by decide +kernel
theorem dX3_reset_10 : decode cX3_reset 10 = .ok (.aload_n 0, 1) := by decide +kernel
theorem dX3_reset_11 : decode cX3_reset 11 = .ok (.bipush 99, 2) := by decide +kernel
theorem dX3_reset_13 : decode cX3_reset 13 = .ok (.putfield 25, 3) := by decide +kernel
theorem dX3_reset_16 : decode cX3_reset 16 = .ok (.iconst 0, 1) := by decide +kernel
theorem dX3_reset_17 : decode cX3_reset 17 = .ok (.istore_n 2, 1) := by decide +kernel
theorem dX3_reset_18 : decode cX3_reset 18 = .ok (.iload_n 2, 1) := by decide +kernel
theorem dX3_reset_19 : decode cX3_reset 19 = .ok (.iconst 3, 1) := by decide +kernel
theorem dX3_reset_20 : decode cX3_reset 20 = .ok (.if_icmp .ge 18, 3) := by decide +kernel
theorem dX3_reset_23 : decode cX3_reset 23 = .ok (.aload_n 0, 1) := by decide +kernel
theorem dX3_reset_24 : decode cX3_reset 24 = .ok (.getfield 9, 3) := by decide +kernel
theorem dX3_reset_27 : decode cX3_reset 27 = .ok (.iload_n 2, 1) := by decide +kernel
theorem dX3_reset_28 : decode cX3_reset 28 = .ok (.sipush (-1005), 3) := by decide +kernel
theorem dX3_reset_31 : decode cX3_reset 31 = .ok (.iastore, 1) := by decide +kernel
theorem dX3_reset_32 : decode cX3_reset 32 = .ok (.iinc 2 1, 3) := by decide +kernel
theorem dX3_reset_35 : decode cX3_reset 35 = .ok (.goto (-17), 3) := by decide +kernel
theorem dX3_reset_38 : decode cX3_reset 38 = .ok (.iconst 0, 1) := by decide +kernel
theorem dX3_reset_39 : decode cX3_reset 39 = .ok (.istore_n 2, 1) := by decide +kernel
theorem dX3_reset_40 : decode cX3_reset 40 = .ok (.iload_n 2, 1) := by decide +kernel
theorem dX3_reset_41 : decode cX3_reset 41 = .ok (.iconst 4, 1) := by decide +kernel
theorem dX3_reset_42 : decode cX3_reset 42 = .ok (.if_icmp .ge 20, 3) := by decide +kernel
theorem dX3_reset_45 : decode cX3_reset 45 = .ok (.aload_n 0, 1) := by decide +kernel
theorem dX3_reset_46 : decode cX3_reset 46 = .ok (.getfield 15, 3) := by decide +kernel
theorem dX3_reset_49 : decode cX3_reset 49 = .ok (.iload_n 2, 1) := by decide +kernel
theorem dX3_reset_50 : decode cX3_reset 50 = .ok (.iload_n 1, 1) := by decide +kernel
theorem dX3_reset_51 : decode cX3_reset 51 = .ok (.iload_n 2, 1) := by decide +kernel
theorem dX3_reset_52 : decode cX3_reset 52 = .ok (.invokestatic 28, 3) := by decide +kernel
theorem dX3_reset_55 : decode cX3_reset 55 = .ok (.iastore, 1) := by decide +kernel
theorem dX3_reset_56 : decode cX3_reset 56 = .ok (.iinc 2 1, 3) := by decide +kernel
theorem dX3_reset_59 : decode cX3_reset 59 = .ok (.goto (-19), 3) := by decide +kernel
theorem dX3_reset_62 : decode cX3_reset 62 = .ok (.return_, 1) := by decide +kernel
theorem dX4_mask_0 : decode cX4_mask 0 = .ok (.iload_n 1, 1) := by decide +kernel
theorem dX4_mask_1 : decode cX4_mask 1 = .ok (.iload_n 2, 1) := by decide +kernel
theorem dX4_mask_2 : decode cX4_mask 2 = .ok (.if_icmp .le 5, 3) := by decide +kernel
theorem dX4_mask_5 : decode cX4_mask 5 = .ok (.iconst 0, 1) := by decide +kernel
theorem dX4_mask_6 : decode cX4_mask 6 = .ok (.ireturn, 1) := by decide +kernel
theorem dX4_mask_7 : decode cX4_mask 7 = .ok (.iconst 0, 1) := by decide +kernel
theorem dX4_mask_8 : decode cX4_mask 8 = .ok (.iload_n 1, 1) := by decide +kernel
theorem dX4_mask_9 : decode cX4_mask 9 = .ok (.iload_n 0, 1) := by decide +kernel
theorem dX4_mask_10 : decode cX4_mask 10 = .ok (.isub, 1) := by decide +kernel
theorem dX4_mask_11 : decode cX4_mask 11 = .ok (.iload_n 0, 1) := by decide +kernel
theorem dX4_mask_12 : decode cX4_mask 12 = .ok (.iload_n 2, 1) := by decide +kernel
theorem dX4_mask_13 : decode cX4_mask 13 = .ok (.isub, 1) := by decide +kernel
theorem dX4_mask_14 : decode cX4_mask 14 = .ok (.invokestatic 51, 3) := by decide +kernel
theorem dX4_mask_17 : decode cX4_mask 17 = .ok (.invokestatic 51, 3) := by decide +kernel
theorem dX4_mask_20 : decode cX4_mask 20 = .ok (.istore 4, 2) := by decide +kernel
theorem dX4_mask_22 : decode cX4_mask 22 = .ok (.iload 4, 2) := by decide +kernel
theorem dX4_mask_24 : decode cX4_mask 24 = .ok (.iload_n 3, 1) := by decide +kernel
theorem dX4_mask_25 : decode cX4_mask 25 = .ok (.if_icmp .le 5, 3) := by decide +kernel
theorem dX4_mask_28 : decode cX4_mask 28 = .ok (.iconst 0, 1) := by decide +kernel
theorem dX4_mask_29 : decode cX4_mask 29 = .ok (.ireturn, 1) := by decide +kernel
theorem dX4_mask_30 : decode cX4_mask 30 = .ok (.sipush 255, 3) := by decide +kernel
theorem dX4_mask_33 : decode cX4_mask 33 = .ok (.sipush 255, 3) := by decide +kernel
theorem dX4_mask_36 : decode cX4_mask 36 = .ok (.iload 4, 2) := by decide +kernel
theorem dX4_mask_38 : decode cX4_mask 38 = .ok (.imul, 1) := by decide +kernel
theorem dX4_mask_39 : decode cX4_mask 39 = .ok (.iload_n 3, 1) := by decide +kernel
theorem dX4_mask_40 : decode cX4_mask 40 = .ok (.iconst 1, 1) := by decide +kernel
theorem dX4_mask_41 : decode cX4_mask 41 = .ok (.iadd, 1) := by decide +kernel
theorem dX4_mask_42 : decode cX4_mask 42 = .ok (.idiv, 1) := by decide +kernel
theorem dX4_mask_43 : decode cX4_mask 43 = .ok (.isub, 1) := by decide +kernel
theorem dX4_mask_44 : decode cX4_mask 44 = .ok (.ireturn, 1) := by decide +kernel
theorem dX4_paint_0 : decode cX4_paint 0 = .ok (.aload_n 0, 1) := by decide +kernel
theorem dX4_paint_1 : decode cX4_paint 1 = .ok (.getfield 9, 3) := by decide +kernel
theorem dX4_paint_4 : decode cX4_paint 4 = .ok (.tableswitch 102 0 5 #[40, 55, 55, 65, 74, 89], 40) := by decide +kernel
theorem dX4_paint_44 : decode cX4_paint 44 = .ok (.aload_n 0, 1) := by decide +kernel
theorem dX4_paint_45 : decode cX4_paint 45 = .ok (.getfield 15, 3) := by decide +kernel
theorem dX4_paint_48 : decode cX4_paint 48 = .ok (.iconst 0, 1) := by decide +kernel
theorem dX4_paint_49 : decode cX4_paint 49 = .ok (.iaload, 1) := by decide +kernel
theorem dX4_paint_50 : decode cX4_paint 50 = .ok (.iload_n 1, 1) := by decide +kernel
theorem dX4_paint_51 : decode cX4_paint 51 = .ok (.aload 5, 2) := by decide +kernel
theorem dX4_paint_53 : decode cX4_paint 53 = .ok (.invokestatic 19, 3) := by decide +kernel
theorem dX4_paint_56 : decode cX4_paint 56 = .ok (.goto 59, 3) := by decide +kernel
theorem dX4_paint_59 : decode cX4_paint 59 = .ok (.aload_n 0, 1) := by decide +kernel
theorem dX4_paint_60 : decode cX4_paint 60 = .ok (.aload_n 2, 1) := by decide +kernel
theorem dX4_paint_61 : decode cX4_paint 61 = .ok (.aload 5, 2) := by decide +kernel
theorem dX4_paint_63 : decode cX4_paint 63 = .ok (.invokestatic 25, 3) := by decide +kernel
theorem dX4_paint_66 : decode cX4_paint 66 = .ok (.goto 49, 3) := by decide +kernel
theorem dX4_paint_69 : decode cX4_paint 69 = .ok (.aload_n 2, 1) := by decide +kernel
theorem dX4_paint_70 : decode cX4_paint 70 = .ok (.aload 5, 2) := by decide +kernel
theorem dX4_paint_72 : decode cX4_paint 72 = .ok (.invokestatic 29, 3) := by decide +kernel
theorem dX4_paint_75 : decode cX4_paint 75 = .ok (.goto 40, 3) := by decide +kernel
theorem dX4_paint_78 : decode cX4_paint 78 = .ok (.aload_n 0, 1) := by decide +kernel
theorem dX4_paint_79 : decode cX4_paint 79 = .ok (.getfield 15, 3) := by decide +kernel
theorem dX4_paint_82 : decode cX4_paint 82 = .ok (.iconst 0, 1) := by decide +kernel
theorem dX4_paint_83 : decode cX4_paint 83 = .ok (.iaload, 1) := by decide +kernel
theorem dX4_paint_84 : decode cX4_paint 84 = .ok (.aload_n 2, 1) := by decide +kernel
theorem dX4_paint_85 : decode cX4_paint 85 = .ok (.aload 5, 2) := by decide +kernel
theorem dX4_paint_87 : decode cX4_paint 87 = .ok (.invokestatic 33, 3) := by decide +kernel
theorem dX4_paint_90 : decode cX4_paint 90 = .ok (.goto 25, 3) := by decide +kernel
theorem dX4_paint_93 : decode cX4_paint 93 = .ok (.aload_n 0, 1) := by decide +kernel
theorem dX4_paint_94 : decode cX4_paint 94 = .ok (.getfield 15, 3) := by decide +kernel
theorem dX4_paint_97 : decode cX4_paint 97 = .ok (.aload_n 2, 1) := by decide +kernel
theorem dX4_paint_98 : decode cX4_paint 98 = .ok (.aload 5, 2) := by decide +kernel
theorem dX4_paint_100 : decode cX4_paint 100 = .ok (.invokestatic 37, 3) := by decide +kernel
theorem dX4_paint_103 : decode cX4_paint 103 = .ok (.goto 12, 3) := by decide +kernel
theorem dX4_paint_106 : decode cX4_paint 106 = .ok (.aload_n 2, 1) := by decide +kernel
theorem dX4_paint_107 : decode cX4_paint 107 = .ok (.aload_n 3, 1) := by decide +kernel
theorem dX4_paint_108 : decode cX4_paint 108 = .ok (.aload 4, 2) := by decide +kernel
theorem dX4_paint_110 : decode cX4_paint 110 = .ok (.aload 5, 2) := by decide +kernel
theorem dX4_paint_112 : decode cX4_paint 112 = .ok (.invokestatic 41, 3) := by decide +kernel
theorem dX4_paint_115 : decode cX4_paint 115 = .ok (.return_, 1) := by decide +kernel
theorem dX4_paintAmounts_0 : decode cX4_paintAmounts 0 = .ok (.iconst 0, 1) := by decide +kernel
theorem dX4_paintAmounts_1 : decode cX4_paintAmounts 1 = .ok (.istore_n 3, 1) := by decide +kernel
theorem dX4_paintAmounts_2 : decode cX4_paintAmounts 2 = .ok (.iload_n 3, 1) := by decide +kernel
theorem dX4_paintAmounts_3 : decode cX4_paintAmounts 3 = .ok (.bipush 96, 2) := by decide +kernel
theorem dX4_paintAmounts_5 : decode cX4_paintAmounts 5 = .ok (.if_icmp .ge 63, 3) := by decide +kernel
theorem dX4_paintAmounts_8 : decode cX4_paintAmounts 8 = .ok (.aload_n 0, 1) := by decide +kernel
theorem dX4_paintAmounts_9 : decode cX4_paintAmounts 9 = .ok (.getfield 15, 3) := by decide +kernel
theorem dX4_paintAmounts_12 : decode cX4_paintAmounts 12 = .ok (.iload_n 3, 1) := by decide +kernel
theorem dX4_paintAmounts_13 : decode cX4_paintAmounts 13 = .ok (.bipush 32, 2) := by decide +kernel
theorem dX4_paintAmounts_15 : decode cX4_paintAmounts 15 = .ok (.idiv, 1) := by decide +kernel
theorem dX4_paintAmounts_16 : decode cX4_paintAmounts 16 = .ok (.iaload, 1) := by decide +kernel
theorem dX4_paintAmounts_17 : decode cX4_paintAmounts 17 = .ok (.istore 4, 2) := by decide +kernel
theorem dX4_paintAmounts_19 : decode cX4_paintAmounts 19 = .ok (.aload_n 0, 1) := by decide +kernel
theorem dX4_paintAmounts_20 : decode cX4_paintAmounts 20 = .ok (.getfield 9, 3) := by decide +kernel
theorem dX4_paintAmounts_23 : decode cX4_paintAmounts 23 = .ok (.iconst 1, 1) := by decide +kernel
theorem dX4_paintAmounts_24 : decode cX4_paintAmounts 24 = .ok (.if_icmp .ne 15, 3) := by decide +kernel
theorem dX4_paintAmounts_27 : decode cX4_paintAmounts 27 = .ok (.aload_n 1, 1) := by decide +kernel
theorem dX4_paintAmounts_28 : decode cX4_paintAmounts 28 = .ok (.iload_n 3, 1) := by decide +kernel
theorem dX4_paintAmounts_29 : decode cX4_paintAmounts 29 = .ok (.iaload, 1) := by decide +kernel
theorem dX4_paintAmounts_30 : decode cX4_paintAmounts 30 = .ok (.iload 4, 2) := by decide +kernel
theorem dX4_paintAmounts_32 : decode cX4_paintAmounts 32 = .ok (.imul, 1) := by decide +kernel
theorem dX4_paintAmounts_33 : decode cX4_paintAmounts 33 = .ok (.bipush 16, 2) := by decide +kernel
theorem dX4_paintAmounts_35 : decode cX4_paintAmounts 35 = .ok (.idiv, 1) := by decide +kernel
theorem dX4_paintAmounts_36 : decode cX4_paintAmounts 36 = .ok (.goto 9, 3) := by decide +kernel
theorem dX4_paintAmounts_39 : decode cX4_paintAmounts 39 = .ok (.aload_n 1, 1) := by decide +kernel
theorem dX4_paintAmounts_40 : decode cX4_paintAmounts 40 = .ok (.iload_n 3, 1) := by decide +kernel
theorem dX4_paintAmounts_41 : decode cX4_paintAmounts 41 = .ok (.iaload, 1) := by decide +kernel
theorem dX4_paintAmounts_42 : decode cX4_paintAmounts 42 = .ok (.iload 4, 2) := by decide +kernel
theorem dX4_paintAmounts_44 : decode cX4_paintAmounts 44 = .ok (.iadd, 1) := by decide +kernel
theorem dX4_paintAmounts_45 : decode cX4_paintAmounts 45 = .ok (.istore 5, 2) := by decide +kernel
theorem dX4_paintAmounts_47 : decode cX4_paintAmounts 47 = .ok (.aload_n 2, 1) := by decide +kernel
theorem dX4_paintAmounts_48 : decode cX4_paintAmounts 48 = .ok (.iload_n 3, 1) := by decide +kernel
theorem dX4_paintAmounts_49 : decode cX4_paintAmounts 49 = .ok (.iconst 0, 1) := by decide +kernel
theorem dX4_paintAmounts_50 : decode cX4_paintAmounts 50 = .ok (.sipush 255, 3) := by decide +kernel
theorem dX4_paintAmounts_53 : decode cX4_paintAmounts 53 = .ok (.iload 5, 2) := by decide +kernel
theorem dX4_paintAmounts_55 : decode cX4_paintAmounts 55 = .ok (.invokestatic 45, 3) := by decide +kernel
theorem dX4_paintAmounts_58 : decode cX4_paintAmounts 58 = .ok (.invokestatic 51, 3) := by decide +kernel
theorem dX4_paintAmounts_61 : decode cX4_paintAmounts 61 = .ok (.iastore, 1) := by decide +kernel
theorem dX4_paintAmounts_62 : decode cX4_paintAmounts 62 = .ok (.iinc 3 1, 3) := by decide +kernel
theorem dX4_paintAmounts_65 : decode cX4_paintAmounts 65 = .ok (.goto (-63), 3) := by decide +kernel
theorem dX4_paintAmounts_68 : decode cX4_paintAmounts 68 = .ok (.return_, 1) := by decide +kernel
theorem dX4_paintBlend_0 : decode cX4_paintBlend 0 = .ok (.iconst 0, 1) := by decide +kernel
theorem dX4_paintBlend_1 : decode cX4_paintBlend 1 = .ok (.istore 4, 2) := by decide +kernel
theorem dX4_paintBlend_3 : decode cX4_paintBlend 3 = .ok (.iload 4, 2) := by decide +kernel
theorem dX4_paintBlend_5 : decode cX4_paintBlend 5 = .ok (.bipush 96, 2) := by decide +kernel
theorem dX4_paintBlend_7 : decode cX4_paintBlend 7 = .ok (.if_icmp .ge 42, 3) := by decide +kernel
theorem dX4_paintBlend_10 : decode cX4_paintBlend 10 = .ok (.aload_n 2, 1) := by decide +kernel
theorem dX4_paintBlend_11 : decode cX4_paintBlend 11 = .ok (.iload 4, 2) := by decide +kernel
theorem dX4_paintBlend_13 : decode cX4_paintBlend 13 = .ok (.iaload, 1) := by decide +kernel
theorem dX4_paintBlend_14 : decode cX4_paintBlend 14 = .ok (.istore 5, 2) := by decide +kernel
theorem dX4_paintBlend_16 : decode cX4_paintBlend 16 = .ok (.aload_n 3, 1) := by decide +kernel
theorem dX4_paintBlend_17 : decode cX4_paintBlend 17 = .ok (.iload 4, 2) := by decide +kernel
theorem dX4_paintBlend_19 : decode cX4_paintBlend 19 = .ok (.aload_n 0, 1) := by decide +kernel
theorem dX4_paintBlend_20 : decode cX4_paintBlend 20 = .ok (.iload 4, 2) := by decide +kernel
theorem dX4_paintBlend_22 : decode cX4_paintBlend 22 = .ok (.iaload, 1) := by decide +kernel
theorem dX4_paintBlend_23 : decode cX4_paintBlend 23 = .ok (.sipush 255, 3) := by decide +kernel
theorem dX4_paintBlend_26 : decode cX4_paintBlend 26 = .ok (.iload 5, 2) := by decide +kernel
theorem dX4_paintBlend_28 : decode cX4_paintBlend 28 = .ok (.isub, 1) := by decide +kernel
theorem dX4_paintBlend_29 : decode cX4_paintBlend 29 = .ok (.imul, 1) := by decide +kernel
theorem dX4_paintBlend_30 : decode cX4_paintBlend 30 = .ok (.aload_n 1, 1) := by decide +kernel
theorem dX4_paintBlend_31 : decode cX4_paintBlend 31 = .ok (.iload 4, 2) := by decide +kernel
theorem dX4_paintBlend_33 : decode cX4_paintBlend 33 = .ok (.iaload, 1) := by decide +kernel
theorem dX4_paintBlend_34 : decode cX4_paintBlend 34 = .ok (.iload 5, 2) := by decide +kernel
theorem dX4_paintBlend_36 : decode cX4_paintBlend 36 = .ok (.imul, 1) := by decide +kernel
theorem dX4_paintBlend_37 : decode cX4_paintBlend 37 = .ok (.iadd, 1) := by decide +kernel
theorem dX4_paintBlend_38 : decode cX4_paintBlend 38 = .ok (.sipush 255, 3) := by decide +kernel
theorem dX4_paintBlend_41 : decode cX4_paintBlend 41 = .ok (.idiv, 1) := by decide +kernel
theorem dX4_paintBlend_42 : decode cX4_paintBlend 42 = .ok (.iastore, 1) := by decide +kernel
theorem dX4_paintBlend_43 : decode cX4_paintBlend 43 = .ok (.iinc 4 1, 3) := by decide +kernel
theorem dX4_paintBlend_46 : decode cX4_paintBlend 46 = .ok (.goto (-43), 3) := by decide +kernel
theorem dX4_paintBlend_49 : decode cX4_paintBlend 49 = .ok (.return_, 1) := by decide +kernel
theorem dX4_paintBlur_0 : decode cX4_paintBlur 0 = .ok (.iconst 0, 1) := by decide +kernel
theorem dX4_paintBlur_1 : decode cX4_paintBlur 1 = .ok (.istore_n 3, 1) := by decide +kernel
theorem dX4_paintBlur_2 : decode cX4_paintBlur 2 = .ok (.iload_n 3, 1) := by decide +kernel
theorem dX4_paintBlur_3 : decode cX4_paintBlur 3 = .ok (.bipush 96, 2) := by decide +kernel
theorem dX4_paintBlur_5 : decode cX4_paintBlur 5 = .ok (.if_icmp .ge 90, 3) := by decide +kernel
theorem dX4_paintBlur_8 : decode cX4_paintBlur 8 = .ok (.iload_n 3, 1) := by decide +kernel
theorem dX4_paintBlur_9 : decode cX4_paintBlur 9 = .ok (.bipush 8, 2) := by decide +kernel
theorem dX4_paintBlur_11 : decode cX4_paintBlur 11 = .ok (.irem, 1) := by decide +kernel
theorem dX4_paintBlur_12 : decode cX4_paintBlur 12 = .ok (.istore 4, 2) := by decide +kernel
theorem dX4_paintBlur_14 : decode cX4_paintBlur 14 = .ok (.iload_n 0, 1) := by decide +kernel
theorem dX4_paintBlur_15 : decode cX4_paintBlur 15 = .ok (.ineg, 1) := by decide +kernel
theorem dX4_paintBlur_16 : decode cX4_paintBlur 16 = .ok (.iload 4, 2) := by decide +kernel
theorem dX4_paintBlur_18 : decode cX4_paintBlur 18 = .ok (.ineg, 1) := by decide +kernel
theorem dX4_paintBlur_19 : decode cX4_paintBlur 19 = .ok (.invokestatic 51, 3) := by decide +kernel
theorem dX4_paintBlur_22 : decode cX4_paintBlur 22 = .ok (.istore 5, 2) := by decide +kernel
theorem dX4_paintBlur_24 : decode cX4_paintBlur 24 = .ok (.iload_n 0, 1) := by decide +kernel
theorem dX4_paintBlur_25 : decode cX4_paintBlur 25 = .ok (.bipush 7, 2) := by decide +kernel
theorem dX4_paintBlur_27 : decode cX4_paintBlur 27 = .ok (.iload 4, 2) := by decide +kernel
theorem dX4_paintBlur_29 : decode cX4_paintBlur 29 = .ok (.isub, 1) := by decide +kernel
theorem dX4_paintBlur_30 : decode cX4_paintBlur 30 = .ok (.invokestatic 45, 3) := by decide +kernel
theorem dX4_paintBlur_33 : decode cX4_paintBlur 33 = .ok (.istore 6, 2) := by decide +kernel
theorem dX4_paintBlur_35 : decode cX4_paintBlur 35 = .ok (.iconst 0, 1) := by decide +kernel
theorem dX4_paintBlur_36 : decode cX4_paintBlur 36 = .ok (.istore 7, 2) := by decide +kernel
theorem dX4_paintBlur_38 : decode cX4_paintBlur 38 = .ok (.iconst 0, 1) := by decide +kernel
theorem dX4_paintBlur_39 : decode cX4_paintBlur 39 = .ok (.istore 8, 2) := by decide +kernel
theorem dX4_paintBlur_41 : decode cX4_paintBlur 41 = .ok (.iload 5, 2) := by decide +kernel
theorem dX4_paintBlur_43 : decode cX4_paintBlur 43 = .ok (.istore 9, 2) := by decide +kernel
theorem dX4_paintBlur_45 : decode cX4_paintBlur 45 = .ok (.iload 9, 2) := by decide +kernel
theorem dX4_paintBlur_47 : decode cX4_paintBlur 47 = .ok (.iload 6, 2) := by decide +kernel
theorem dX4_paintBlur_49 : decode cX4_paintBlur 49 = .ok (.if_icmp .gt 23, 3) := by decide +kernel
theorem dX4_paintBlur_52 : decode cX4_paintBlur 52 = .ok (.iload 7, 2) := by decide +kernel
theorem dX4_paintBlur_54 : decode cX4_paintBlur 54 = .ok (.aload_n 1, 1) := by decide +kernel
theorem dX4_paintBlur_55 : decode cX4_paintBlur 55 = .ok (.iload_n 3, 1) := by decide +kernel
theorem dX4_paintBlur_56 : decode cX4_paintBlur 56 = .ok (.iload 9, 2) := by decide +kernel
theorem dX4_paintBlur_58 : decode cX4_paintBlur 58 = .ok (.iadd, 1) := by decide +kernel
theorem dX4_paintBlur_59 : decode cX4_paintBlur 59 = .ok (.iaload, 1) := by decide +kernel
theorem dX4_paintBlur_60 : decode cX4_paintBlur 60 = .ok (.iadd, 1) := by decide +kernel
theorem dX4_paintBlur_61 : decode cX4_paintBlur 61 = .ok (.istore 7, 2) := by decide +kernel
theorem dX4_paintBlur_63 : decode cX4_paintBlur 63 = .ok (.iinc 8 1, 3) := by decide +kernel
theorem dX4_paintBlur_66 : decode cX4_paintBlur 66 = .ok (.iinc 9 1, 3) := by decide +kernel
theorem dX4_paintBlur_69 : decode cX4_paintBlur 69 = .ok (.goto (-24), 3) := by decide +kernel
theorem dX4_paintBlur_72 : decode cX4_paintBlur 72 = .ok (.aload_n 2, 1) := by decide +kernel
theorem dX4_paintBlur_73 : decode cX4_paintBlur 73 = .ok (.iload_n 3, 1) := by decide +kernel
theorem dX4_paintBlur_74 : decode cX4_paintBlur 74 = .ok (.iload 8, 2) := by decide +kernel
theorem dX4_paintBlur_76 : decode cX4_paintBlur 76 = .ok (.ifCond .ne 7, 3) := by decide +kernel
theorem dX4_paintBlur_79 : decode cX4_paintBlur 79 = .ok (.iconst 0, 1) := by decide +kernel
theorem dX4_paintBlur_80 : decode cX4_paintBlur 80 = .ok (.goto 8, 3) := by decide +kernel
theorem dX4_paintBlur_83 : decode cX4_paintBlur 83 = .ok (.iload 7, 2) := by decide +kernel
theorem dX4_paintBlur_85 : decode cX4_paintBlur 85 = .ok (.iload 8, 2) := by decide +kernel
theorem dX4_paintBlur_87 : decode cX4_paintBlur 87 = .ok (.idiv, 1) := by decide +kernel
theorem dX4_paintBlur_88 : decode cX4_paintBlur 88 = .ok (.iastore, 1) := by decide +kernel
theorem dX4_paintBlur_89 : decode cX4_paintBlur 89 = .ok (.iinc 3 1, 3) := by decide +kernel
theorem dX4_paintBlur_92 : decode cX4_paintBlur 92 = .ok (.goto (-90), 3) := by decide +kernel
theorem dX4_paintBlur_95 : decode cX4_paintBlur 95 = .ok (.return_, 1) := by decide +kernel
theorem dX4_paintInverse_0 : decode cX4_paintInverse 0 = .ok (.iconst 0, 1) := by decide +kernel
theorem dX4_paintInverse_1 : decode cX4_paintInverse 1 = .ok (.istore_n 2, 1) := by decide +kernel
theorem dX4_paintInverse_2 : decode cX4_paintInverse 2 = .ok (.iload_n 2, 1) := by decide +kernel
theorem dX4_paintInverse_3 : decode cX4_paintInverse 3 = .ok (.bipush 96, 2) := by decide +kernel
theorem dX4_paintInverse_5 : decode cX4_paintInverse 5 = .ok (.if_icmp .ge 19, 3) := by decide +kernel
theorem dX4_paintInverse_8 : decode cX4_paintInverse 8 = .ok (.aload_n 1, 1) := by decide +kernel
theorem dX4_paintInverse_9 : decode cX4_paintInverse 9 = .ok (.iload_n 2, 1) := by decide +kernel
theorem dX4_paintInverse_10 : decode cX4_paintInverse 10 = .ok (.sipush 255, 3) := by decide +kernel
theorem dX4_paintInverse_13 : decode cX4_paintInverse 13 = .ok (.aload_n 0, 1) := by decide +kernel
theorem dX4_paintInverse_14 : decode cX4_paintInverse 14 = .ok (.iload_n 2, 1) := by decide +kernel
theorem dX4_paintInverse_15 : decode cX4_paintInverse 15 = .ok (.iaload, 1) := by decide +kernel
theorem dX4_paintInverse_16 : decode cX4_paintInverse 16 = .ok (.isub, 1) := by decide +kernel
theorem dX4_paintInverse_17 : decode cX4_paintInverse 17 = .ok (.iastore, 1) := by decide +kernel
theorem dX4_paintInverse_18 : decode cX4_paintInverse 18 = .ok (.iinc 2 1, 3) := by decide +kernel
theorem dX4_paintInverse_21 : decode cX4_paintInverse 21 = .ok (.goto (-19), 3) := by decide +kernel
theorem dX4_paintInverse_24 : decode cX4_paintInverse 24 = .ok (.return_, 1) := by decide +kernel
theorem dX4_paintKey_0 : decode cX4_paintKey 0 = .ok (.aload_n 0, 1) := by decide +kernel
theorem dX4_paintKey_1 : decode cX4_paintKey 1 = .ok (.iconst 0, 1) := by decide +kernel
theorem dX4_paintKey_2 : decode cX4_paintKey 2 = .ok (.iaload, 1) := by decide +kernel
theorem dX4_paintKey_3 : decode cX4_paintKey 3 = .ok (.bipush 32, 2) := by decide +kernel
theorem dX4_paintKey_5 : decode cX4_paintKey 5 = .ok (.imul, 1) := by decide +kernel
theorem dX4_paintKey_6 : decode cX4_paintKey 6 = .ok (.istore_n 3, 1) := by decide +kernel
theorem dX4_paintKey_7 : decode cX4_paintKey 7 = .ok (.iconst 0, 1) := by decide +kernel
theorem dX4_paintKey_8 : decode cX4_paintKey 8 = .ok (.istore 4, 2) := by decide +kernel
theorem dX4_paintKey_10 : decode cX4_paintKey 10 = .ok (.iload 4, 2) := by decide +kernel
theorem dX4_paintKey_12 : decode cX4_paintKey 12 = .ok (.bipush 32, 2) := by decide +kernel
theorem dX4_paintKey_14 : decode cX4_paintKey 14 = .ok (.if_icmp .ge 56, 3) := by decide +kernel
theorem dX4_paintKey_17 : decode cX4_paintKey 17 = .ok (.aload_n 1, 1) := by decide +kernel
theorem dX4_paintKey_18 : decode cX4_paintKey 18 = .ok (.iload_n 3, 1) := by decide +kernel
theorem dX4_paintKey_19 : decode cX4_paintKey 19 = .ok (.iload 4, 2) := by decide +kernel
theorem dX4_paintKey_21 : decode cX4_paintKey 21 = .ok (.iadd, 1) := by decide +kernel
theorem dX4_paintKey_22 : decode cX4_paintKey 22 = .ok (.iaload, 1) := by decide +kernel
theorem dX4_paintKey_23 : decode cX4_paintKey 23 = .ok (.aload_n 0, 1) := by decide +kernel
theorem dX4_paintKey_24 : decode cX4_paintKey 24 = .ok (.iconst 1, 1) := by decide +kernel
theorem dX4_paintKey_25 : decode cX4_paintKey 25 = .ok (.iaload, 1) := by decide +kernel
theorem dX4_paintKey_26 : decode cX4_paintKey 26 = .ok (.aload_n 0, 1) := by decide +kernel
theorem dX4_paintKey_27 : decode cX4_paintKey 27 = .ok (.iconst 2, 1) := by decide +kernel
theorem dX4_paintKey_28 : decode cX4_paintKey 28 = .ok (.iaload, 1) := by decide +kernel
theorem dX4_paintKey_29 : decode cX4_paintKey 29 = .ok (.aload_n 0, 1) := by decide +kernel
theorem dX4_paintKey_30 : decode cX4_paintKey 30 = .ok (.iconst 3, 1) := by decide +kernel
theorem dX4_paintKey_31 : decode cX4_paintKey 31 = .ok (.iaload, 1) := by decide +kernel
theorem dX4_paintKey_32 : decode cX4_paintKey 32 = .ok (.invokestatic 54, 3) := by decide +kernel
theorem dX4_paintKey_35 : decode cX4_paintKey 35 = .ok (.istore 5, 2) := by decide +kernel
theorem dX4_paintKey_37 : decode cX4_paintKey 37 = .ok (.iconst 0, 1) := by decide +kernel
theorem dX4_paintKey_38 : decode cX4_paintKey 38 = .ok (.istore 6, 2) := by decide +kernel
theorem dX4_paintKey_40 : decode cX4_paintKey 40 = .ok (.iload 6, 2) := by decide +kernel
theorem dX4_paintKey_42 : decode cX4_paintKey 42 = .ok (.iconst 3, 1) := by decide +kernel
theorem dX4_paintKey_43 : decode cX4_paintKey 43 = .ok (.if_icmp .ge 21, 3) := by decide +kernel
theorem dX4_paintKey_46 : decode cX4_paintKey 46 = .ok (.aload_n 2, 1) := by decide +kernel
theorem dX4_paintKey_47 : decode cX4_paintKey 47 = .ok (.iload 6, 2) := by decide +kernel
theorem dX4_paintKey_49 : decode cX4_paintKey 49 = .ok (.bipush 32, 2) := by decide +kernel
theorem dX4_paintKey_51 : decode cX4_paintKey 51 = .ok (.imul, 1) := by decide +kernel
theorem dX4_paintKey_52 : decode cX4_paintKey 52 = .ok (.iload 4, 2) := by decide +kernel
theorem dX4_paintKey_54 : decode cX4_paintKey 54 = .ok (.iadd, 1) := by decide +kernel
theorem dX4_paintKey_55 : decode cX4_paintKey 55 = .ok (.iload 5, 2) := by decide +kernel
theorem dX4_paintKey_57 : decode cX4_paintKey 57 = .ok (.iastore, 1) := by decide +kernel
theorem dX4_paintKey_58 : decode cX4_paintKey 58 = .ok (.iinc 6 1, 3) := by decide +kernel
theorem dX4_paintKey_61 : decode cX4_paintKey 61 = .ok (.goto (-21), 3) := by decide +kernel
theorem dX4_paintKey_64 : decode cX4_paintKey 64 = .ok (.iinc 4 1, 3) := by decide +kernel
theorem dX4_paintKey_67 : decode cX4_paintKey 67 = .ok (.goto (-57), 3) := by decide +kernel
theorem dX4_paintKey_70 : decode cX4_paintKey 70 = .ok (.return_, 1) := by decide +kernel
theorem dX4_paintSource_0 : decode cX4_paintSource 0 = .ok (.iconst 0, 1) := by decide +kernel
theorem dX4_paintSource_1 : decode cX4_paintSource 1 = .ok (.istore_n 3, 1) := by decide +kernel
theorem dX4_paintSource_2 : decode cX4_paintSource 2 = .ok (.iload_n 3, 1) := by decide +kernel
theorem dX4_paintSource_3 : decode cX4_paintSource 3 = .ok (.bipush 96, 2) := by decide +kernel
theorem dX4_paintSource_5 : decode cX4_paintSource 5 = .ok (.if_icmp .ge 75, 3) := by decide +kernel
theorem dX4_paintSource_8 : decode cX4_paintSource 8 = .ok (.iload_n 3, 1) := by decide +kernel
theorem dX4_paintSource_9 : decode cX4_paintSource 9 = .ok (.bipush 8, 2) := by decide +kernel
theorem dX4_paintSource_11 : decode cX4_paintSource 11 = .ok (.irem, 1) := by decide +kernel
theorem dX4_paintSource_12 : decode cX4_paintSource 12 = .ok (.istore 4, 2) := by decide +kernel
theorem dX4_paintSource_14 : decode cX4_paintSource 14 = .ok (.iload_n 3, 1) := by decide +kernel
theorem dX4_paintSource_15 : decode cX4_paintSource 15 = .ok (.bipush 8, 2) := by decide +kernel
theorem dX4_paintSource_17 : decode cX4_paintSource 17 = .ok (.idiv, 1) := by decide +kernel
theorem dX4_paintSource_18 : decode cX4_paintSource 18 = .ok (.iconst 4, 1) := by decide +kernel
theorem dX4_paintSource_19 : decode cX4_paintSource 19 = .ok (.irem, 1) := by decide +kernel
theorem dX4_paintSource_20 : decode cX4_paintSource 20 = .ok (.istore 5, 2) := by decide +kernel
theorem dX4_paintSource_22 : decode cX4_paintSource 22 = .ok (.iload_n 3, 1) := by decide +kernel
theorem dX4_paintSource_23 : decode cX4_paintSource 23 = .ok (.bipush 32, 2) := by decide +kernel
theorem dX4_paintSource_25 : decode cX4_paintSource 25 = .ok (.idiv, 1) := by decide +kernel
theorem dX4_paintSource_26 : decode cX4_paintSource 26 = .ok (.istore 6, 2) := by decide +kernel
theorem dX4_paintSource_28 : decode cX4_paintSource 28 = .ok (.bipush 7, 2) := by decide +kernel
theorem dX4_paintSource_30 : decode cX4_paintSource 30 = .ok (.iload_n 0, 1) := by decide +kernel
theorem dX4_paintSource_31 : decode cX4_paintSource 31 = .ok (.imul, 1) := by decide +kernel
theorem dX4_paintSource_32 : decode cX4_paintSource 32 = .ok (.bipush 31, 2) := by decide +kernel
theorem dX4_paintSource_34 : decode cX4_paintSource 34 = .ok (.iload 4, 2) := by decide +kernel
theorem dX4_paintSource_36 : decode cX4_paintSource 36 = .ok (.imul, 1) := by decide +kernel
theorem dX4_paintSource_37 : decode cX4_paintSource 37 = .ok (.iadd, 1) := by decide +kernel
theorem dX4_paintSource_38 : decode cX4_paintSource 38 = .ok (.bipush 17, 2) := by decide +kernel
theorem dX4_paintSource_40 : decode cX4_paintSource 40 = .ok (.iload 5, 2) := by decide +kernel
theorem dX4_paintSource_42 : decode cX4_paintSource 42 = .ok (.imul, 1) := by decide +kernel
theorem dX4_paintSource_43 : decode cX4_paintSource 43 = .ok (.iadd, 1) := by decide +kernel
theorem dX4_paintSource_44 : decode cX4_paintSource 44 = .ok (.bipush 11, 2) := by decide +kernel
theorem dX4_paintSource_46 : decode cX4_paintSource 46 = .ok (.iload_n 1, 1) := by decide +kernel
theorem dX4_paintSource_47 : decode cX4_paintSource 47 = .ok (.imul, 1) := by decide +kernel
theorem dX4_paintSource_48 : decode cX4_paintSource 48 = .ok (.iadd, 1) := by decide +kernel
theorem dX4_paintSource_49 : decode cX4_paintSource 49 = .ok (.bipush 53, 2) := by decide +kernel
theorem dX4_paintSource_51 : decode cX4_paintSource 51 = .ok (.iload 6, 2) := by decide +kernel
theorem dX4_paintSource_53 : decode cX4_paintSource 53 = .ok (.imul, 1) := by decide +kernel
theorem dX4_paintSource_54 : decode cX4_paintSource 54 = .ok (.iadd, 1) := by decide +kernel
theorem dX4_paintSource_55 : decode cX4_paintSource 55 = .ok (.iload 4, 2) := by decide +kernel
theorem dX4_paintSource_57 : decode cX4_paintSource 57 = .ok (.iload 5, 2) := by decide +kernel
theorem dX4_paintSource_59 : decode cX4_paintSource 59 = .ok (.imul, 1) := by decide +kernel
theorem dX4_paintSource_60 : decode cX4_paintSource 60 = .ok (.iload_n 1, 1) := by decide +kernel
theorem dX4_paintSource_61 : decode cX4_paintSource 61 = .ok (.imul, 1) := by decide +kernel
theorem dX4_paintSource_62 : decode cX4_paintSource 62 = .ok (.iadd, 1) := by decide +kernel
theorem dX4_paintSource_63 : decode cX4_paintSource 63 = .ok (.istore 7, 2) := by decide +kernel
theorem dX4_paintSource_65 : decode cX4_paintSource 65 = .ok (.aload_n 2, 1) := by decide +kernel
theorem dX4_paintSource_66 : decode cX4_paintSource 66 = .ok (.iload_n 3, 1) := by decide +kernel
theorem dX4_paintSource_67 : decode cX4_paintSource 67 = .ok (.iload 7, 2) := by decide +kernel
theorem dX4_paintSource_69 : decode cX4_paintSource 69 = .ok (.sipush 256, 3) := by decide +kernel
theorem dX4_paintSource_72 : decode cX4_paintSource 72 = .ok (.irem, 1) := by decide +kernel
theorem dX4_paintSource_73 : decode cX4_paintSource 73 = .ok (.iastore, 1) := by decide +kernel
theorem dX4_paintSource_74 : decode cX4_paintSource 74 = .ok (.iinc 3 1, 3) := by decide +kernel
theorem dX4_paintSource_77 : decode cX4_paintSource 77 = .ok (.goto (-75), 3) := by decide +kernel
theorem dX4_paintSource_80 : decode cX4_paintSource 80 = .ok (.return_, 1) := by decide +kernel
theorem dX5_init_0 : decode cX5_init 0 = .ok (.aload_n 0, 1) := by decide +kernel
theorem dX5_init_1 : decode cX5_init 1 = .ok (.invokespecial 3, 3) := by decide +kernel
theorem dX5_init_4 : decode cX5_init 4 = .ok (.aload_n 0, 1) := by decide +kernel
theorem dX5_init_5 : decode cX5_init 5 = .ok (.bipush 96, 2) := by decide +kernel
theorem dX5_init_7 : decode cX5_init 7 = .ok (.newarray .int, 2) := by decide +kernel
theorem dX5_init_9 : decode cX5_init 9 = .ok (.putfield 9, 3) := by decide +kernel
theorem dX5_init_12 : decode cX5_init 12 = .ok (.return_, 1) := by decide +kernel
theorem dX6_expect_0 : decode cX6_expect 0 = .ok (.aload_n 0, 1) := by decide +kernel
theorem dX6_expect_1 : decode cX6_expect 1 = .ok (.getfield 39, 3) := by decide +kernel
theorem dX6_expect_4 : decode cX6_expect 4 = .ok (.ifCond .ne 31, 3) := by decide +kernel
theorem dX6_expect_7 : decode cX6_expect 7 = .ok (.aload_n 0, 1) := by decide +kernel
theorem dX6_expect_8 : decode cX6_expect 8 = .ok (.getfield 12, 3) := by decide +kernel
theorem dX6_expect_11 : decode cX6_expect 11 = .ok (.aload_n 0, 1) := by decide +kernel
theorem dX6_expect_12 : decode cX6_expect 12 = .ok (.getfield 36, 3) := by decide +kernel
theorem dX6_expect_15 : decode cX6_expect 15 = .ok (.invokevirtual 65, 3) := by decide +kernel
theorem dX6_expect_18 : decode cX6_expect 18 = .ok (.iload_n 1, 1) := by decide +kernel
theorem dX6_expect_19 : decode cX6_expect 19 = .ok (.if_icmp .ne 16, 3) := by decide +kernel
theorem dX6_expect_22 : decode cX6_expect 22 = .ok (.aload_n 0, 1) := by decide +kernel
theorem dX6_expect_23 : decode cX6_expect 23 = .ok (.dup, 1) := by decide +kernel
theorem dX6_expect_24 : decode cX6_expect 24 = .ok (.getfield 36, 3) := by decide +kernel
theorem dX6_expect_27 : decode cX6_expect 27 = .ok (.iconst 1, 1) := by decide +kernel
theorem dX6_expect_28 : decode cX6_expect 28 = .ok (.iadd, 1) := by decide +kernel
theorem dX6_expect_29 : decode cX6_expect 29 = .ok (.putfield 36, 3) := by decide +kernel
theorem dX6_expect_32 : decode cX6_expect 32 = .ok (.goto 8, 3) := by decide +kernel
theorem dX6_expect_35 : decode cX6_expect 35 = .ok (.aload_n 0, 1) := by decide +kernel
theorem dX6_expect_36 : decode cX6_expect 36 = .ok (.iconst 1, 1) := by decide +kernel
theorem dX6_expect_37 : decode cX6_expect 37 = .ok (.putfield 39, 3) := by decide +kernel
theorem dX6_expect_40 : decode cX6_expect 40 = .ok (.return_, 1) := by decide +kernel
theorem dX6_expression_0 : decode cX6_expression 0 = .ok (.aload_n 0, 1) := by decide +kernel
theorem dX6_expression_1 : decode cX6_expression 1 = .ok (.invokevirtual 50, 3) := by decide +kernel
theorem dX6_expression_4 : decode cX6_expression 4 = .ok (.istore_n 2, 1) := by decide +kernel
theorem dX6_expression_5 : decode cX6_expression 5 = .ok (.aload_n 0, 1) := by decide +kernel
theorem dX6_expression_6 : decode cX6_expression 6 = .ok (.getfield 39, 3) := by decide +kernel
theorem dX6_expression_9 : decode cX6_expression 9 = .ok (.ifCond .ne 16, 3) := by decide +kernel
theorem dX6_expression_12 : decode cX6_expression 12 = .ok (.iload_n 2, 1) := by decide +kernel
theorem dX6_expression_13 : decode cX6_expression 13 = .ok (.sipush (-1005), 3) := by decide +kernel
theorem dX6_expression_16 : decode cX6_expression 16 = .ok (.if_icmp .eq 9, 3) := by decide +kernel
theorem dX6_expression_19 : decode cX6_expression 19 = .ok (.iload_n 1, 1) := by decide +kernel
theorem dX6_expression_20 : decode cX6_expression 20 = .ok (.bipush 6, 2) := by decide +kernel
theorem dX6_expression_22 : decode cX6_expression 22 = .ok (.if_icmp .lt 12, 3) := by decide +kernel
theorem dX6_expression_25 : decode cX6_expression 25 = .ok (.aload_n 0, 1) := by decide +kernel
theorem dX6_expression_26 : decode cX6_expression 26 = .ok (.iconst 1, 1) := by decide +kernel
theorem dX6_expression_27 : decode cX6_expression 27 = .ok (.putfield 39, 3) := by decide +kernel
theorem dX6_expression_30 : decode cX6_expression 30 = .ok (.sipush (-1005), 3) := by decide +kernel
theorem dX6_expression_33 : decode cX6_expression 33 = .ok (.ireturn, 1) := by decide +kernel
theorem dX6_expression_34 : decode cX6_expression 34 = .ok (.aload_n 0, 1) := by decide +kernel
theorem dX6_expression_35 : decode cX6_expression 35 = .ok (.dup, 1) := by decide +kernel
theorem dX6_expression_36 : decode cX6_expression 36 = .ok (.getfield 36, 3) := by decide +kernel
theorem dX6_expression_39 : decode cX6_expression 39 = .ok (.iconst 1, 1) := by decide +kernel
theorem dX6_expression_40 : decode cX6_expression 40 = .ok (.iadd, 1) := by decide +kernel
theorem dX6_expression_41 : decode cX6_expression 41 = .ok (.putfield 36, 3) := by decide +kernel
theorem dX6_expression_44 : decode cX6_expression 44 = .ok (.aload_n 0, 1) := by decide +kernel
theorem dX6_expression_45 : decode cX6_expression 45 = .ok (.bipush 40, 2) := by decide +kernel
theorem dX6_expression_47 : decode cX6_expression 47 = .ok (.invokevirtual 54, 3) := by decide +kernel
theorem dX6_expression_50 : decode cX6_expression 50 = .ok (.iload_n 2, 1) := by decide +kernel
theorem dX6_expression_51 : decode cX6_expression 51 = .ok (.bipush 7, 2) := by decide +kernel
theorem dX6_expression_53 : decode cX6_expression 53 = .ok (.if_icmp .ne 17, 3) := by decide +kernel
theorem dX6_expression_56 : decode cX6_expression 56 = .ok (.aload_n 0, 1) := by decide +kernel
theorem dX6_expression_57 : decode cX6_expression 57 = .ok (.iconst 0, 1) := by decide +kernel
theorem dX6_expression_58 : decode cX6_expression 58 = .ok (.aload_n 0, 1) := by decide +kernel
theorem dX6_expression_59 : decode cX6_expression 59 = .ok (.getfield 29, 3) := by decide +kernel
theorem dX6_expression_62 : decode cX6_expression 62 = .ok (.iconst 1, 1) := by decide +kernel
theorem dX6_expression_63 : decode cX6_expression 63 = .ok (.isub, 1) := by decide +kernel
theorem dX6_expression_64 : decode cX6_expression 64 = .ok (.invokevirtual 58, 3) := by decide +kernel
theorem dX6_expression_67 : decode cX6_expression 67 = .ok (.goto 11, 3) := by decide +kernel
theorem dX6_expression_70 : decode cX6_expression 70 = .ok (.aload_n 0, 1) := by decide +kernel
theorem dX6_expression_71 : decode cX6_expression 71 = .ok (.iload_n 2, 1) := by decide +kernel
theorem dX6_expression_72 : decode cX6_expression 72 = .ok (.iload_n 1, 1) := by decide +kernel
theorem dX6_expression_73 : decode cX6_expression 73 = .ok (.iconst 1, 1) := by decide +kernel
theorem dX6_expression_74 : decode cX6_expression 74 = .ok (.iadd, 1) := by decide +kernel
theorem dX6_expression_75 : decode cX6_expression 75 = .ok (.invokevirtual 62, 3) := by decide +kernel
theorem dX6_expression_78 : decode cX6_expression 78 = .ok (.istore_n 3, 1) := by decide +kernel
theorem dX6_expression_79 : decode cX6_expression 79 = .ok (.aload_n 0, 1) := by decide +kernel
theorem dX6_expression_80 : decode cX6_expression 80 = .ok (.bipush 41, 2) := by decide +kernel
theorem dX6_expression_82 : decode cX6_expression 82 = .ok (.invokevirtual 54, 3) := by decide +kernel
theorem dX6_expression_85 : decode cX6_expression 85 = .ok (.iload_n 3, 1) := by decide +kernel
theorem dX6_expression_86 : decode cX6_expression 86 = .ok (.ireturn, 1) := by decide +kernel
theorem dX6_fill_0 : decode cX6_fill 0 = .ok (.aload_n 1, 1) := by decide +kernel
theorem dX6_fill_1 : decode cX6_fill 1 = .ok (.iload_n 2, 1) := by decide +kernel
theorem dX6_fill_2 : decode cX6_fill 2 = .ok (.invokevirtual 95, 3) := by decide +kernel
theorem dX6_fill_5 : decode cX6_fill 5 = .ok (.aload_n 1, 1) := by decide +kernel
theorem dX6_fill_6 : decode cX6_fill 6 = .ok (.getfield 98, 3) := by decide +kernel
theorem dX6_fill_9 : decode cX6_fill 9 = .ok (.iconst 0, 1) := by decide +kernel
theorem dX6_fill_10 : decode cX6_fill 10 = .ok (.iload_n 3, 1) := by decide +kernel
theorem dX6_fill_11 : decode cX6_fill 11 = .ok (.iastore, 1) := by decide +kernel
theorem dX6_fill_12 : decode cX6_fill 12 = .ok (.aload_n 1, 1) := by decide +kernel
theorem dX6_fill_13 : decode cX6_fill 13 = .ok (.getfield 98, 3) := by decide +kernel
theorem dX6_fill_16 : decode cX6_fill 16 = .ok (.iconst 1, 1) := by decide +kernel
theorem dX6_fill_17 : decode cX6_fill 17 = .ok (.iload 4, 2) := by decide +kernel
theorem dX6_fill_19 : decode cX6_fill 19 = .ok (.iastore, 1) := by decide +kernel
theorem dX6_fill_20 : decode cX6_fill 20 = .ok (.aload_n 1, 1) := by decide +kernel
theorem dX6_fill_21 : decode cX6_fill 21 = .ok (.getfield 98, 3) := by decide +kernel
theorem dX6_fill_24 : decode cX6_fill 24 = .ok (.iconst 2, 1) := by decide +kernel
theorem dX6_fill_25 : decode cX6_fill 25 = .ok (.iload 5, 2) := by decide +kernel
theorem dX6_fill_27 : decode cX6_fill 27 = .ok (.iastore, 1) := by decide +kernel
theorem dX6_fill_28 : decode cX6_fill 28 = .ok (.iconst 0, 1) := by decide +kernel
theorem dX6_fill_29 : decode cX6_fill 29 = .ok (.istore 6, 2) := by decide +kernel
theorem dX6_fill_31 : decode cX6_fill 31 = .ok (.iload 6, 2) := by decide +kernel
theorem dX6_fill_33 : decode cX6_fill 33 = .ok (.iload_n 2, 1) := by decide +kernel
theorem dX6_fill_34 : decode cX6_fill 34 = .ok (.invokestatic 100, 3) := by decide +kernel
theorem dX6_fill_37 : decode cX6_fill 37 = .ok (.if_icmp .ge 40, 3) := by decide +kernel
theorem dX6_fill_40 : decode cX6_fill 40 = .ok (.iload 6, 2) := by decide +kernel
theorem dX6_fill_42 : decode cX6_fill 42 = .ok (.iload_n 2, 1) := by decide +kernel
theorem dX6_fill_43 : decode cX6_fill 43 = .ok (.invokestatic 83, 3) := by decide +kernel
theorem dX6_fill_46 : decode cX6_fill 46 = .ok (.if_icmp .ge 8, 3) := by decide +kernel
theorem dX6_fill_49 : decode cX6_fill 49 = .ok (.iload 6, 2) := by decide +kernel
theorem dX6_fill_51 : decode cX6_fill 51 = .ok (.goto 4, 3) := by decide +kernel
theorem dX6_fill_54 : decode cX6_fill 54 = .ok (.iconst 0, 1) := by decide +kernel
theorem dX6_fill_55 : decode cX6_fill 55 = .ok (.istore 7, 2) := by decide +kernel
theorem dX6_fill_57 : decode cX6_fill 57 = .ok (.aload_n 1, 1) := by decide +kernel
theorem dX6_fill_58 : decode cX6_fill 58 = .ok (.getfield 103, 3) := by decide +kernel
theorem dX6_fill_61 : decode cX6_fill 61 = .ok (.iload 6, 2) := by decide +kernel
theorem dX6_fill_63 : decode cX6_fill 63 = .ok (.aload_n 0, 1) := by decide +kernel
theorem dX6_fill_64 : decode cX6_fill 64 = .ok (.getfield 18, 3) := by decide +kernel
theorem dX6_fill_67 : decode cX6_fill 67 = .ok (.iload 7, 2) := by decide +kernel
theorem dX6_fill_69 : decode cX6_fill 69 = .ok (.iaload, 1) := by decide +kernel
theorem dX6_fill_70 : decode cX6_fill 70 = .ok (.iastore, 1) := by decide +kernel
theorem dX6_fill_71 : decode cX6_fill 71 = .ok (.iinc 6 1, 3) := by decide +kernel
theorem dX6_fill_74 : decode cX6_fill 74 = .ok (.goto (-43), 3) := by decide +kernel
theorem dX6_fill_77 : decode cX6_fill 77 = .ok (.return_, 1) := by decide +kernel
theorem dX6_init_0 : decode cX6_init 0 = .ok (.aload_n 0, 1) := by decide +kernel
theorem dX6_init_1 : decode cX6_init 1 = .ok (.invokespecial 3, 3) := by decide +kernel
theorem dX6_init_4 : decode cX6_init 4 = .ok (.aload_n 0, 1) := by decide +kernel
theorem dX6_init_5 : decode cX6_init 5 = .ok (.new 9, 3) := by decide +kernel
theorem dX6_init_8 : decode cX6_init 8 = .ok (.dup, 1) := by decide +kernel
theorem dX6_init_9 : decode cX6_init 9 = .ok (.invokespecial 11, 3) := by decide +kernel
theorem dX6_init_12 : decode cX6_init 12 = .ok (.putfield 12, 3) := by decide +kernel
theorem dX6_init_15 : decode cX6_init 15 = .ok (.aload_n 0, 1) := by decide +kernel
theorem dX6_init_16 : decode cX6_init 16 = .ok (.iconst 4, 1) := by decide +kernel
theorem dX6_init_17 : decode cX6_init 17 = .ok (.newarray .int, 2) := by decide +kernel
theorem dX6_init_19 : decode cX6_init 19 = .ok (.putfield 18, 3) := by decide +kernel
theorem dX6_init_22 : decode cX6_init 22 = .ok (.aload_n 0, 1) := by decide +kernel
theorem dX6_init_23 : decode cX6_init 23 = .ok (.bipush 12, 2) := by decide +kernel
theorem dX6_init_25 : decode cX6_init 25 = .ok (.anewarray 22, 3) := by decide +kernel
theorem dX6_init_28 : decode cX6_init 28 = .ok (.putfield 24, 3) := by decide +kernel
theorem dX6_init_31 : decode cX6_init 31 = .ok (.iconst 0, 1) := by decide +kernel
theorem dX6_init_32 : decode cX6_init 32 = .ok (.istore_n 1, 1) := by decide +kernel
theorem dX6_init_33 : decode cX6_init 33 = .ok (.iload_n 1, 1) := by decide +kernel
theorem dX6_init_34 : decode cX6_init 34 = .ok (.bipush 12, 2) := by decide +kernel
theorem dX6_init_36 : decode cX6_init 36 = .ok (.if_icmp .ge 22, 3) := by decide +kernel
theorem dX6_init_39 : decode cX6_init 39 = .ok (.aload_n 0, 1) := by decide +kernel
theorem dX6_init_40 : decode cX6_init 40 = .ok (.getfield 24, 3) := by decide +kernel
theorem dX6_init_43 : decode cX6_init 43 = .ok (.iload_n 1, 1) := by decide +kernel
theorem dX6_init_44 : decode cX6_init 44 = .ok (.new 22, 3) := by decide +kernel
theorem dX6_init_47 : decode cX6_init 47 = .ok (.dup, 1) := by decide +kernel
theorem dX6_init_48 : decode cX6_init 48 = .ok (.invokespecial 28, 3) := by decide +kernel
theorem dX6_init_51 : decode cX6_init 51 = .ok (.aastore, 1) := by decide +kernel
theorem dX6_init_52 : decode cX6_init 52 = .ok (.iinc 1 1, 3) := by decide +kernel
theorem dX6_init_55 : decode cX6_init 55 = .ok (.goto (-22), 3) := by decide +kernel
theorem dX6_init_58 : decode cX6_init 58 = .ok (.return_, 1) := by decide +kernel
theorem dX6_kindHere_0 : decode cX6_kindHere 0 = .ok (.aload_n 0, 1) := by decide +kernel
theorem dX6_kindHere_1 : decode cX6_kindHere 1 = .ok (.getfield 12, 3) := by decide +kernel
theorem dX6_kindHere_4 : decode cX6_kindHere 4 = .ok (.aload_n 0, 1) := by decide +kernel
theorem dX6_kindHere_5 : decode cX6_kindHere 5 = .ok (.getfield 36, 3) := by decide +kernel
theorem dX6_kindHere_8 : decode cX6_kindHere 8 = .ok (.invokevirtual 65, 3) := by decide +kernel
theorem dX6_kindHere_11 : decode cX6_kindHere 11 = .ok (.istore_n 1, 1) := by decide +kernel
theorem dX6_kindHere_12 : decode cX6_kindHere 12 = .ok (.iload_n 1, 1) := by decide +kernel
theorem dX6_kindHere_13 : decode cX6_kindHere 13 = .ok (.ifCond .ge 7, 3) := by decide +kernel
theorem dX6_kindHere_16 : decode cX6_kindHere 16 = .ok (.iconst (-1), 1) := by decide +kernel
theorem dX6_kindHere_17 : decode cX6_kindHere 17 = .ok (.goto 10, 3) := by decide +kernel
theorem dX6_kindHere_20 : decode cX6_kindHere 20 = .ok (.ldc 68, 2) := by decide +kernel
theorem dX6_kindHere_22 : decode cX6_kindHere 22 = .ok (.iload_n 1, 1) := by decide +kernel
theorem dX6_kindHere_23 : decode cX6_kindHere 23 = .ok (.i2c, 1) := by decide +kernel
theorem dX6_kindHere_24 : decode cX6_kindHere 24 = .ok (.invokevirtual 70, 3) := by decide +kernel
theorem dX6_kindHere_27 : decode cX6_kindHere 27 = .ok (.istore_n 2, 1) := by decide +kernel
theorem dX6_kindHere_28 : decode cX6_kindHere 28 = .ok (.iload_n 2, 1) := by decide +kernel
theorem dX6_kindHere_29 : decode cX6_kindHere 29 = .ok (.ifCond .ge 9, 3) := by decide +kernel
theorem dX6_kindHere_32 : decode cX6_kindHere 32 = .ok (.sipush (-1005), 3) := by decide +kernel
theorem dX6_kindHere_35 : decode cX6_kindHere 35 = .ok (.goto 4, 3) := by decide +kernel
theorem dX6_kindHere_38 : decode cX6_kindHere 38 = .ok (.iload_n 2, 1) := by decide +kernel
theorem dX6_kindHere_39 : decode cX6_kindHere 39 = .ok (.ireturn, 1) := by decide +kernel
theorem dX6_newNode_0 : decode cX6_newNode 0 = .ok (.iload_n 1, 1) := by decide +kernel
theorem dX6_newNode_1 : decode cX6_newNode 1 = .ok (.invokestatic 75, 3) := by decide +kernel
theorem dX6_newNode_4 : decode cX6_newNode 4 = .ok (.istore_n 3, 1) := by decide +kernel
theorem dX6_newNode_5 : decode cX6_newNode 5 = .ok (.iload_n 3, 1) := by decide +kernel
theorem dX6_newNode_6 : decode cX6_newNode 6 = .ok (.ifCond .le 11, 3) := by decide +kernel
theorem dX6_newNode_9 : decode cX6_newNode 9 = .ok (.aload_n 0, 1) := by decide +kernel
theorem dX6_newNode_10 : decode cX6_newNode 10 = .ok (.iload_n 2, 1) := by decide +kernel
theorem dX6_newNode_11 : decode cX6_newNode 11 = .ok (.invokevirtual 43, 3) := by decide +kernel
theorem dX6_newNode_14 : decode cX6_newNode 14 = .ok (.goto 6, 3) := by decide +kernel
theorem dX6_newNode_17 : decode cX6_newNode 17 = .ok (.sipush (-1005), 3) := by decide +kernel
theorem dX6_newNode_20 : decode cX6_newNode 20 = .ok (.istore 4, 2) := by decide +kernel
theorem dX6_newNode_22 : decode cX6_newNode 22 = .ok (.iload_n 3, 1) := by decide +kernel
theorem dX6_newNode_23 : decode cX6_newNode 23 = .ok (.iconst 1, 1) := by decide +kernel
theorem dX6_newNode_24 : decode cX6_newNode 24 = .ok (.if_icmp .le 11, 3) := by decide +kernel
theorem dX6_newNode_27 : decode cX6_newNode 27 = .ok (.aload_n 0, 1) := by decide +kernel
theorem dX6_newNode_28 : decode cX6_newNode 28 = .ok (.iload_n 2, 1) := by decide +kernel
theorem dX6_newNode_29 : decode cX6_newNode 29 = .ok (.invokevirtual 80, 3) := by decide +kernel
theorem dX6_newNode_32 : decode cX6_newNode 32 = .ok (.goto 6, 3) := by decide +kernel
theorem dX6_newNode_35 : decode cX6_newNode 35 = .ok (.sipush (-1005), 3) := by decide +kernel
theorem dX6_newNode_38 : decode cX6_newNode 38 = .ok (.istore 5, 2) := by decide +kernel
theorem dX6_newNode_40 : decode cX6_newNode 40 = .ok (.iload_n 3, 1) := by decide +kernel
theorem dX6_newNode_41 : decode cX6_newNode 41 = .ok (.iconst 2, 1) := by decide +kernel
theorem dX6_newNode_42 : decode cX6_newNode 42 = .ok (.if_icmp .le 11, 3) := by decide +kernel
theorem dX6_newNode_45 : decode cX6_newNode 45 = .ok (.aload_n 0, 1) := by decide +kernel
theorem dX6_newNode_46 : decode cX6_newNode 46 = .ok (.iload_n 2, 1) := by decide +kernel
theorem dX6_newNode_47 : decode cX6_newNode 47 = .ok (.invokevirtual 80, 3) := by decide +kernel
theorem dX6_newNode_50 : decode cX6_newNode 50 = .ok (.goto 6, 3) := by decide +kernel
theorem dX6_newNode_53 : decode cX6_newNode 53 = .ok (.sipush (-1005), 3) := by decide +kernel
theorem dX6_newNode_56 : decode cX6_newNode 56 = .ok (.istore 6, 2) := by decide +kernel
theorem dX6_newNode_58 : decode cX6_newNode 58 = .ok (.iconst 0, 1) := by decide +kernel
theorem dX6_newNode_59 : decode cX6_newNode 59 = .ok (.istore 7, 2) := by decide +kernel
theorem dX6_newNode_61 : decode cX6_newNode 61 = .ok (.iload 7, 2) := by decide +kernel
theorem dX6_newNode_63 : decode cX6_newNode 63 = .ok (.iload_n 1, 1) := by decide +kernel
theorem dX6_newNode_64 : decode cX6_newNode 64 = .ok (.invokestatic 83, 3) := by decide +kernel
theorem dX6_newNode_67 : decode cX6_newNode 67 = .ok (.if_icmp .ge 45, 3) := by decide +kernel
theorem dX6_newNode_70 : decode cX6_newNode 70 = .ok (.iload_n 3, 1) := by decide +kernel
theorem dX6_newNode_71 : decode cX6_newNode 71 = .ok (.iload 7, 2) := by decide +kernel
theorem dX6_newNode_73 : decode cX6_newNode 73 = .ok (.iadd, 1) := by decide +kernel
theorem dX6_newNode_74 : decode cX6_newNode 74 = .ok (.ifCond .le 9, 3) := by decide +kernel
theorem dX6_newNode_77 : decode cX6_newNode 77 = .ok (.aload_n 0, 1) := by decide +kernel
theorem dX6_newNode_78 : decode cX6_newNode 78 = .ok (.bipush 44, 2) := by decide +kernel
theorem dX6_newNode_80 : decode cX6_newNode 80 = .ok (.invokevirtual 54, 3) := by decide +kernel
theorem dX6_newNode_83 : decode cX6_newNode 83 = .ok (.aload_n 0, 1) := by decide +kernel
theorem dX6_newNode_84 : decode cX6_newNode 84 = .ok (.getfield 18, 3) := by decide +kernel
theorem dX6_newNode_87 : decode cX6_newNode 87 = .ok (.iload 7, 2) := by decide +kernel
theorem dX6_newNode_89 : decode cX6_newNode 89 = .ok (.aload_n 0, 1) := by decide +kernel
theorem dX6_newNode_90 : decode cX6_newNode 90 = .ok (.iload_n 1, 1) := by decide +kernel
theorem dX6_newNode_91 : decode cX6_newNode 91 = .ok (.iload 7, 2) := by decide +kernel
theorem dX6_newNode_93 : decode cX6_newNode 93 = .ok (.invokestatic 85, 3) := by decide +kernel
theorem dX6_newNode_96 : decode cX6_newNode 96 = .ok (.iload_n 1, 1) := by decide +kernel
theorem dX6_newNode_97 : decode cX6_newNode 97 = .ok (.iload 7, 2) := by decide +kernel
theorem dX6_newNode_99 : decode cX6_newNode 99 = .ok (.invokestatic 88, 3) := by decide +kernel
theorem dX6_newNode_102 : decode cX6_newNode 102 = .ok (.invokevirtual 58, 3) := by decide +kernel
theorem dX6_newNode_105 : decode cX6_newNode 105 = .ok (.iastore, 1) := by decide +kernel
theorem dX6_newNode_106 : decode cX6_newNode 106 = .ok (.iinc 7 1, 3) := by decide +kernel
theorem dX6_newNode_109 : decode cX6_newNode 109 = .ok (.goto (-48), 3) := by decide +kernel
theorem dX6_newNode_112 : decode cX6_newNode 112 = .ok (.aload_n 0, 1) := by decide +kernel
theorem dX6_newNode_113 : decode cX6_newNode 113 = .ok (.getfield 29, 3) := by decide +kernel
theorem dX6_newNode_116 : decode cX6_newNode 116 = .ok (.aload_n 0, 1) := by decide +kernel
theorem dX6_newNode_117 : decode cX6_newNode 117 = .ok (.getfield 33, 3) := by decide +kernel
theorem dX6_newNode_120 : decode cX6_newNode 120 = .ok (.iadd, 1) := by decide +kernel
theorem dX6_newNode_121 : decode cX6_newNode 121 = .ok (.istore 7, 2) := by decide +kernel
theorem dX6_newNode_123 : decode cX6_newNode 123 = .ok (.aload_n 0, 1) := by decide +kernel
theorem dX6_newNode_124 : decode cX6_newNode 124 = .ok (.getfield 33, 3) := by decide +kernel
theorem dX6_newNode_127 : decode cX6_newNode 127 = .ok (.bipush 12, 2) := by decide +kernel
theorem dX6_newNode_129 : decode cX6_newNode 129 = .ok (.if_icmp .ge 23, 3) := by decide +kernel
theorem dX6_newNode_132 : decode cX6_newNode 132 = .ok (.aload_n 0, 1) := by decide +kernel
theorem dX6_newNode_133 : decode cX6_newNode 133 = .ok (.aload_n 0, 1) := by decide +kernel
theorem dX6_newNode_134 : decode cX6_newNode 134 = .ok (.getfield 24, 3) := by decide +kernel
theorem dX6_newNode_137 : decode cX6_newNode 137 = .ok (.aload_n 0, 1) := by decide +kernel
theorem dX6_newNode_138 : decode cX6_newNode 138 = .ok (.getfield 33, 3) := by decide +kernel
theorem dX6_newNode_141 : decode cX6_newNode 141 = .ok (.aaload, 1) := by decide +kernel
theorem dX6_newNode_142 : decode cX6_newNode 142 = .ok (.iload_n 1, 1) := by decide +kernel
theorem dX6_newNode_143 : decode cX6_newNode 143 = .ok (.iload 4, 2) := by decide +kernel
theorem dX6_newNode_145 : decode cX6_newNode 145 = .ok (.iload 5, 2) := by decide +kernel
theorem dX6_newNode_147 : decode cX6_newNode 147 = .ok (.iload 6, 2) := by decide +kernel
theorem dX6_newNode_149 : decode cX6_newNode 149 = .ok (.invokevirtual 91, 3) := by decide +kernel
theorem dX6_newNode_152 : decode cX6_newNode 152 = .ok (.aload_n 0, 1) := by decide +kernel
theorem dX6_newNode_153 : decode cX6_newNode 153 = .ok (.dup, 1) := by decide +kernel
theorem dX6_newNode_154 : decode cX6_newNode 154 = .ok (.getfield 33, 3) := by decide +kernel
theorem dX6_newNode_157 : decode cX6_newNode 157 = .ok (.iconst 1, 1) := by decide +kernel
theorem dX6_newNode_158 : decode cX6_newNode 158 = .ok (.iadd, 1) := by decide +kernel
theorem dX6_newNode_159 : decode cX6_newNode 159 = .ok (.putfield 33, 3) := by decide +kernel
theorem dX6_newNode_162 : decode cX6_newNode 162 = .ok (.iload 7, 2) := by decide +kernel
theorem dX6_newNode_164 : decode cX6_newNode 164 = .ok (.ireturn, 1) := by decide +kernel
theorem dX6_nextExpression_0 : decode cX6_nextExpression 0 = .ok (.aload_n 0, 1) := by decide +kernel
theorem dX6_nextExpression_1 : decode cX6_nextExpression 1 = .ok (.bipush 44, 2) := by decide +kernel
theorem dX6_nextExpression_3 : decode cX6_nextExpression 3 = .ok (.invokevirtual 54, 3) := by decide +kernel
theorem dX6_nextExpression_6 : decode cX6_nextExpression 6 = .ok (.aload_n 0, 1) := by decide +kernel
theorem dX6_nextExpression_7 : decode cX6_nextExpression 7 = .ok (.iload_n 1, 1) := by decide +kernel
theorem dX6_nextExpression_8 : decode cX6_nextExpression 8 = .ok (.invokevirtual 43, 3) := by decide +kernel
theorem dX6_nextExpression_11 : decode cX6_nextExpression 11 = .ok (.ireturn, 1) := by decide +kernel
theorem dX6_read_0 : decode cX6_read 0 = .ok (.aload_n 0, 1) := by decide +kernel
theorem dX6_read_1 : decode cX6_read 1 = .ok (.iload_n 1, 1) := by decide +kernel
theorem dX6_read_2 : decode cX6_read 2 = .ok (.putfield 29, 3) := by decide +kernel
theorem dX6_read_5 : decode cX6_read 5 = .ok (.aload_n 0, 1) := by decide +kernel
theorem dX6_read_6 : decode cX6_read 6 = .ok (.iconst 0, 1) := by decide +kernel
theorem dX6_read_7 : decode cX6_read 7 = .ok (.putfield 33, 3) := by decide +kernel
theorem dX6_read_10 : decode cX6_read 10 = .ok (.aload_n 0, 1) := by decide +kernel
theorem dX6_read_11 : decode cX6_read 11 = .ok (.iconst 0, 1) := by decide +kernel
theorem dX6_read_12 : decode cX6_read 12 = .ok (.putfield 36, 3) := by decide +kernel
theorem dX6_read_15 : decode cX6_read 15 = .ok (.aload_n 0, 1) := by decide +kernel
theorem dX6_read_16 : decode cX6_read 16 = .ok (.iconst 0, 1) := by decide +kernel
theorem dX6_read_17 : decode cX6_read 17 = .ok (.putfield 39, 3) := by decide +kernel
theorem dX6_read_20 : decode cX6_read 20 = .ok (.aload_n 0, 1) := by decide +kernel
theorem dX6_read_21 : decode cX6_read 21 = .ok (.iconst 0, 1) := by decide +kernel
theorem dX6_read_22 : decode cX6_read 22 = .ok (.invokevirtual 43, 3) := by decide +kernel
theorem dX6_read_25 : decode cX6_read 25 = .ok (.istore_n 2, 1) := by decide +kernel
theorem dX6_read_26 : decode cX6_read 26 = .ok (.aload_n 0, 1) := by decide +kernel
theorem dX6_read_27 : decode cX6_read 27 = .ok (.getfield 36, 3) := by decide +kernel
theorem dX6_read_30 : decode cX6_read 30 = .ok (.aload_n 0, 1) := by decide +kernel
theorem dX6_read_31 : decode cX6_read 31 = .ok (.getfield 12, 3) := by decide +kernel
theorem dX6_read_34 : decode cX6_read 34 = .ok (.getfield 47, 3) := by decide +kernel
theorem dX6_read_37 : decode cX6_read 37 = .ok (.if_icmp .ge 8, 3) := by decide +kernel
theorem dX6_read_40 : decode cX6_read 40 = .ok (.aload_n 0, 1) := by decide +kernel
theorem dX6_read_41 : decode cX6_read 41 = .ok (.iconst 1, 1) := by decide +kernel
theorem dX6_read_42 : decode cX6_read 42 = .ok (.putfield 39, 3) := by decide +kernel
theorem dX6_read_45 : decode cX6_read 45 = .ok (.iload_n 2, 1) := by decide +kernel
theorem dX6_read_46 : decode cX6_read 46 = .ok (.ireturn, 1) := by decide +kernel
theorem dX6_readDigits_0 : decode cX6_readDigits 0 = .ok (.iconst 0, 1) := by decide +kernel
theorem dX6_readDigits_1 : decode cX6_readDigits 1 = .ok (.istore_n 1, 1) := by decide +kernel
theorem dX6_readDigits_2 : decode cX6_readDigits 2 = .ok (.iconst 0, 1) := by decide +kernel
theorem dX6_readDigits_3 : decode cX6_readDigits 3 = .ok (.istore_n 2, 1) := by decide +kernel
theorem dX6_readDigits_4 : decode cX6_readDigits 4 = .ok (.iload_n 2, 1) := by decide +kernel
theorem dX6_readDigits_5 : decode cX6_readDigits 5 = .ok (.iconst 3, 1) := by decide +kernel
theorem dX6_readDigits_6 : decode cX6_readDigits 6 = .ok (.if_icmp .ge 75, 3) := by decide +kernel
theorem dX6_readDigits_9 : decode cX6_readDigits 9 = .ok (.aload_n 0, 1) := by decide +kernel
theorem dX6_readDigits_10 : decode cX6_readDigits 10 = .ok (.getfield 12, 3) := by decide +kernel
theorem dX6_readDigits_13 : decode cX6_readDigits 13 = .ok (.aload_n 0, 1) := by decide +kernel
theorem dX6_readDigits_14 : decode cX6_readDigits 14 = .ok (.getfield 36, 3) := by decide +kernel
theorem dX6_readDigits_17 : decode cX6_readDigits 17 = .ok (.invokevirtual 65, 3) := by decide +kernel
theorem dX6_readDigits_20 : decode cX6_readDigits 20 = .ok (.istore_n 3, 1) := by decide +kernel
theorem dX6_readDigits_21 : decode cX6_readDigits 21 = .ok (.iload_n 2, 1) := by decide +kernel
theorem dX6_readDigits_22 : decode cX6_readDigits 22 = .ok (.ifCond .le 11, 3) := by decide +kernel
theorem dX6_readDigits_25 : decode cX6_readDigits 25 = .ok (.iload_n 1, 1) := by decide +kernel
theorem dX6_readDigits_26 : decode cX6_readDigits 26 = .ok (.ifCond .ne 7, 3) := by decide +kernel
theorem dX6_readDigits_29 : decode cX6_readDigits 29 = .ok (.iconst 1, 1) := by decide +kernel
theorem dX6_readDigits_30 : decode cX6_readDigits 30 = .ok (.goto 4, 3) := by decide +kernel
theorem dX6_readDigits_33 : decode cX6_readDigits 33 = .ok (.iconst 0, 1) := by decide +kernel
theorem dX6_readDigits_34 : decode cX6_readDigits 34 = .ok (.istore 4, 2) := by decide +kernel
theorem dX6_readDigits_36 : decode cX6_readDigits 36 = .ok (.iload_n 3, 1) := by decide +kernel
theorem dX6_readDigits_37 : decode cX6_readDigits 37 = .ok (.bipush 48, 2) := by decide +kernel
theorem dX6_readDigits_39 : decode cX6_readDigits 39 = .ok (.bipush 57, 2) := by decide +kernel
theorem dX6_readDigits_41 : decode cX6_readDigits 41 = .ok (.invokestatic 108, 3) := by decide +kernel
theorem dX6_readDigits_44 : decode cX6_readDigits 44 = .ok (.ifCond .eq 37, 3) := by decide +kernel
theorem dX6_readDigits_47 : decode cX6_readDigits 47 = .ok (.iload 4, 2) := by decide +kernel
theorem dX6_readDigits_49 : decode cX6_readDigits 49 = .ok (.ifCond .eq 6, 3) := by decide +kernel
theorem dX6_readDigits_52 : decode cX6_readDigits 52 = .ok (.goto 29, 3) := by decide +kernel
theorem dX6_readDigits_55 : decode cX6_readDigits 55 = .ok (.iload_n 1, 1) := by decide +kernel
theorem dX6_readDigits_56 : decode cX6_readDigits 56 = .ok (.bipush 10, 2) := by decide +kernel
theorem dX6_readDigits_58 : decode cX6_readDigits 58 = .ok (.imul, 1) := by decide +kernel
theorem dX6_readDigits_59 : decode cX6_readDigits 59 = .ok (.iload_n 3, 1) := by decide +kernel
theorem dX6_readDigits_60 : decode cX6_readDigits 60 = .ok (.iadd, 1) := by decide +kernel
theorem dX6_readDigits_61 : decode cX6_readDigits 61 = .ok (.bipush 48, 2) := by decide +kernel
theorem dX6_readDigits_63 : decode cX6_readDigits 63 = .ok (.isub, 1) := by decide +kernel
theorem dX6_readDigits_64 : decode cX6_readDigits 64 = .ok (.istore_n 1, 1) := by decide +kernel
theorem dX6_readDigits_65 : decode cX6_readDigits 65 = .ok (.aload_n 0, 1) := by decide +kernel
theorem dX6_readDigits_66 : decode cX6_readDigits 66 = .ok (.dup, 1) := by decide +kernel
theorem dX6_readDigits_67 : decode cX6_readDigits 67 = .ok (.getfield 36, 3) := by decide +kernel
theorem dX6_readDigits_70 : decode cX6_readDigits 70 = .ok (.iconst 1, 1) := by decide +kernel
theorem dX6_readDigits_71 : decode cX6_readDigits 71 = .ok (.iadd, 1) := by decide +kernel
theorem dX6_readDigits_72 : decode cX6_readDigits 72 = .ok (.putfield 36, 3) := by decide +kernel
theorem dX6_readDigits_75 : decode cX6_readDigits 75 = .ok (.iinc 2 1, 3) := by decide +kernel
theorem dX6_readDigits_78 : decode cX6_readDigits 78 = .ok (.goto (-74), 3) := by decide +kernel
theorem dX6_readDigits_81 : decode cX6_readDigits 81 = .ok (.iload_n 1, 1) := by decide +kernel
theorem dX6_readDigits_82 : decode cX6_readDigits 82 = .ok (.ireturn, 1) := by decide +kernel
theorem dX6_readNumber_0 : decode cX6_readNumber 0 = .ok (.aload_n 0, 1) := by decide +kernel
theorem dX6_readNumber_1 : decode cX6_readNumber 1 = .ok (.getfield 39, 3) := by decide +kernel
theorem dX6_readNumber_4 : decode cX6_readNumber 4 = .ok (.ifCond .eq 5, 3) := by decide +kernel
theorem dX6_readNumber_7 : decode cX6_readNumber 7 = .ok (.iconst 0, 1) := by decide +kernel
theorem dX6_readNumber_8 : decode cX6_readNumber 8 = .ok (.ireturn, 1) := by decide +kernel
theorem dX6_readNumber_9 : decode cX6_readNumber 9 = .ok (.iload_n 1, 1) := by decide +kernel
theorem dX6_readNumber_10 : decode cX6_readNumber 10 = .ok (.ifCond .ge 23, 3) := by decide +kernel
theorem dX6_readNumber_13 : decode cX6_readNumber 13 = .ok (.aload_n 0, 1) := by decide +kernel
theorem dX6_readNumber_14 : decode cX6_readNumber 14 = .ok (.getfield 12, 3) := by decide +kernel
theorem dX6_readNumber_17 : decode cX6_readNumber 17 = .ok (.aload_n 0, 1) := by decide +kernel
theorem dX6_readNumber_18 : decode cX6_readNumber 18 = .ok (.getfield 36, 3) := by decide +kernel
theorem dX6_readNumber_21 : decode cX6_readNumber 21 = .ok (.invokevirtual 65, 3) := by decide +kernel
theorem dX6_readNumber_24 : decode cX6_readNumber 24 = .ok (.bipush 45, 2) := by decide +kernel
theorem dX6_readNumber_26 : decode cX6_readNumber 26 = .ok (.if_icmp .ne 7, 3) := by decide +kernel
theorem dX6_readNumber_29 : decode cX6_readNumber 29 = .ok (.iconst 1, 1) := by decide +kernel
theorem dX6_readNumber_30 : decode cX6_readNumber 30 = .ok (.goto 4, 3) := by decide +kernel
theorem dX6_readNumber_33 : decode cX6_readNumber 33 = .ok (.iconst 0, 1) := by decide +kernel
theorem dX6_readNumber_34 : decode cX6_readNumber 34 = .ok (.istore_n 3, 1) := by decide +kernel
theorem dX6_readNumber_35 : decode cX6_readNumber 35 = .ok (.iload_n 3, 1) := by decide +kernel
theorem dX6_readNumber_36 : decode cX6_readNumber 36 = .ok (.ifCond .eq 13, 3) := by decide +kernel
theorem dX6_readNumber_39 : decode cX6_readNumber 39 = .ok (.aload_n 0, 1) := by decide +kernel
theorem dX6_readNumber_40 : decode cX6_readNumber 40 = .ok (.dup, 1) := by decide +kernel
theorem dX6_readNumber_41 : decode cX6_readNumber 41 = .ok (.getfield 36, 3) := by decide +kernel
theorem dX6_readNumber_44 : decode cX6_readNumber 44 = .ok (.iconst 1, 1) := by decide +kernel
theorem dX6_readNumber_45 : decode cX6_readNumber 45 = .ok (.iadd, 1) := by decide +kernel
theorem dX6_readNumber_46 : decode cX6_readNumber 46 = .ok (.putfield 36, 3) := by decide +kernel
theorem dX6_readNumber_49 : decode cX6_readNumber 49 = .ok (.aload_n 0, 1) := by decide +kernel
theorem dX6_readNumber_50 : decode cX6_readNumber 50 = .ok (.getfield 36, 3) := by decide +kernel
theorem dX6_readNumber_53 : decode cX6_readNumber 53 = .ok (.istore 4, 2) := by decide +kernel
theorem dX6_readNumber_55 : decode cX6_readNumber 55 = .ok (.aload_n 0, 1) := by decide +kernel
theorem dX6_readNumber_56 : decode cX6_readNumber 56 = .ok (.invokevirtual 105, 3) := by decide +kernel
theorem dX6_readNumber_59 : decode cX6_readNumber 59 = .ok (.istore 5, 2) := by decide +kernel
theorem dX6_readNumber_61 : decode cX6_readNumber 61 = .ok (.aload_n 0, 1) := by decide +kernel
theorem dX6_readNumber_62 : decode cX6_readNumber 62 = .ok (.getfield 36, 3) := by decide +kernel
theorem dX6_readNumber_65 : decode cX6_readNumber 65 = .ok (.iload 4, 2) := by decide +kernel
theorem dX6_readNumber_67 : decode cX6_readNumber 67 = .ok (.if_icmp .ne 11, 3) := by decide +kernel
theorem dX6_readNumber_70 : decode cX6_readNumber 70 = .ok (.aload_n 0, 1) := by decide +kernel
theorem dX6_readNumber_71 : decode cX6_readNumber 71 = .ok (.iconst 1, 1) := by decide +kernel
theorem dX6_readNumber_72 : decode cX6_readNumber 72 = .ok (.putfield 39, 3) := by decide +kernel
theorem dX6_readNumber_75 : decode cX6_readNumber 75 = .ok (.goto 29, 3) := by decide +kernel
theorem dX6_readNumber_78 : decode cX6_readNumber 78 = .ok (.iload 5, 2) := by decide +kernel
theorem dX6_readNumber_80 : decode cX6_readNumber 80 = .ok (.iload_n 2, 1) := by decide +kernel
theorem dX6_readNumber_81 : decode cX6_readNumber 81 = .ok (.if_icmp .gt 12, 3) := by decide +kernel
theorem dX6_readNumber_84 : decode cX6_readNumber 84 = .ok (.iload_n 3, 1) := by decide +kernel
theorem dX6_readNumber_85 : decode cX6_readNumber 85 = .ok (.ifCond .eq 19, 3) := by decide +kernel
theorem dX6_readNumber_88 : decode cX6_readNumber 88 = .ok (.iload 5, 2) := by decide +kernel
theorem dX6_readNumber_90 : decode cX6_readNumber 90 = .ok (.ifCond .ne 14, 3) := by decide +kernel
theorem dX6_readNumber_93 : decode cX6_readNumber 93 = .ok (.aload_n 0, 1) := by decide +kernel
theorem dX6_readNumber_94 : decode cX6_readNumber 94 = .ok (.iload 4, 2) := by decide +kernel
theorem dX6_readNumber_96 : decode cX6_readNumber 96 = .ok (.putfield 36, 3) := by decide +kernel
theorem dX6_readNumber_99 : decode cX6_readNumber 99 = .ok (.aload_n 0, 1) := by decide +kernel
theorem dX6_readNumber_100 : decode cX6_readNumber 100 = .ok (.iconst 1, 1) := by decide +kernel
theorem dX6_readNumber_101 : decode cX6_readNumber 101 = .ok (.putfield 39, 3) := by decide +kernel
theorem dX6_readNumber_104 : decode cX6_readNumber 104 = .ok (.iload_n 3, 1) := by decide +kernel
theorem dX6_readNumber_105 : decode cX6_readNumber 105 = .ok (.ifCond .eq 9, 3) := by decide +kernel
theorem dX6_readNumber_108 : decode cX6_readNumber 108 = .ok (.iload 5, 2) := by decide +kernel
theorem dX6_readNumber_110 : decode cX6_readNumber 110 = .ok (.ineg, 1) := by decide +kernel
theorem dX6_readNumber_111 : decode cX6_readNumber 111 = .ok (.goto 5, 3) := by decide +kernel
theorem dX6_readNumber_114 : decode cX6_readNumber 114 = .ok (.iload 5, 2) := by decide +kernel
theorem dX6_readNumber_116 : decode cX6_readNumber 116 = .ok (.ireturn, 1) := by decide +kernel
theorem dX7_different_0 : decode cX7_different 0 = .ok (.iload_n 1, 1) := by decide +kernel
theorem dX7_different_1 : decode cX7_different 1 = .ok (.bipush 32, 2) := by decide +kernel
theorem dX7_different_3 : decode cX7_different 3 = .ok (.imul, 1) := by decide +kernel
theorem dX7_different_4 : decode cX7_different 4 = .ok (.istore_n 2, 1) := by decide +kernel
theorem dX7_different_5 : decode cX7_different 5 = .ok (.iconst 0, 1) := by decide +kernel
theorem dX7_different_6 : decode cX7_different 6 = .ok (.istore_n 3, 1) := by decide +kernel
theorem dX7_different_7 : decode cX7_different 7 = .ok (.iload_n 2, 1) := by decide +kernel
theorem dX7_different_8 : decode cX7_different 8 = .ok (.istore 4, 2) := by decide +kernel
theorem dX7_different_10 : decode cX7_different 10 = .ok (.iload 4, 2) := by decide +kernel
theorem dX7_different_12 : decode cX7_different 12 = .ok (.iload_n 2, 1) := by decide +kernel
theorem dX7_different_13 : decode cX7_different 13 = .ok (.bipush 32, 2) := by decide +kernel
theorem dX7_different_15 : decode cX7_different 15 = .ok (.iadd, 1) := by decide +kernel
theorem dX7_different_16 : decode cX7_different 16 = .ok (.if_icmp .ge 22, 3) := by decide +kernel
theorem dX7_different_19 : decode cX7_different 19 = .ok (.aload_n 0, 1) := by decide +kernel
theorem dX7_different_20 : decode cX7_different 20 = .ok (.iload_n 2, 1) := by decide +kernel
theorem dX7_different_21 : decode cX7_different 21 = .ok (.iload 4, 2) := by decide +kernel
theorem dX7_different_23 : decode cX7_different 23 = .ok (.invokestatic 18, 3) := by decide +kernel
theorem dX7_different_26 : decode cX7_different 26 = .ok (.ifCond .ne 6, 3) := by decide +kernel
theorem dX7_different_29 : decode cX7_different 29 = .ok (.iinc 3 1, 3) := by decide +kernel
theorem dX7_different_32 : decode cX7_different 32 = .ok (.iinc 4 1, 3) := by decide +kernel
theorem dX7_different_35 : decode cX7_different 35 = .ok (.goto (-25), 3) := by decide +kernel
theorem dX7_different_38 : decode cX7_different 38 = .ok (.iload_n 3, 1) := by decide +kernel
theorem dX7_different_39 : decode cX7_different 39 = .ok (.ireturn, 1) := by decide +kernel
theorem dX7_greatest_0 : decode cX7_greatest 0 = .ok (.iload_n 1, 1) := by decide +kernel
theorem dX7_greatest_1 : decode cX7_greatest 1 = .ok (.bipush 32, 2) := by decide +kernel
theorem dX7_greatest_3 : decode cX7_greatest 3 = .ok (.imul, 1) := by decide +kernel
theorem dX7_greatest_4 : decode cX7_greatest 4 = .ok (.istore_n 2, 1) := by decide +kernel
theorem dX7_greatest_5 : decode cX7_greatest 5 = .ok (.iconst 0, 1) := by decide +kernel
theorem dX7_greatest_6 : decode cX7_greatest 6 = .ok (.istore_n 3, 1) := by decide +kernel
theorem dX7_greatest_7 : decode cX7_greatest 7 = .ok (.iconst 0, 1) := by decide +kernel
theorem dX7_greatest_8 : decode cX7_greatest 8 = .ok (.istore 4, 2) := by decide +kernel
theorem dX7_greatest_10 : decode cX7_greatest 10 = .ok (.iload 4, 2) := by decide +kernel
theorem dX7_greatest_12 : decode cX7_greatest 12 = .ok (.bipush 32, 2) := by decide +kernel
theorem dX7_greatest_14 : decode cX7_greatest 14 = .ok (.if_icmp .ge 20, 3) := by decide +kernel
theorem dX7_greatest_17 : decode cX7_greatest 17 = .ok (.iload_n 3, 1) := by decide +kernel
theorem dX7_greatest_18 : decode cX7_greatest 18 = .ok (.aload_n 0, 1) := by decide +kernel
theorem dX7_greatest_19 : decode cX7_greatest 19 = .ok (.iload_n 2, 1) := by decide +kernel
theorem dX7_greatest_20 : decode cX7_greatest 20 = .ok (.iload 4, 2) := by decide +kernel
theorem dX7_greatest_22 : decode cX7_greatest 22 = .ok (.iadd, 1) := by decide +kernel
theorem dX7_greatest_23 : decode cX7_greatest 23 = .ok (.iaload, 1) := by decide +kernel
theorem dX7_greatest_24 : decode cX7_greatest 24 = .ok (.invokestatic 15, 3) := by decide +kernel
theorem dX7_greatest_27 : decode cX7_greatest 27 = .ok (.istore_n 3, 1) := by decide +kernel
theorem dX7_greatest_28 : decode cX7_greatest 28 = .ok (.iinc 4 1, 3) := by decide +kernel
theorem dX7_greatest_31 : decode cX7_greatest 31 = .ok (.goto (-21), 3) := by decide +kernel
theorem dX7_greatest_34 : decode cX7_greatest 34 = .ok (.iload_n 3, 1) := by decide +kernel
theorem dX7_greatest_35 : decode cX7_greatest 35 = .ok (.ireturn, 1) := by decide +kernel
theorem dX7_greatestDifference_0 : decode cX7_greatestDifference 0 = .ok (.iconst 0, 1) := by decide +kernel
theorem dX7_greatestDifference_1 : decode cX7_greatestDifference 1 = .ok (.istore_n 2, 1) := by decide +kernel
theorem dX7_greatestDifference_2 : decode cX7_greatestDifference 2 = .ok (.iconst 0, 1) := by decide +kernel
theorem dX7_greatestDifference_3 : decode cX7_greatestDifference 3 = .ok (.istore_n 3, 1) := by decide +kernel
theorem dX7_greatestDifference_4 : decode cX7_greatestDifference 4 = .ok (.iload_n 3, 1) := by decide +kernel
theorem dX7_greatestDifference_5 : decode cX7_greatestDifference 5 = .ok (.bipush 96, 2) := by decide +kernel
theorem dX7_greatestDifference_7 : decode cX7_greatestDifference 7 = .ok (.if_icmp .ge 24, 3) := by decide +kernel
theorem dX7_greatestDifference_10 : decode cX7_greatestDifference 10 = .ok (.iload_n 2, 1) := by decide +kernel
theorem dX7_greatestDifference_11 : decode cX7_greatestDifference 11 = .ok (.aload_n 0, 1) := by decide +kernel
theorem dX7_greatestDifference_12 : decode cX7_greatestDifference 12 = .ok (.iload_n 3, 1) := by decide +kernel
theorem dX7_greatestDifference_13 : decode cX7_greatestDifference 13 = .ok (.iaload, 1) := by decide +kernel
theorem dX7_greatestDifference_14 : decode cX7_greatestDifference 14 = .ok (.aload_n 1, 1) := by decide +kernel
theorem dX7_greatestDifference_15 : decode cX7_greatestDifference 15 = .ok (.iload_n 3, 1) := by decide +kernel
theorem dX7_greatestDifference_16 : decode cX7_greatestDifference 16 = .ok (.iaload, 1) := by decide +kernel
theorem dX7_greatestDifference_17 : decode cX7_greatestDifference 17 = .ok (.isub, 1) := by decide +kernel
theorem dX7_greatestDifference_18 : decode cX7_greatestDifference 18 = .ok (.invokestatic 24, 3) := by decide +kernel
theorem dX7_greatestDifference_21 : decode cX7_greatestDifference 21 = .ok (.invokestatic 15, 3) := by decide +kernel
theorem dX7_greatestDifference_24 : decode cX7_greatestDifference 24 = .ok (.istore_n 2, 1) := by decide +kernel
theorem dX7_greatestDifference_25 : decode cX7_greatestDifference 25 = .ok (.iinc 3 1, 3) := by decide +kernel
theorem dX7_greatestDifference_28 : decode cX7_greatestDifference 28 = .ok (.goto (-24), 3) := by decide +kernel
theorem dX7_greatestDifference_31 : decode cX7_greatestDifference 31 = .ok (.iload_n 2, 1) := by decide +kernel
theorem dX7_greatestDifference_32 : decode cX7_greatestDifference 32 = .ok (.ireturn, 1) := by decide +kernel
theorem dX7_inPart_0 : decode cX7_inPart 0 = .ok (.iload_n 1, 1) := by decide +kernel
theorem dX7_inPart_1 : decode cX7_inPart 1 = .ok (.bipush 32, 2) := by decide +kernel
theorem dX7_inPart_3 : decode cX7_inPart 3 = .ok (.imul, 1) := by decide +kernel
theorem dX7_inPart_4 : decode cX7_inPart 4 = .ok (.istore_n 3, 1) := by decide +kernel
theorem dX7_inPart_5 : decode cX7_inPart 5 = .ok (.iconst 0, 1) := by decide +kernel
theorem dX7_inPart_6 : decode cX7_inPart 6 = .ok (.istore 4, 2) := by decide +kernel
theorem dX7_inPart_8 : decode cX7_inPart 8 = .ok (.iconst 0, 1) := by decide +kernel
theorem dX7_inPart_9 : decode cX7_inPart 9 = .ok (.istore 5, 2) := by decide +kernel
theorem dX7_inPart_11 : decode cX7_inPart 11 = .ok (.iload 5, 2) := by decide +kernel
theorem dX7_inPart_13 : decode cX7_inPart 13 = .ok (.bipush 32, 2) := by decide +kernel
theorem dX7_inPart_15 : decode cX7_inPart 15 = .ok (.if_icmp .ge 25, 3) := by decide +kernel
theorem dX7_inPart_18 : decode cX7_inPart 18 = .ok (.aload_n 0, 1) := by decide +kernel
theorem dX7_inPart_19 : decode cX7_inPart 19 = .ok (.iload_n 3, 1) := by decide +kernel
theorem dX7_inPart_20 : decode cX7_inPart 20 = .ok (.iload 5, 2) := by decide +kernel
theorem dX7_inPart_22 : decode cX7_inPart 22 = .ok (.iadd, 1) := by decide +kernel
theorem dX7_inPart_23 : decode cX7_inPart 23 = .ok (.iaload, 1) := by decide +kernel
theorem dX7_inPart_24 : decode cX7_inPart 24 = .ok (.bipush 16, 2) := by decide +kernel
theorem dX7_inPart_26 : decode cX7_inPart 26 = .ok (.idiv, 1) := by decide +kernel
theorem dX7_inPart_27 : decode cX7_inPart 27 = .ok (.iload_n 2, 1) := by decide +kernel
theorem dX7_inPart_28 : decode cX7_inPart 28 = .ok (.if_icmp .ne 6, 3) := by decide +kernel
theorem dX7_inPart_31 : decode cX7_inPart 31 = .ok (.iinc 4 1, 3) := by decide +kernel
theorem dX7_inPart_34 : decode cX7_inPart 34 = .ok (.iinc 5 1, 3) := by decide +kernel
theorem dX7_inPart_37 : decode cX7_inPart 37 = .ok (.goto (-26), 3) := by decide +kernel
theorem dX7_inPart_40 : decode cX7_inPart 40 = .ok (.iload 4, 2) := by decide +kernel
theorem dX7_inPart_42 : decode cX7_inPart 42 = .ok (.ireturn, 1) := by decide +kernel
theorem dX7_least_0 : decode cX7_least 0 = .ok (.iload_n 1, 1) := by decide +kernel
theorem dX7_least_1 : decode cX7_least 1 = .ok (.bipush 32, 2) := by decide +kernel
theorem dX7_least_3 : decode cX7_least 3 = .ok (.imul, 1) := by decide +kernel
theorem dX7_least_4 : decode cX7_least 4 = .ok (.istore_n 2, 1) := by decide +kernel
theorem dX7_least_5 : decode cX7_least 5 = .ok (.sipush 255, 3) := by decide +kernel
theorem dX7_least_8 : decode cX7_least 8 = .ok (.istore_n 3, 1) := by decide +kernel
theorem dX7_least_9 : decode cX7_least 9 = .ok (.iconst 0, 1) := by decide +kernel
theorem dX7_least_10 : decode cX7_least 10 = .ok (.istore 4, 2) := by decide +kernel
theorem dX7_least_12 : decode cX7_least 12 = .ok (.iload 4, 2) := by decide +kernel
theorem dX7_least_14 : decode cX7_least 14 = .ok (.bipush 32, 2) := by decide +kernel
theorem dX7_least_16 : decode cX7_least 16 = .ok (.if_icmp .ge 20, 3) := by decide +kernel
theorem dX7_least_19 : decode cX7_least 19 = .ok (.iload_n 3, 1) := by decide +kernel
theorem dX7_least_20 : decode cX7_least 20 = .ok (.aload_n 0, 1) := by decide +kernel
theorem dX7_least_21 : decode cX7_least 21 = .ok (.iload_n 2, 1) := by decide +kernel
theorem dX7_least_22 : decode cX7_least 22 = .ok (.iload 4, 2) := by decide +kernel
theorem dX7_least_24 : decode cX7_least 24 = .ok (.iadd, 1) := by decide +kernel
theorem dX7_least_25 : decode cX7_least 25 = .ok (.iaload, 1) := by decide +kernel
theorem dX7_least_26 : decode cX7_least 26 = .ok (.invokestatic 9, 3) := by decide +kernel
theorem dX7_least_29 : decode cX7_least 29 = .ok (.istore_n 3, 1) := by decide +kernel
theorem dX7_least_30 : decode cX7_least 30 = .ok (.iinc 4 1, 3) := by decide +kernel
theorem dX7_least_33 : decode cX7_least 33 = .ok (.goto (-21), 3) := by decide +kernel
theorem dX7_least_36 : decode cX7_least 36 = .ok (.iload_n 3, 1) := by decide +kernel
theorem dX7_least_37 : decode cX7_least 37 = .ok (.ireturn, 1) := by decide +kernel
theorem dX7_standsBefore_0 : decode cX7_standsBefore 0 = .ok (.iload_n 1, 1) := by decide +kernel
theorem dX7_standsBefore_1 : decode cX7_standsBefore 1 = .ok (.istore_n 3, 1) := by decide +kernel
theorem dX7_standsBefore_2 : decode cX7_standsBefore 2 = .ok (.iload_n 3, 1) := by decide +kernel
theorem dX7_standsBefore_3 : decode cX7_standsBefore 3 = .ok (.iload_n 2, 1) := by decide +kernel
theorem dX7_standsBefore_4 : decode cX7_standsBefore 4 = .ok (.if_icmp .ge 20, 3) := by decide +kernel
theorem dX7_standsBefore_7 : decode cX7_standsBefore 7 = .ok (.aload_n 0, 1) := by decide +kernel
theorem dX7_standsBefore_8 : decode cX7_standsBefore 8 = .ok (.iload_n 3, 1) := by decide +kernel
theorem dX7_standsBefore_9 : decode cX7_standsBefore 9 = .ok (.iaload, 1) := by decide +kernel
theorem dX7_standsBefore_10 : decode cX7_standsBefore 10 = .ok (.aload_n 0, 1) := by decide +kernel
theorem dX7_standsBefore_11 : decode cX7_standsBefore 11 = .ok (.iload_n 2, 1) := by decide +kernel
theorem dX7_standsBefore_12 : decode cX7_standsBefore 12 = .ok (.iaload, 1) := by decide +kernel
theorem dX7_standsBefore_13 : decode cX7_standsBefore 13 = .ok (.if_icmp .ne 5, 3) := by decide +kernel
theorem dX7_standsBefore_16 : decode cX7_standsBefore 16 = .ok (.iconst 1, 1) := by decide +kernel
theorem dX7_standsBefore_17 : decode cX7_standsBefore 17 = .ok (.ireturn, 1) := by decide +kernel
theorem dX7_standsBefore_18 : decode cX7_standsBefore 18 = .ok (.iinc 3 1, 3) := by decide +kernel
theorem dX7_standsBefore_21 : decode cX7_standsBefore 21 = .ok (.goto (-19), 3) := by decide +kernel
theorem dX7_standsBefore_24 : decode cX7_standsBefore 24 = .ok (.iconst 0, 1) := by decide +kernel
theorem dX7_standsBefore_25 : decode cX7_standsBefore 25 = .ok (.ireturn, 1) := by decide +kernel
theorem dX7_total_0 : decode cX7_total 0 = .ok (.iload_n 1, 1) := by decide +kernel
theorem dX7_total_1 : decode cX7_total 1 = .ok (.bipush 32, 2) := by decide +kernel
theorem dX7_total_3 : decode cX7_total 3 = .ok (.imul, 1) := by decide +kernel
theorem dX7_total_4 : decode cX7_total 4 = .ok (.istore_n 2, 1) := by decide +kernel
theorem dX7_total_5 : decode cX7_total 5 = .ok (.iconst 0, 1) := by decide +kernel
theorem dX7_total_6 : decode cX7_total 6 = .ok (.istore_n 3, 1) := by decide +kernel
theorem dX7_total_7 : decode cX7_total 7 = .ok (.iconst 0, 1) := by decide +kernel
theorem dX7_total_8 : decode cX7_total 8 = .ok (.istore 4, 2) := by decide +kernel
theorem dX7_total_10 : decode cX7_total 10 = .ok (.iload 4, 2) := by decide +kernel
theorem dX7_total_12 : decode cX7_total 12 = .ok (.bipush 32, 2) := by decide +kernel
theorem dX7_total_14 : decode cX7_total 14 = .ok (.if_icmp .ge 18, 3) := by decide +kernel
theorem dX7_total_17 : decode cX7_total 17 = .ok (.iload_n 3, 1) := by decide +kernel
theorem dX7_total_18 : decode cX7_total 18 = .ok (.aload_n 0, 1) := by decide +kernel
theorem dX7_total_19 : decode cX7_total 19 = .ok (.iload_n 2, 1) := by decide +kernel
theorem dX7_total_20 : decode cX7_total 20 = .ok (.iload 4, 2) := by decide +kernel
theorem dX7_total_22 : decode cX7_total 22 = .ok (.iadd, 1) := by decide +kernel
theorem dX7_total_23 : decode cX7_total 23 = .ok (.iaload, 1) := by decide +kernel
theorem dX7_total_24 : decode cX7_total 24 = .ok (.iadd, 1) := by decide +kernel
theorem dX7_total_25 : decode cX7_total 25 = .ok (.istore_n 3, 1) := by decide +kernel
theorem dX7_total_26 : decode cX7_total 26 = .ok (.iinc 4 1, 3) := by decide +kernel
theorem dX7_total_29 : decode cX7_total 29 = .ok (.goto (-19), 3) := by decide +kernel
theorem dX7_total_32 : decode cX7_total 32 = .ok (.iload_n 3, 1) := by decide +kernel
theorem dX7_total_33 : decode cX7_total 33 = .ok (.ireturn, 1) := by decide +kernel
theorem dX8_at_0 : decode cX8_at 0 = .ok (.iload_n 1, 1) := by decide +kernel
theorem dX8_at_1 : decode cX8_at 1 = .ok (.iconst 0, 1) := by decide +kernel
theorem dX8_at_2 : decode cX8_at 2 = .ok (.aload_n 0, 1) := by decide +kernel
theorem dX8_at_3 : decode cX8_at 3 = .ok (.getfield 15, 3) := by decide +kernel
theorem dX8_at_6 : decode cX8_at 6 = .ok (.iconst 1, 1) := by decide +kernel
theorem dX8_at_7 : decode cX8_at 7 = .ok (.isub, 1) := by decide +kernel
theorem dX8_at_8 : decode cX8_at 8 = .ok (.invokestatic 19, 3) := by decide +kernel
theorem dX8_at_11 : decode cX8_at 11 = .ok (.ifCond .eq 12, 3) := by decide +kernel
theorem dX8_at_14 : decode cX8_at 14 = .ok (.aload_n 0, 1) := by decide +kernel
theorem dX8_at_15 : decode cX8_at 15 = .ok (.getfield 9, 3) := by decide +kernel
theorem dX8_at_18 : decode cX8_at 18 = .ok (.iload_n 1, 1) := by decide +kernel
theorem dX8_at_19 : decode cX8_at 19 = .ok (.baload, 1) := by decide +kernel
theorem dX8_at_20 : decode cX8_at 20 = .ok (.goto 4, 3) := by decide +kernel
theorem dX8_at_23 : decode cX8_at 23 = .ok (.iconst (-1), 1) := by decide +kernel
theorem dX8_at_24 : decode cX8_at 24 = .ok (.ireturn, 1) := by decide +kernel
theorem dX8_init_0 : decode cX8_init 0 = .ok (.aload_n 0, 1) := by decide +kernel
theorem dX8_init_1 : decode cX8_init 1 = .ok (.invokespecial 3, 3) := by decide +kernel
theorem dX8_init_4 : decode cX8_init 4 = .ok (.aload_n 0, 1) := by decide +kernel
theorem dX8_init_5 : decode cX8_init 5 = .ok (.bipush 80, 2) := by decide +kernel
theorem dX8_init_7 : decode cX8_init 7 = .ok (.newarray .byte, 2) := by decide +kernel
theorem dX8_init_9 : decode cX8_init 9 = .ok (.putfield 9, 3) := by decide +kernel
theorem dX8_init_12 : decode cX8_init 12 = .ok (.return_, 1) := by decide +kernel
theorem dX8_put_0 : decode cX8_put 0 = .ok (.aload_n 0, 1) := by decide +kernel
theorem dX8_put_1 : decode cX8_put 1 = .ok (.getfield 15, 3) := by decide +kernel
theorem dX8_put_4 : decode cX8_put 4 = .ok (.bipush 80, 2) := by decide +kernel
theorem dX8_put_6 : decode cX8_put 6 = .ok (.if_icmp .lt 7, 3) := by decide +kernel
theorem dX8_put_9 : decode cX8_put 9 = .ok (.sipush (-1004), 3) := by decide +kernel
theorem dX8_put_12 : decode cX8_put 12 = .ok (.ireturn, 1) := by decide +kernel
theorem dX8_put_13 : decode cX8_put 13 = .ok (.aload_n 0, 1) := by decide +kernel
theorem dX8_put_14 : decode cX8_put 14 = .ok (.getfield 9, 3) := by decide +kernel
theorem dX8_put_17 : decode cX8_put 17 = .ok (.aload_n 0, 1) := by decide +kernel
theorem dX8_put_18 : decode cX8_put 18 = .ok (.getfield 15, 3) := by decide +kernel
theorem dX8_put_21 : decode cX8_put 21 = .ok (.iload_n 1, 1) := by decide +kernel
theorem dX8_put_22 : decode cX8_put 22 = .ok (.i2b, 1) := by decide +kernel
theorem dX8_put_23 : decode cX8_put 23 = .ok (.bastore, 1) := by decide +kernel
theorem dX8_put_24 : decode cX8_put 24 = .ok (.aload_n 0, 1) := by decide +kernel
theorem dX8_put_25 : decode cX8_put 25 = .ok (.dup, 1) := by decide +kernel
theorem dX8_put_26 : decode cX8_put 26 = .ok (.getfield 15, 3) := by decide +kernel
theorem dX8_put_29 : decode cX8_put 29 = .ok (.iconst 1, 1) := by decide +kernel
theorem dX8_put_30 : decode cX8_put 30 = .ok (.iadd, 1) := by decide +kernel
theorem dX8_put_31 : decode cX8_put 31 = .ok (.putfield 15, 3) := by decide +kernel
theorem dX8_put_34 : decode cX8_put 34 = .ok (.aload_n 0, 1) := by decide +kernel
theorem dX8_put_35 : decode cX8_put 35 = .ok (.getfield 15, 3) := by decide +kernel
theorem dX8_put_38 : decode cX8_put 38 = .ok (.ireturn, 1) := by decide +kernel
theorem dX9_addNode_0 : decode cX9_addNode 0 = .ok (.iload_n 1, 1) := by decide +kernel
theorem dX9_addNode_1 : decode cX9_addNode 1 = .ok (.iconst 0, 1) := by decide +kernel
theorem dX9_addNode_2 : decode cX9_addNode 2 = .ok (.bipush 6, 2) := by decide +kernel
theorem dX9_addNode_4 : decode cX9_addNode 4 = .ok (.invokestatic 52, 3) := by decide +kernel
theorem dX9_addNode_7 : decode cX9_addNode 7 = .ok (.ifCond .ne 7, 3) := by decide +kernel
theorem dX9_addNode_10 : decode cX9_addNode 10 = .ok (.sipush (-1002), 3) := by decide +kernel
theorem dX9_addNode_13 : decode cX9_addNode 13 = .ok (.ireturn, 1) := by decide +kernel
theorem dX9_addNode_14 : decode cX9_addNode 14 = .ok (.aload_n 0, 1) := by decide +kernel
theorem dX9_addNode_15 : decode cX9_addNode 15 = .ok (.getfield 12, 3) := by decide +kernel
theorem dX9_addNode_18 : decode cX9_addNode 18 = .ok (.iload_n 1, 1) := by decide +kernel
theorem dX9_addNode_19 : decode cX9_addNode 19 = .ok (.invokevirtual 56, 3) := by decide +kernel
theorem dX9_addNode_22 : decode cX9_addNode 22 = .ok (.ireturn, 1) := by decide +kernel
theorem dX9_append_0 : decode cX9_append 0 = .ok (.iload_n 1, 1) := by decide +kernel
theorem dX9_append_1 : decode cX9_append 1 = .ok (.iconst 0, 1) := by decide +kernel
theorem dX9_append_2 : decode cX9_append 2 = .ok (.bipush 127, 2) := by decide +kernel
theorem dX9_append_4 : decode cX9_append 4 = .ok (.invokestatic 52, 3) := by decide +kernel
theorem dX9_append_7 : decode cX9_append 7 = .ok (.ifCond .ne 7, 3) := by decide +kernel
theorem dX9_append_10 : decode cX9_append 10 = .ok (.sipush (-1002), 3) := by decide +kernel
theorem dX9_append_13 : decode cX9_append 13 = .ok (.ireturn, 1) := by decide +kernel
theorem dX9_append_14 : decode cX9_append 14 = .ok (.aload_n 0, 1) := by decide +kernel
theorem dX9_append_15 : decode cX9_append 15 = .ok (.getfield 26, 3) := by decide +kernel
theorem dX9_append_18 : decode cX9_append 18 = .ok (.getfield 187, 3) := by decide +kernel
theorem dX9_append_21 : decode cX9_append 21 = .ok (.iload_n 1, 1) := by decide +kernel
theorem dX9_append_22 : decode cX9_append 22 = .ok (.invokevirtual 191, 3) := by decide +kernel
theorem dX9_append_25 : decode cX9_append 25 = .ok (.ireturn, 1) := by decide +kernel
theorem dX9_ask_0 : decode cX9_ask 0 = .ok (.aload_n 0, 1) := by decide +kernel
theorem dX9_ask_1 : decode cX9_ask 1 = .ok (.getfield 12, 3) := by decide +kernel
theorem dX9_ask_4 : decode cX9_ask 4 = .ok (.iload_n 1, 1) := by decide +kernel
theorem dX9_ask_5 : decode cX9_ask 5 = .ok (.invokevirtual 64, 3) := by decide +kernel
theorem dX9_ask_8 : decode cX9_ask 8 = .ok (.ifCond .eq 9, 3) := by decide +kernel
theorem dX9_ask_11 : decode cX9_ask 11 = .ok (.iload_n 3, 1) := by decide +kernel
theorem dX9_ask_12 : decode cX9_ask 12 = .ok (.bipush 12, 2) := by decide +kernel
theorem dX9_ask_14 : decode cX9_ask 14 = .ok (.if_icmp .lt 8, 3) := by decide +kernel
theorem dX9_ask_17 : decode cX9_ask 17 = .ok (.aload_n 0, 1) := by decide +kernel
theorem dX9_ask_18 : decode cX9_ask 18 = .ok (.getfield 38, 3) := by decide +kernel
theorem dX9_ask_21 : decode cX9_ask 21 = .ok (.areturn, 1) := by decide +kernel
theorem dX9_ask_22 : decode cX9_ask 22 = .ok (.aload_n 0, 1) := by decide +kernel
theorem dX9_ask_23 : decode cX9_ask 23 = .ok (.getfield 19, 3) := by decide +kernel
theorem dX9_ask_26 : decode cX9_ask 26 = .ok (.iload_n 1, 1) := by decide +kernel
theorem dX9_ask_27 : decode cX9_ask 27 = .ok (.iload_n 2, 1) := by decide +kernel
theorem dX9_ask_28 : decode cX9_ask 28 = .ok (.invokevirtual 170, 3) := by decide +kernel
theorem dX9_ask_31 : decode cX9_ask 31 = .ok (.astore 4, 2) := by decide +kernel
theorem dX9_ask_33 : decode cX9_ask 33 = .ok (.aload 4, 2) := by decide +kernel
theorem dX9_ask_35 : decode cX9_ask 35 = .ok (.ifnonnull 20, 3) := by decide +kernel
theorem dX9_ask_38 : decode cX9_ask 38 = .ok (.aload_n 0, 1) := by decide +kernel
theorem dX9_ask_39 : decode cX9_ask 39 = .ok (.aload_n 0, 1) := by decide +kernel
theorem dX9_ask_40 : decode cX9_ask 40 = .ok (.getfield 12, 3) := by decide +kernel
theorem dX9_ask_43 : decode cX9_ask 43 = .ok (.getfield 82, 3) := by decide +kernel
theorem dX9_ask_46 : decode cX9_ask 46 = .ok (.iload_n 1, 1) := by decide +kernel
theorem dX9_ask_47 : decode cX9_ask 47 = .ok (.aaload, 1) := by decide +kernel
theorem dX9_ask_48 : decode cX9_ask 48 = .ok (.iload_n 1, 1) := by decide +kernel
theorem dX9_ask_49 : decode cX9_ask 49 = .ok (.iload_n 2, 1) := by decide +kernel
theorem dX9_ask_50 : decode cX9_ask 50 = .ok (.iload_n 3, 1) := by decide +kernel
theorem dX9_ask_51 : decode cX9_ask 51 = .ok (.invokevirtual 260, 3) := by decide +kernel
theorem dX9_ask_54 : decode cX9_ask 54 = .ok (.areturn, 1) := by decide +kernel
theorem dX9_ask_55 : decode cX9_ask 55 = .ok (.aload_n 0, 1) := by decide +kernel
theorem dX9_ask_56 : decode cX9_ask 56 = .ok (.getfield 19, 3) := by decide +kernel
theorem dX9_ask_59 : decode cX9_ask 59 = .ok (.aload 4, 2) := by decide +kernel
theorem dX9_ask_61 : decode cX9_ask 61 = .ok (.invokevirtual 264, 3) := by decide +kernel
theorem dX9_ask_64 : decode cX9_ask 64 = .ok (.aload 4, 2) := by decide +kernel
theorem dX9_ask_66 : decode cX9_ask 66 = .ok (.getfield 268, 3) := by decide +kernel
theorem dX9_ask_69 : decode cX9_ask 69 = .ok (.areturn, 1) := by decide +kernel
theorem dX9_build_0 : decode cX9_build 0 = .ok (.aload_n 0, 1) := by decide +kernel
theorem dX9_build_1 : decode cX9_build 1 = .ok (.getfield 26, 3) := by decide +kernel
theorem dX9_build_4 : decode cX9_build 4 = .ok (.aload_n 0, 1) := by decide +kernel
theorem dX9_build_5 : decode cX9_build 5 = .ok (.getfield 12, 3) := by decide +kernel
theorem dX9_build_8 : decode cX9_build 8 = .ok (.getfield 42, 3) := by decide +kernel
theorem dX9_build_11 : decode cX9_build 11 = .ok (.invokevirtual 200, 3) := by decide +kernel
theorem dX9_build_14 : decode cX9_build 14 = .ok (.istore_n 1, 1) := by decide +kernel
theorem dX9_build_15 : decode cX9_build 15 = .ok (.aload_n 0, 1) := by decide +kernel
theorem dX9_build_16 : decode cX9_build 16 = .ok (.getfield 26, 3) := by decide +kernel
theorem dX9_build_19 : decode cX9_build 19 = .ok (.getfield 203, 3) := by decide +kernel
theorem dX9_build_22 : decode cX9_build 22 = .ok (.ifCond .eq 7, 3) := by decide +kernel
theorem dX9_build_25 : decode cX9_build 25 = .ok (.sipush (-1003), 3) := by decide +kernel
theorem dX9_build_28 : decode cX9_build 28 = .ok (.ireturn, 1) := by decide +kernel
theorem dX9_build_29 : decode cX9_build 29 = .ok (.aload_n 0, 1) := by decide +kernel
theorem dX9_build_30 : decode cX9_build 30 = .ok (.getfield 12, 3) := by decide +kernel
theorem dX9_build_33 : decode cX9_build 33 = .ok (.getfield 42, 3) := by decide +kernel
theorem dX9_build_36 : decode cX9_build 36 = .ok (.aload_n 0, 1) := by decide +kernel
theorem dX9_build_37 : decode cX9_build 37 = .ok (.getfield 26, 3) := by decide +kernel
theorem dX9_build_40 : decode cX9_build 40 = .ok (.getfield 213, 3) := by decide +kernel
theorem dX9_build_43 : decode cX9_build 43 = .ok (.iadd, 1) := by decide +kernel
theorem dX9_build_44 : decode cX9_build 44 = .ok (.bipush 12, 2) := by decide +kernel
theorem dX9_build_46 : decode cX9_build 46 = .ok (.if_icmp .le 7, 3) := by decide +kernel
theorem dX9_build_49 : decode cX9_build 49 = .ok (.sipush (-1004), 3) := by decide +kernel
theorem dX9_build_52 : decode cX9_build 52 = .ok (.ireturn, 1) := by decide +kernel
theorem dX9_build_53 : decode cX9_build 53 = .ok (.aload_n 0, 1) := by decide +kernel
theorem dX9_build_54 : decode cX9_build 54 = .ok (.getfield 12, 3) := by decide +kernel
theorem dX9_build_57 : decode cX9_build 57 = .ok (.aload_n 0, 1) := by decide +kernel
theorem dX9_build_58 : decode cX9_build 58 = .ok (.getfield 26, 3) := by decide +kernel
theorem dX9_build_61 : decode cX9_build 61 = .ok (.getfield 216, 3) := by decide +kernel
theorem dX9_build_64 : decode cX9_build 64 = .ok (.aload_n 0, 1) := by decide +kernel
theorem dX9_build_65 : decode cX9_build 65 = .ok (.getfield 26, 3) := by decide +kernel
theorem dX9_build_68 : decode cX9_build 68 = .ok (.getfield 213, 3) := by decide +kernel
theorem dX9_build_71 : decode cX9_build 71 = .ok (.invokevirtual 219, 3) := by decide +kernel
theorem dX9_build_74 : decode cX9_build 74 = .ok (.iload_n 1, 1) := by decide +kernel
theorem dX9_build_75 : decode cX9_build 75 = .ok (.ireturn, 1) := by decide +kernel
theorem dX9_checksum_0 : decode cX9_checksum 0 = .ok (.ldc2_w 227, 3) := by decide +kernel
theorem dX9_checksum_3 : decode cX9_checksum 3 = .ok (.aload_n 0, 1) := by decide +kernel
theorem dX9_checksum_4 : decode cX9_checksum 4 = .ok (.invokevirtual 229, 3) := by decide +kernel
theorem dX9_checksum_7 : decode cX9_checksum 7 = .ok (.invokestatic 232, 3) := by decide +kernel
theorem dX9_checksum_10 : decode cX9_checksum 10 = .ok (.lstore_n 1, 1) := by decide +kernel
theorem dX9_checksum_11 : decode cX9_checksum 11 = .ok (.iconst 0, 1) := by decide +kernel
theorem dX9_checksum_12 : decode cX9_checksum 12 = .ok (.istore_n 3, 1) := by decide +kernel
theorem dX9_checksum_13 : decode cX9_checksum 13 = .ok (.iload_n 3, 1) := by decide +kernel
theorem dX9_checksum_14 : decode cX9_checksum 14 = .ok (.aload_n 0, 1) := by decide +kernel
theorem dX9_checksum_15 : decode cX9_checksum 15 = .ok (.getfield 12, 3) := by decide +kernel
theorem dX9_checksum_18 : decode cX9_checksum 18 = .ok (.getfield 42, 3) := by decide +kernel
theorem dX9_checksum_21 : decode cX9_checksum 21 = .ok (.if_icmp .ge 16, 3) := by decide +kernel
theorem dX9_checksum_24 : decode cX9_checksum 24 = .ok (.aload_n 0, 1) := by decide +kernel
theorem dX9_checksum_25 : decode cX9_checksum 25 = .ok (.lload_n 1, 1) := by decide +kernel
theorem dX9_checksum_26 : decode cX9_checksum 26 = .ok (.iload_n 3, 1) := by decide +kernel
theorem dX9_checksum_27 : decode cX9_checksum 27 = .ok (.invokevirtual 236, 3) := by decide +kernel
theorem dX9_checksum_30 : decode cX9_checksum 30 = .ok (.lstore_n 1, 1) := by decide +kernel
theorem dX9_checksum_31 : decode cX9_checksum 31 = .ok (.iinc 3 1, 3) := by decide +kernel
theorem dX9_checksum_34 : decode cX9_checksum 34 = .ok (.goto (-21), 3) := by decide +kernel
theorem dX9_checksum_37 : decode cX9_checksum 37 = .ok (.iconst 0, 1) := by decide +kernel
theorem dX9_checksum_38 : decode cX9_checksum 38 = .ok (.istore_n 3, 1) := by decide +kernel
theorem dX9_checksum_39 : decode cX9_checksum 39 = .ok (.iload_n 3, 1) := by decide +kernel
theorem dX9_checksum_40 : decode cX9_checksum 40 = .ok (.iconst 5, 1) := by decide +kernel
theorem dX9_checksum_41 : decode cX9_checksum 41 = .ok (.if_icmp .ge 19, 3) := by decide +kernel
theorem dX9_checksum_44 : decode cX9_checksum 44 = .ok (.lload_n 1, 1) := by decide +kernel
theorem dX9_checksum_45 : decode cX9_checksum 45 = .ok (.aload_n 0, 1) := by decide +kernel
theorem dX9_checksum_46 : decode cX9_checksum 46 = .ok (.iload_n 3, 1) := by decide +kernel
theorem dX9_checksum_47 : decode cX9_checksum 47 = .ok (.invokevirtual 239, 3) := by decide +kernel
theorem dX9_checksum_50 : decode cX9_checksum 50 = .ok (.invokestatic 232, 3) := by decide +kernel
theorem dX9_checksum_53 : decode cX9_checksum 53 = .ok (.lstore_n 1, 1) := by decide +kernel
theorem dX9_checksum_54 : decode cX9_checksum 54 = .ok (.iinc 3 1, 3) := by decide +kernel
theorem dX9_checksum_57 : decode cX9_checksum 57 = .ok (.goto (-18), 3) := by decide +kernel
theorem dX9_checksum_60 : decode cX9_checksum 60 = .ok (.iconst 0, 1) := by decide +kernel
theorem dX9_checksum_61 : decode cX9_checksum 61 = .ok (.istore_n 3, 1) := by decide +kernel
theorem dX9_checksum_62 : decode cX9_checksum 62 = .ok (.iload_n 3, 1) := by decide +kernel
theorem dX9_checksum_63 : decode cX9_checksum 63 = .ok (.aload_n 0, 1) := by decide +kernel
theorem dX9_checksum_64 : decode cX9_checksum 64 = .ok (.getfield 12, 3) := by decide +kernel
theorem dX9_checksum_67 : decode cX9_checksum 67 = .ok (.getfield 42, 3) := by decide +kernel
theorem dX9_checksum_70 : decode cX9_checksum 70 = .ok (.if_icmp .ge 37, 3) := by decide +kernel
theorem dX9_checksum_73 : decode cX9_checksum 73 = .ok (.iconst 0, 1) := by decide +kernel
theorem dX9_checksum_74 : decode cX9_checksum 74 = .ok (.istore 4, 2) := by decide +kernel
theorem dX9_checksum_76 : decode cX9_checksum 76 = .ok (.iload 4, 2) := by decide +kernel
theorem dX9_checksum_78 : decode cX9_checksum 78 = .ok (.bipush 10, 2) := by decide +kernel
theorem dX9_checksum_80 : decode cX9_checksum 80 = .ok (.if_icmp .ge 21, 3) := by decide +kernel
theorem dX9_checksum_83 : decode cX9_checksum 83 = .ok (.lload_n 1, 1) := by decide +kernel
theorem dX9_checksum_84 : decode cX9_checksum 84 = .ok (.aload_n 0, 1) := by decide +kernel
theorem dX9_checksum_85 : decode cX9_checksum 85 = .ok (.iload_n 3, 1) := by decide +kernel
theorem dX9_checksum_86 : decode cX9_checksum 86 = .ok (.iload 4, 2) := by decide +kernel
theorem dX9_checksum_88 : decode cX9_checksum 88 = .ok (.invokevirtual 242, 3) := by decide +kernel
theorem dX9_checksum_91 : decode cX9_checksum 91 = .ok (.invokestatic 232, 3) := by decide +kernel
theorem dX9_checksum_94 : decode cX9_checksum 94 = .ok (.lstore_n 1, 1) := by decide +kernel
theorem dX9_checksum_95 : decode cX9_checksum 95 = .ok (.iinc 4 1, 3) := by decide +kernel
theorem dX9_checksum_98 : decode cX9_checksum 98 = .ok (.goto (-22), 3) := by decide +kernel
theorem dX9_checksum_101 : decode cX9_checksum 101 = .ok (.iinc 3 1, 3) := by decide +kernel
theorem dX9_checksum_104 : decode cX9_checksum 104 = .ok (.goto (-42), 3) := by decide +kernel
theorem dX9_checksum_107 : decode cX9_checksum 107 = .ok (.lload_n 1, 1) := by decide +kernel
theorem dX9_checksum_108 : decode cX9_checksum 108 = .ok (.lreturn, 1) := by decide +kernel
theorem dX9_clear_0 : decode cX9_clear 0 = .ok (.aload_n 0, 1) := by decide +kernel
theorem dX9_clear_1 : decode cX9_clear 1 = .ok (.getfield 12, 3) := by decide +kernel
theorem dX9_clear_4 : decode cX9_clear 4 = .ok (.getfield 42, 3) := by decide +kernel
theorem dX9_clear_7 : decode cX9_clear 7 = .ok (.istore_n 1, 1) := by decide +kernel
theorem dX9_clear_8 : decode cX9_clear 8 = .ok (.aload_n 0, 1) := by decide +kernel
theorem dX9_clear_9 : decode cX9_clear 9 = .ok (.getfield 12, 3) := by decide +kernel
theorem dX9_clear_12 : decode cX9_clear 12 = .ok (.invokevirtual 46, 3) := by decide +kernel
theorem dX9_clear_15 : decode cX9_clear 15 = .ok (.aload_n 0, 1) := by decide +kernel
theorem dX9_clear_16 : decode cX9_clear 16 = .ok (.getfield 19, 3) := by decide +kernel
theorem dX9_clear_19 : decode cX9_clear 19 = .ok (.invokevirtual 49, 3) := by decide +kernel
theorem dX9_clear_22 : decode cX9_clear 22 = .ok (.iload_n 1, 1) := by decide +kernel
theorem dX9_clear_23 : decode cX9_clear 23 = .ok (.ireturn, 1) := by decide +kernel
theorem dX9_compare_0 : decode cX9_compare 0 = .ok (.aload_n 0, 1) := by decide +kernel
theorem dX9_compare_1 : decode cX9_compare 1 = .ok (.getfield 12, 3) := by decide +kernel
theorem dX9_compare_4 : decode cX9_compare 4 = .ok (.iload_n 1, 1) := by decide +kernel
theorem dX9_compare_5 : decode cX9_compare 5 = .ok (.invokevirtual 64, 3) := by decide +kernel
theorem dX9_compare_8 : decode cX9_compare 8 = .ok (.ifCond .eq 21, 3) := by decide +kernel
theorem dX9_compare_11 : decode cX9_compare 11 = .ok (.aload_n 0, 1) := by decide +kernel
theorem dX9_compare_12 : decode cX9_compare 12 = .ok (.getfield 12, 3) := by decide +kernel
theorem dX9_compare_15 : decode cX9_compare 15 = .ok (.iload_n 2, 1) := by decide +kernel
theorem dX9_compare_16 : decode cX9_compare 16 = .ok (.invokevirtual 64, 3) := by decide +kernel
theorem dX9_compare_19 : decode cX9_compare 19 = .ok (.ifCond .eq 10, 3) := by decide +kernel
theorem dX9_compare_22 : decode cX9_compare 22 = .ok (.iload_n 3, 1) := by decide +kernel
theorem dX9_compare_23 : decode cX9_compare 23 = .ok (.invokestatic 112, 3) := by decide +kernel
theorem dX9_compare_26 : decode cX9_compare 26 = .ok (.ifCond .ne 7, 3) := by decide +kernel
theorem dX9_compare_29 : decode cX9_compare 29 = .ok (.sipush (-1001), 3) := by decide +kernel
theorem dX9_compare_32 : decode cX9_compare 32 = .ok (.ireturn, 1) := by decide +kernel
theorem dX9_compare_33 : decode cX9_compare 33 = .ok (.aload_n 0, 1) := by decide +kernel
theorem dX9_compare_34 : decode cX9_compare 34 = .ok (.iload_n 1, 1) := by decide +kernel
theorem dX9_compare_35 : decode cX9_compare 35 = .ok (.iload_n 3, 1) := by decide +kernel
theorem dX9_compare_36 : decode cX9_compare 36 = .ok (.iconst 0, 1) := by decide +kernel
theorem dX9_compare_37 : decode cX9_compare 37 = .ok (.invokevirtual 136, 3) := by decide +kernel
theorem dX9_compare_40 : decode cX9_compare 40 = .ok (.astore 4, 2) := by decide +kernel
theorem dX9_compare_42 : decode cX9_compare 42 = .ok (.aload_n 0, 1) := by decide +kernel
theorem dX9_compare_43 : decode cX9_compare 43 = .ok (.iload_n 2, 1) := by decide +kernel
theorem dX9_compare_44 : decode cX9_compare 44 = .ok (.iload_n 3, 1) := by decide +kernel
theorem dX9_compare_45 : decode cX9_compare 45 = .ok (.iconst 0, 1) := by decide +kernel
theorem dX9_compare_46 : decode cX9_compare 46 = .ok (.invokevirtual 136, 3) := by decide +kernel
theorem dX9_compare_49 : decode cX9_compare 49 = .ok (.astore 5, 2) := by decide +kernel
theorem dX9_compare_51 : decode cX9_compare 51 = .ok (.aload 4, 2) := by decide +kernel
theorem dX9_compare_53 : decode cX9_compare 53 = .ok (.aload 5, 2) := by decide +kernel
theorem dX9_compare_55 : decode cX9_compare 55 = .ok (.invokestatic 159, 3) := by decide +kernel
theorem dX9_compare_58 : decode cX9_compare 58 = .ok (.ireturn, 1) := by decide +kernel
theorem dX9_connect_0 : decode cX9_connect 0 = .ok (.aload_n 0, 1) := by decide +kernel
theorem dX9_connect_1 : decode cX9_connect 1 = .ok (.getfield 12, 3) := by decide +kernel
theorem dX9_connect_4 : decode cX9_connect 4 = .ok (.iload_n 1, 1) := by decide +kernel
theorem dX9_connect_5 : decode cX9_connect 5 = .ok (.iload_n 2, 1) := by decide +kernel
theorem dX9_connect_6 : decode cX9_connect 6 = .ok (.invokevirtual 60, 3) := by decide +kernel
theorem dX9_connect_9 : decode cX9_connect 9 = .ok (.ifCond .eq 21, 3) := by decide +kernel
theorem dX9_connect_12 : decode cX9_connect 12 = .ok (.iload_n 3, 1) := by decide +kernel
theorem dX9_connect_13 : decode cX9_connect 13 = .ok (.sipush (-1005), 3) := by decide +kernel
theorem dX9_connect_16 : decode cX9_connect 16 = .ok (.if_icmp .eq 18, 3) := by decide +kernel
theorem dX9_connect_19 : decode cX9_connect 19 = .ok (.aload_n 0, 1) := by decide +kernel
theorem dX9_connect_20 : decode cX9_connect 20 = .ok (.getfield 12, 3) := by decide +kernel
theorem dX9_connect_23 : decode cX9_connect 23 = .ok (.iload_n 3, 1) := by decide +kernel
theorem dX9_connect_24 : decode cX9_connect 24 = .ok (.invokevirtual 64, 3) := by decide +kernel
theorem dX9_connect_27 : decode cX9_connect 27 = .ok (.ifCond .ne 7, 3) := by decide +kernel
theorem dX9_connect_30 : decode cX9_connect 30 = .ok (.sipush (-1001), 3) := by decide +kernel
theorem dX9_connect_33 : decode cX9_connect 33 = .ok (.ireturn, 1) := by decide +kernel
theorem dX9_connect_34 : decode cX9_connect 34 = .ok (.aload_n 0, 1) := by decide +kernel
theorem dX9_connect_35 : decode cX9_connect 35 = .ok (.getfield 12, 3) := by decide +kernel
theorem dX9_connect_38 : decode cX9_connect 38 = .ok (.iload_n 1, 1) := by decide +kernel
theorem dX9_connect_39 : decode cX9_connect 39 = .ok (.invokevirtual 68, 3) := by decide +kernel
theorem dX9_connect_42 : decode cX9_connect 42 = .ok (.istore 4, 2) := by decide +kernel
theorem dX9_connect_44 : decode cX9_connect 44 = .ok (.iload_n 3, 1) := by decide +kernel
theorem dX9_connect_45 : decode cX9_connect 45 = .ok (.sipush (-1005), 3) := by decide +kernel
theorem dX9_connect_48 : decode cX9_connect 48 = .ok (.if_icmp .eq 16, 3) := by decide +kernel
theorem dX9_connect_51 : decode cX9_connect 51 = .ok (.iload 4, 2) := by decide +kernel
theorem dX9_connect_53 : decode cX9_connect 53 = .ok (.iload_n 3, 1) := by decide +kernel
theorem dX9_connect_54 : decode cX9_connect 54 = .ok (.invokestatic 71, 3) := by decide +kernel
theorem dX9_connect_57 : decode cX9_connect 57 = .ok (.ifCond .eq 7, 3) := by decide +kernel
theorem dX9_connect_60 : decode cX9_connect 60 = .ok (.sipush (-1003), 3) := by decide +kernel
theorem dX9_connect_63 : decode cX9_connect 63 = .ok (.ireturn, 1) := by decide +kernel
theorem dX9_connect_64 : decode cX9_connect 64 = .ok (.aload_n 0, 1) := by decide +kernel
theorem dX9_connect_65 : decode cX9_connect 65 = .ok (.getfield 12, 3) := by decide +kernel
theorem dX9_connect_68 : decode cX9_connect 68 = .ok (.iload_n 1, 1) := by decide +kernel
theorem dX9_connect_69 : decode cX9_connect 69 = .ok (.iload_n 2, 1) := by decide +kernel
theorem dX9_connect_70 : decode cX9_connect 70 = .ok (.iload_n 3, 1) := by decide +kernel
theorem dX9_connect_71 : decode cX9_connect 71 = .ok (.invokevirtual 74, 3) := by decide +kernel
theorem dX9_connect_74 : decode cX9_connect 74 = .ok (.iload_n 2, 1) := by decide +kernel
theorem dX9_connect_75 : decode cX9_connect 75 = .ok (.ifCond .ne 16, 3) := by decide +kernel
theorem dX9_connect_78 : decode cX9_connect 78 = .ok (.aload_n 0, 1) := by decide +kernel
theorem dX9_connect_79 : decode cX9_connect 79 = .ok (.getfield 19, 3) := by decide +kernel
theorem dX9_connect_82 : decode cX9_connect 82 = .ok (.iload 4, 2) := by decide +kernel
theorem dX9_connect_84 : decode cX9_connect 84 = .ok (.iconst 0, 1) := by decide +kernel
theorem dX9_connect_85 : decode cX9_connect 85 = .ok (.bipush 99, 2) := by decide +kernel
theorem dX9_connect_87 : decode cX9_connect 87 = .ok (.invokevirtual 78, 3) := by decide +kernel
theorem dX9_connect_90 : decode cX9_connect 90 = .ok (.ireturn, 1) := by decide +kernel
theorem dX9_connect_91 : decode cX9_connect 91 = .ok (.aload_n 0, 1) := by decide +kernel
theorem dX9_connect_92 : decode cX9_connect 92 = .ok (.getfield 12, 3) := by decide +kernel
theorem dX9_connect_95 : decode cX9_connect 95 = .ok (.getfield 82, 3) := by decide +kernel
theorem dX9_connect_98 : decode cX9_connect 98 = .ok (.iload_n 1, 1) := by decide +kernel
theorem dX9_connect_99 : decode cX9_connect 99 = .ok (.aaload, 1) := by decide +kernel
theorem dX9_connect_100 : decode cX9_connect 100 = .ok (.astore 5, 2) := by decide +kernel
theorem dX9_connect_102 : decode cX9_connect 102 = .ok (.aload_n 0, 1) := by decide +kernel
theorem dX9_connect_103 : decode cX9_connect 103 = .ok (.getfield 19, 3) := by decide +kernel
theorem dX9_connect_106 : decode cX9_connect 106 = .ok (.iload 4, 2) := by decide +kernel
theorem dX9_connect_108 : decode cX9_connect 108 = .ok (.aload 5, 2) := by decide +kernel
theorem dX9_connect_110 : decode cX9_connect 110 = .ok (.getfield 86, 3) := by decide +kernel
theorem dX9_connect_113 : decode cX9_connect 113 = .ok (.aload 5, 2) := by decide +kernel
theorem dX9_connect_115 : decode cX9_connect 115 = .ok (.getfield 91, 3) := by decide +kernel
theorem dX9_connect_118 : decode cX9_connect 118 = .ok (.invokevirtual 78, 3) := by decide +kernel
theorem dX9_connect_121 : decode cX9_connect 121 = .ok (.ireturn, 1) := by decide +kernel
theorem dX9_contains_0 : decode cX9_contains 0 = .ok (.iload_n 1, 1) := by decide +kernel
theorem dX9_contains_1 : decode cX9_contains 1 = .ok (.iconst 0, 1) := by decide +kernel
theorem dX9_contains_2 : decode cX9_contains 2 = .ok (.bipush 11, 2) := by decide +kernel
theorem dX9_contains_4 : decode cX9_contains 4 = .ok (.invokestatic 52, 3) := by decide +kernel
theorem dX9_contains_7 : decode cX9_contains 7 = .ok (.ifCond .eq 16, 3) := by decide +kernel
theorem dX9_contains_10 : decode cX9_contains 10 = .ok (.iload_n 0, 1) := by decide +kernel
theorem dX9_contains_11 : decode cX9_contains 11 = .ok (.iload_n 1, 1) := by decide +kernel
theorem dX9_contains_12 : decode cX9_contains 12 = .ok (.ishr, 1) := by decide +kernel
theorem dX9_contains_13 : decode cX9_contains 13 = .ok (.iconst 1, 1) := by decide +kernel
theorem dX9_contains_14 : decode cX9_contains 14 = .ok (.iand, 1) := by decide +kernel
theorem dX9_contains_15 : decode cX9_contains 15 = .ok (.iconst 1, 1) := by decide +kernel
theorem dX9_contains_16 : decode cX9_contains 16 = .ok (.if_icmp .ne 7, 3) := by decide +kernel
theorem dX9_contains_19 : decode cX9_contains 19 = .ok (.iconst 1, 1) := by decide +kernel
theorem dX9_contains_20 : decode cX9_contains 20 = .ok (.goto 4, 3) := by decide +kernel
theorem dX9_contains_23 : decode cX9_contains 23 = .ok (.iconst 0, 1) := by decide +kernel
theorem dX9_contains_24 : decode cX9_contains 24 = .ok (.ireturn, 1) := by decide +kernel
theorem dX9_count_0 : decode cX9_count 0 = .ok (.iload_n 1, 1) := by decide +kernel
theorem dX9_count_1 : decode cX9_count 1 = .ok (.tableswitch 75 0 4 #[35, 43, 51, 59, 67], 35) := by decide +kernel
theorem dX9_count_36 : decode cX9_count 36 = .ok (.aload_n 0, 1) := by decide +kernel
theorem dX9_count_37 : decode cX9_count 37 = .ok (.getfield 19, 3) := by decide +kernel
theorem dX9_count_40 : decode cX9_count 40 = .ok (.getfield 174, 3) := by decide +kernel
theorem dX9_count_43 : decode cX9_count 43 = .ok (.ireturn, 1) := by decide +kernel
theorem dX9_count_44 : decode cX9_count 44 = .ok (.aload_n 0, 1) := by decide +kernel
theorem dX9_count_45 : decode cX9_count 45 = .ok (.getfield 19, 3) := by decide +kernel
theorem dX9_count_48 : decode cX9_count 48 = .ok (.getfield 175, 3) := by decide +kernel
theorem dX9_count_51 : decode cX9_count 51 = .ok (.ireturn, 1) := by decide +kernel
theorem dX9_count_52 : decode cX9_count 52 = .ok (.aload_n 0, 1) := by decide +kernel
theorem dX9_count_53 : decode cX9_count 53 = .ok (.getfield 19, 3) := by decide +kernel
theorem dX9_count_56 : decode cX9_count 56 = .ok (.getfield 178, 3) := by decide +kernel
theorem dX9_count_59 : decode cX9_count 59 = .ok (.ireturn, 1) := by decide +kernel
theorem dX9_count_60 : decode cX9_count 60 = .ok (.aload_n 0, 1) := by decide +kernel
theorem dX9_count_61 : decode cX9_count 61 = .ok (.getfield 19, 3) := by decide +kernel
theorem dX9_count_64 : decode cX9_count 64 = .ok (.getfield 181, 3) := by decide +kernel
theorem dX9_count_67 : decode cX9_count 67 = .ok (.ireturn, 1) := by decide +kernel
theorem dX9_count_68 : decode cX9_count 68 = .ok (.aload_n 0, 1) := by decide +kernel
theorem dX9_count_69 : decode cX9_count 69 = .ok (.getfield 19, 3) := by decide +kernel
theorem dX9_count_72 : decode cX9_count 72 = .ok (.getfield 184, 3) := by decide +kernel
theorem dX9_count_75 : decode cX9_count 75 = .ok (.ireturn, 1) := by decide +kernel
theorem dX9_count_76 : decode cX9_count 76 = .ok (.sipush (-1001), 3) := by decide +kernel
theorem dX9_count_79 : decode cX9_count 79 = .ok (.ireturn, 1) := by decide +kernel
theorem dX9_init_0 : decode cX9_init 0 = .ok (.aload_n 0, 1) := by decide +kernel
theorem dX9_init_1 : decode cX9_init 1 = .ok (.invokespecial 3, 3) := by decide +kernel
theorem dX9_init_4 : decode cX9_init 4 = .ok (.aload_n 0, 1) := by decide +kernel
theorem dX9_init_5 : decode cX9_init 5 = .ok (.new 9, 3) := by decide +kernel
theorem dX9_init_8 : decode cX9_init 8 = .ok (.dup, 1) := by decide +kernel
theorem dX9_init_9 : decode cX9_init 9 = .ok (.invokespecial 11, 3) := by decide +kernel
theorem dX9_init_12 : decode cX9_init 12 = .ok (.putfield 12, 3) := by decide +kernel
theorem dX9_init_15 : decode cX9_init 15 = .ok (.aload_n 0, 1) := by decide +kernel
theorem dX9_init_16 : decode cX9_init 16 = .ok (.new 16, 3) := by decide +kernel
theorem dX9_init_19 : decode cX9_init 19 = .ok (.dup, 1) := by decide +kernel
theorem dX9_init_20 : decode cX9_init 20 = .ok (.invokespecial 18, 3) := by decide +kernel
theorem dX9_init_23 : decode cX9_init 23 = .ok (.putfield 19, 3) := by decide +kernel
theorem dX9_init_26 : decode cX9_init 26 = .ok (.aload_n 0, 1) := by decide +kernel
theorem dX9_init_27 : decode cX9_init 27 = .ok (.new 23, 3) := by decide +kernel
theorem dX9_init_30 : decode cX9_init 30 = .ok (.dup, 1) := by decide +kernel
theorem dX9_init_31 : decode cX9_init 31 = .ok (.invokespecial 25, 3) := by decide +kernel
theorem dX9_init_34 : decode cX9_init 34 = .ok (.putfield 26, 3) := by decide +kernel
theorem dX9_init_37 : decode cX9_init 37 = .ok (.aload_n 0, 1) := by decide +kernel
theorem dX9_init_38 : decode cX9_init 38 = .ok (.iconst 2, 1) := by decide +kernel
theorem dX9_init_39 : decode cX9_init 39 = .ok (.anewarray 9, 3) := by decide +kernel
theorem dX9_init_42 : decode cX9_init 42 = .ok (.putfield 30, 3) := by decide +kernel
theorem dX9_init_45 : decode cX9_init 45 = .ok (.aload_n 0, 1) := by decide +kernel
theorem dX9_init_46 : decode cX9_init 46 = .ok (.iconst 2, 1) := by decide +kernel
theorem dX9_init_47 : decode cX9_init 47 = .ok (.newarray .boolean, 2) := by decide +kernel
theorem dX9_init_49 : decode cX9_init 49 = .ok (.putfield 34, 3) := by decide +kernel
theorem dX9_init_52 : decode cX9_init 52 = .ok (.aload_n 0, 1) := by decide +kernel
theorem dX9_init_53 : decode cX9_init 53 = .ok (.bipush 96, 2) := by decide +kernel
theorem dX9_init_55 : decode cX9_init 55 = .ok (.newarray .int, 2) := by decide +kernel
theorem dX9_init_57 : decode cX9_init 57 = .ok (.putfield 38, 3) := by decide +kernel
theorem dX9_init_60 : decode cX9_init 60 = .ok (.iconst 0, 1) := by decide +kernel
theorem dX9_init_61 : decode cX9_init 61 = .ok (.istore_n 1, 1) := by decide +kernel
theorem dX9_init_62 : decode cX9_init 62 = .ok (.iload_n 1, 1) := by decide +kernel
theorem dX9_init_63 : decode cX9_init 63 = .ok (.iconst 2, 1) := by decide +kernel
theorem dX9_init_64 : decode cX9_init 64 = .ok (.if_icmp .ge 22, 3) := by decide +kernel
theorem dX9_init_67 : decode cX9_init 67 = .ok (.aload_n 0, 1) := by decide +kernel
theorem dX9_init_68 : decode cX9_init 68 = .ok (.getfield 30, 3) := by decide +kernel
theorem dX9_init_71 : decode cX9_init 71 = .ok (.iload_n 1, 1) := by decide +kernel
theorem dX9_init_72 : decode cX9_init 72 = .ok (.new 9, 3) := by decide +kernel
theorem dX9_init_75 : decode cX9_init 75 = .ok (.dup, 1) := by decide +kernel
theorem dX9_init_76 : decode cX9_init 76 = .ok (.invokespecial 11, 3) := by decide +kernel
theorem dX9_init_79 : decode cX9_init 79 = .ok (.aastore, 1) := by decide +kernel
theorem dX9_init_80 : decode cX9_init 80 = .ok (.iinc 1 1, 3) := by decide +kernel
theorem dX9_init_83 : decode cX9_init 83 = .ok (.goto (-21), 3) := by decide +kernel
theorem dX9_init_86 : decode cX9_init 86 = .ok (.return_, 1) := by decide +kernel
theorem dX9_input_0 : decode cX9_input 0 = .ok (.aload_n 0, 1) := by decide +kernel
theorem dX9_input_1 : decode cX9_input 1 = .ok (.getfield 12, 3) := by decide +kernel
theorem dX9_input_4 : decode cX9_input 4 = .ok (.iload_n 1, 1) := by decide +kernel
theorem dX9_input_5 : decode cX9_input 5 = .ok (.iload_n 2, 1) := by decide +kernel
theorem dX9_input_6 : decode cX9_input 6 = .ok (.invokevirtual 60, 3) := by decide +kernel
theorem dX9_input_9 : decode cX9_input 9 = .ok (.ifCond .ne 7, 3) := by decide +kernel
theorem dX9_input_12 : decode cX9_input 12 = .ok (.sipush (-1001), 3) := by decide +kernel
theorem dX9_input_15 : decode cX9_input 15 = .ok (.ireturn, 1) := by decide +kernel
theorem dX9_input_16 : decode cX9_input 16 = .ok (.aload_n 0, 1) := by decide +kernel
theorem dX9_input_17 : decode cX9_input 17 = .ok (.getfield 12, 3) := by decide +kernel
theorem dX9_input_20 : decode cX9_input 20 = .ok (.getfield 82, 3) := by decide +kernel
theorem dX9_input_23 : decode cX9_input 23 = .ok (.iload_n 1, 1) := by decide +kernel
theorem dX9_input_24 : decode cX9_input 24 = .ok (.aaload, 1) := by decide +kernel
theorem dX9_input_25 : decode cX9_input 25 = .ok (.getfield 130, 3) := by decide +kernel
theorem dX9_input_28 : decode cX9_input 28 = .ok (.iload_n 2, 1) := by decide +kernel
theorem dX9_input_29 : decode cX9_input 29 = .ok (.iaload, 1) := by decide +kernel
theorem dX9_input_30 : decode cX9_input 30 = .ok (.ireturn, 1) := by decide +kernel
theorem dX9_isCached_0 : decode cX9_isCached 0 = .ok (.aload_n 0, 1) := by decide +kernel
theorem dX9_isCached_1 : decode cX9_isCached 1 = .ok (.getfield 12, 3) := by decide +kernel
theorem dX9_isCached_4 : decode cX9_isCached 4 = .ok (.iload_n 1, 1) := by decide +kernel
theorem dX9_isCached_5 : decode cX9_isCached 5 = .ok (.invokevirtual 64, 3) := by decide +kernel
theorem dX9_isCached_8 : decode cX9_isCached 8 = .ok (.ifCond .eq 10, 3) := by decide +kernel
theorem dX9_isCached_11 : decode cX9_isCached 11 = .ok (.iload_n 2, 1) := by decide +kernel
theorem dX9_isCached_12 : decode cX9_isCached 12 = .ok (.invokestatic 112, 3) := by decide +kernel
theorem dX9_isCached_15 : decode cX9_isCached 15 = .ok (.ifCond .ne 7, 3) := by decide +kernel
theorem dX9_isCached_18 : decode cX9_isCached 18 = .ok (.sipush (-1001), 3) := by decide +kernel
theorem dX9_isCached_21 : decode cX9_isCached 21 = .ok (.ireturn, 1) := by decide +kernel
theorem dX9_isCached_22 : decode cX9_isCached 22 = .ok (.aload_n 0, 1) := by decide +kernel
theorem dX9_isCached_23 : decode cX9_isCached 23 = .ok (.getfield 19, 3) := by decide +kernel
theorem dX9_isCached_26 : decode cX9_isCached 26 = .ok (.iload_n 1, 1) := by decide +kernel
theorem dX9_isCached_27 : decode cX9_isCached 27 = .ok (.iload_n 2, 1) := by decide +kernel
theorem dX9_isCached_28 : decode cX9_isCached 28 = .ok (.invokevirtual 170, 3) := by decide +kernel
theorem dX9_isCached_31 : decode cX9_isCached 31 = .ok (.ifnonnull 7, 3) := by decide +kernel
theorem dX9_isCached_34 : decode cX9_isCached 34 = .ok (.iconst 0, 1) := by decide +kernel
theorem dX9_isCached_35 : decode cX9_isCached 35 = .ok (.goto 4, 3) := by decide +kernel
theorem dX9_isCached_38 : decode cX9_isCached 38 = .ok (.iconst 1, 1) := by decide +kernel
theorem dX9_isCached_39 : decode cX9_isCached 39 = .ok (.ireturn, 1) := by decide +kernel
theorem dX9_isChannel_0 : decode cX9_isChannel 0 = .ok (.iload_n 0, 1) := by decide +kernel
theorem dX9_isChannel_1 : decode cX9_isChannel 1 = .ok (.iconst 0, 1) := by decide +kernel
theorem dX9_isChannel_2 : decode cX9_isChannel 2 = .ok (.iconst 2, 1) := by decide +kernel
theorem dX9_isChannel_3 : decode cX9_isChannel 3 = .ok (.invokestatic 52, 3) := by decide +kernel
theorem dX9_isChannel_6 : decode cX9_isChannel 6 = .ok (.ireturn, 1) := by decide +kernel
theorem dX9_isFrame_0 : decode cX9_isFrame 0 = .ok (.iload_n 0, 1) := by decide +kernel
theorem dX9_isFrame_1 : decode cX9_isFrame 1 = .ok (.iconst 0, 1) := by decide +kernel
theorem dX9_isFrame_2 : decode cX9_isFrame 2 = .ok (.bipush 99, 2) := by decide +kernel
theorem dX9_isFrame_4 : decode cX9_isFrame 4 = .ok (.invokestatic 52, 3) := by decide +kernel
theorem dX9_isFrame_7 : decode cX9_isFrame 7 = .ok (.ireturn, 1) := by decide +kernel
theorem dX9_isIn_0 : decode cX9_isIn 0 = .ok (.iload_n 1, 1) := by decide +kernel
theorem dX9_isIn_1 : decode cX9_isIn 1 = .ok (.iload_n 0, 1) := by decide +kernel
theorem dX9_isIn_2 : decode cX9_isIn 2 = .ok (.if_icmp .gt 12, 3) := by decide +kernel
theorem dX9_isIn_5 : decode cX9_isIn 5 = .ok (.iload_n 0, 1) := by decide +kernel
theorem dX9_isIn_6 : decode cX9_isIn 6 = .ok (.iload_n 2, 1) := by decide +kernel
theorem dX9_isIn_7 : decode cX9_isIn 7 = .ok (.if_icmp .gt 7, 3) := by decide +kernel
theorem dX9_isIn_10 : decode cX9_isIn 10 = .ok (.iconst 1, 1) := by decide +kernel
theorem dX9_isIn_11 : decode cX9_isIn 11 = .ok (.goto 4, 3) := by decide +kernel
theorem dX9_isIn_14 : decode cX9_isIn 14 = .ok (.iconst 0, 1) := by decide +kernel
theorem dX9_isIn_15 : decode cX9_isIn 15 = .ok (.ireturn, 1) := by decide +kernel
theorem dX9_make_0 : decode cX9_make 0 = .ok (.iload_n 3, 1) := by decide +kernel
theorem dX9_make_1 : decode cX9_make 1 = .ok (.aload_n 1, 1) := by decide +kernel
theorem dX9_make_2 : decode cX9_make 2 = .ok (.getfield 86, 3) := by decide +kernel
theorem dX9_make_5 : decode cX9_make 5 = .ok (.aload_n 1, 1) := by decide +kernel
theorem dX9_make_6 : decode cX9_make 6 = .ok (.getfield 91, 3) := by decide +kernel
theorem dX9_make_9 : decode cX9_make 9 = .ok (.invokestatic 52, 3) := by decide +kernel
theorem dX9_make_12 : decode cX9_make 12 = .ok (.istore 5, 2) := by decide +kernel
theorem dX9_make_14 : decode cX9_make 14 = .ok (.aload_n 0, 1) := by decide +kernel
theorem dX9_make_15 : decode cX9_make 15 = .ok (.aload_n 1, 1) := by decide +kernel
theorem dX9_make_16 : decode cX9_make 16 = .ok (.getfield 130, 3) := by decide +kernel
theorem dX9_make_19 : decode cX9_make 19 = .ok (.iconst 0, 1) := by decide +kernel
theorem dX9_make_20 : decode cX9_make 20 = .ok (.iaload, 1) := by decide +kernel
theorem dX9_make_21 : decode cX9_make 21 = .ok (.iload_n 3, 1) := by decide +kernel
theorem dX9_make_22 : decode cX9_make 22 = .ok (.iload 4, 2) := by decide +kernel
theorem dX9_make_24 : decode cX9_make 24 = .ok (.iconst 1, 1) := by decide +kernel
theorem dX9_make_25 : decode cX9_make 25 = .ok (.iadd, 1) := by decide +kernel
theorem dX9_make_26 : decode cX9_make 26 = .ok (.invokevirtual 136, 3) := by decide +kernel
theorem dX9_make_29 : decode cX9_make 29 = .ok (.astore 6, 2) := by decide +kernel
theorem dX9_make_31 : decode cX9_make 31 = .ok (.iload 5, 2) := by decide +kernel
theorem dX9_make_33 : decode cX9_make 33 = .ok (.ifCond .eq 21, 3) := by decide +kernel
theorem dX9_make_36 : decode cX9_make 36 = .ok (.aload_n 0, 1) := by decide +kernel
theorem dX9_make_37 : decode cX9_make 37 = .ok (.aload_n 1, 1) := by decide +kernel
theorem dX9_make_38 : decode cX9_make 38 = .ok (.getfield 130, 3) := by decide +kernel
theorem dX9_make_41 : decode cX9_make 41 = .ok (.iconst 1, 1) := by decide +kernel
theorem dX9_make_42 : decode cX9_make 42 = .ok (.iaload, 1) := by decide +kernel
theorem dX9_make_43 : decode cX9_make 43 = .ok (.iload_n 3, 1) := by decide +kernel
theorem dX9_make_44 : decode cX9_make 44 = .ok (.iload 4, 2) := by decide +kernel
theorem dX9_make_46 : decode cX9_make 46 = .ok (.iconst 1, 1) := by decide +kernel
theorem dX9_make_47 : decode cX9_make 47 = .ok (.iadd, 1) := by decide +kernel
theorem dX9_make_48 : decode cX9_make 48 = .ok (.invokevirtual 136, 3) := by decide +kernel
theorem dX9_make_51 : decode cX9_make 51 = .ok (.goto 7, 3) := by decide +kernel
theorem dX9_make_54 : decode cX9_make 54 = .ok (.aload_n 0, 1) := by decide +kernel
theorem dX9_make_55 : decode cX9_make 55 = .ok (.getfield 38, 3) := by decide +kernel
theorem dX9_make_58 : decode cX9_make 58 = .ok (.astore 7, 2) := by decide +kernel
theorem dX9_make_60 : decode cX9_make 60 = .ok (.iload 5, 2) := by decide +kernel
theorem dX9_make_62 : decode cX9_make 62 = .ok (.ifCond .eq 21, 3) := by decide +kernel
theorem dX9_make_65 : decode cX9_make 65 = .ok (.aload_n 0, 1) := by decide +kernel
theorem dX9_make_66 : decode cX9_make 66 = .ok (.aload_n 1, 1) := by decide +kernel
theorem dX9_make_67 : decode cX9_make 67 = .ok (.getfield 130, 3) := by decide +kernel
theorem dX9_make_70 : decode cX9_make 70 = .ok (.iconst 2, 1) := by decide +kernel
theorem dX9_make_71 : decode cX9_make 71 = .ok (.iaload, 1) := by decide +kernel
theorem dX9_make_72 : decode cX9_make 72 = .ok (.iload_n 3, 1) := by decide +kernel
theorem dX9_make_73 : decode cX9_make 73 = .ok (.iload 4, 2) := by decide +kernel
theorem dX9_make_75 : decode cX9_make 75 = .ok (.iconst 1, 1) := by decide +kernel
theorem dX9_make_76 : decode cX9_make 76 = .ok (.iadd, 1) := by decide +kernel
theorem dX9_make_77 : decode cX9_make 77 = .ok (.invokevirtual 136, 3) := by decide +kernel
theorem dX9_make_80 : decode cX9_make 80 = .ok (.goto 7, 3) := by decide +kernel
theorem dX9_make_83 : decode cX9_make 83 = .ok (.aload_n 0, 1) := by decide +kernel
theorem dX9_make_84 : decode cX9_make 84 = .ok (.getfield 38, 3) := by decide +kernel
theorem dX9_make_87 : decode cX9_make 87 = .ok (.astore 8, 2) := by decide +kernel
theorem dX9_make_89 : decode cX9_make 89 = .ok (.aload_n 0, 1) := by decide +kernel
theorem dX9_make_90 : decode cX9_make 90 = .ok (.getfield 19, 3) := by decide +kernel
theorem dX9_make_93 : decode cX9_make 93 = .ok (.iload_n 2, 1) := by decide +kernel
theorem dX9_make_94 : decode cX9_make 94 = .ok (.iload_n 3, 1) := by decide +kernel
theorem dX9_make_95 : decode cX9_make 95 = .ok (.invokevirtual 273, 3) := by decide +kernel
theorem dX9_make_98 : decode cX9_make 98 = .ok (.astore 9, 2) := by decide +kernel
theorem dX9_make_100 : decode cX9_make 100 = .ok (.iload 5, 2) := by decide +kernel
theorem dX9_make_102 : decode cX9_make 102 = .ok (.ifCond .eq 22, 3) := by decide +kernel
theorem dX9_make_105 : decode cX9_make 105 = .ok (.aload_n 1, 1) := by decide +kernel
theorem dX9_make_106 : decode cX9_make 106 = .ok (.iload_n 3, 1) := by decide +kernel
theorem dX9_make_107 : decode cX9_make 107 = .ok (.aload 6, 2) := by decide +kernel
theorem dX9_make_109 : decode cX9_make 109 = .ok (.aload 7, 2) := by decide +kernel
theorem dX9_make_111 : decode cX9_make 111 = .ok (.aload 8, 2) := by decide +kernel
theorem dX9_make_113 : decode cX9_make 113 = .ok (.aload 9, 2) := by decide +kernel
theorem dX9_make_115 : decode cX9_make 115 = .ok (.getfield 268, 3) := by decide +kernel
theorem dX9_make_118 : decode cX9_make 118 = .ok (.invokestatic 276, 3) := by decide +kernel
theorem dX9_make_121 : decode cX9_make 121 = .ok (.goto 17, 3) := by decide +kernel
theorem dX9_make_124 : decode cX9_make 124 = .ok (.aload 6, 2) := by decide +kernel
theorem dX9_make_126 : decode cX9_make 126 = .ok (.iconst 0, 1) := by decide +kernel
theorem dX9_make_127 : decode cX9_make 127 = .ok (.aload 9, 2) := by decide +kernel
theorem dX9_make_129 : decode cX9_make 129 = .ok (.getfield 268, 3) := by decide +kernel
theorem dX9_make_132 : decode cX9_make 132 = .ok (.iconst 0, 1) := by decide +kernel
theorem dX9_make_133 : decode cX9_make 133 = .ok (.bipush 96, 2) := by decide +kernel
theorem dX9_make_135 : decode cX9_make 135 = .ok (.invokestatic 282, 3) := by decide +kernel
theorem dX9_make_138 : decode cX9_make 138 = .ok (.aload 9, 2) := by decide +kernel
theorem dX9_make_140 : decode cX9_make 140 = .ok (.getfield 268, 3) := by decide +kernel
theorem dX9_make_143 : decode cX9_make 143 = .ok (.areturn, 1) := by decide +kernel
theorem dX9_mix_0 : decode cX9_mix 0 = .ok (.ldc2_w 258, 3) := by decide +kernel
theorem dX9_mix_3 : decode cX9_mix 3 = .ok (.lload_n 0, 1) := by decide +kernel
theorem dX9_mix_4 : decode cX9_mix 4 = .ok (.lmul, 1) := by decide +kernel
theorem dX9_mix_5 : decode cX9_mix 5 = .ok (.iload_n 2, 1) := by decide +kernel
theorem dX9_mix_6 : decode cX9_mix 6 = .ok (.i2l, 1) := by decide +kernel
theorem dX9_mix_7 : decode cX9_mix 7 = .ok (.ladd, 1) := by decide +kernel
theorem dX9_mix_8 : decode cX9_mix 8 = .ok (.lreturn, 1) := by decide +kernel
theorem dX9_mixNode_0 : decode cX9_mixNode 0 = .ok (.lload_n 1, 1) := by decide +kernel
theorem dX9_mixNode_1 : decode cX9_mixNode 1 = .ok (.lstore 4, 2) := by decide +kernel
theorem dX9_mixNode_3 : decode cX9_mixNode 3 = .ok (.aload_n 0, 1) := by decide +kernel
theorem dX9_mixNode_4 : decode cX9_mixNode 4 = .ok (.getfield 12, 3) := by decide +kernel
theorem dX9_mixNode_7 : decode cX9_mixNode 7 = .ok (.getfield 82, 3) := by decide +kernel
theorem dX9_mixNode_10 : decode cX9_mixNode 10 = .ok (.iload_n 3, 1) := by decide +kernel
theorem dX9_mixNode_11 : decode cX9_mixNode 11 = .ok (.aaload, 1) := by decide +kernel
theorem dX9_mixNode_12 : decode cX9_mixNode 12 = .ok (.getfield 97, 3) := by decide +kernel
theorem dX9_mixNode_15 : decode cX9_mixNode 15 = .ok (.istore 6, 2) := by decide +kernel
theorem dX9_mixNode_17 : decode cX9_mixNode 17 = .ok (.iconst 0, 1) := by decide +kernel
theorem dX9_mixNode_18 : decode cX9_mixNode 18 = .ok (.istore 7, 2) := by decide +kernel
theorem dX9_mixNode_20 : decode cX9_mixNode 20 = .ok (.iload 7, 2) := by decide +kernel
theorem dX9_mixNode_22 : decode cX9_mixNode 22 = .ok (.bipush 6, 2) := by decide +kernel
theorem dX9_mixNode_24 : decode cX9_mixNode 24 = .ok (.if_icmp .ge 23, 3) := by decide +kernel
theorem dX9_mixNode_27 : decode cX9_mixNode 27 = .ok (.lload 4, 2) := by decide +kernel
theorem dX9_mixNode_29 : decode cX9_mixNode 29 = .ok (.aload_n 0, 1) := by decide +kernel
theorem dX9_mixNode_30 : decode cX9_mixNode 30 = .ok (.iload_n 3, 1) := by decide +kernel
theorem dX9_mixNode_31 : decode cX9_mixNode 31 = .ok (.iload 7, 2) := by decide +kernel
theorem dX9_mixNode_33 : decode cX9_mixNode 33 = .ok (.invokevirtual 245, 3) := by decide +kernel
theorem dX9_mixNode_36 : decode cX9_mixNode 36 = .ok (.invokestatic 232, 3) := by decide +kernel
theorem dX9_mixNode_39 : decode cX9_mixNode 39 = .ok (.lstore 4, 2) := by decide +kernel
theorem dX9_mixNode_41 : decode cX9_mixNode 41 = .ok (.iinc 7 1, 3) := by decide +kernel
theorem dX9_mixNode_44 : decode cX9_mixNode 44 = .ok (.goto (-24), 3) := by decide +kernel
theorem dX9_mixNode_47 : decode cX9_mixNode 47 = .ok (.iconst 0, 1) := by decide +kernel
theorem dX9_mixNode_48 : decode cX9_mixNode 48 = .ok (.istore 7, 2) := by decide +kernel
theorem dX9_mixNode_50 : decode cX9_mixNode 50 = .ok (.iload 7, 2) := by decide +kernel
theorem dX9_mixNode_52 : decode cX9_mixNode 52 = .ok (.iload 6, 2) := by decide +kernel
theorem dX9_mixNode_54 : decode cX9_mixNode 54 = .ok (.invokestatic 248, 3) := by decide +kernel
theorem dX9_mixNode_57 : decode cX9_mixNode 57 = .ok (.if_icmp .ge 23, 3) := by decide +kernel
theorem dX9_mixNode_60 : decode cX9_mixNode 60 = .ok (.lload 4, 2) := by decide +kernel
theorem dX9_mixNode_62 : decode cX9_mixNode 62 = .ok (.aload_n 0, 1) := by decide +kernel
theorem dX9_mixNode_63 : decode cX9_mixNode 63 = .ok (.iload_n 3, 1) := by decide +kernel
theorem dX9_mixNode_64 : decode cX9_mixNode 64 = .ok (.iload 7, 2) := by decide +kernel
theorem dX9_mixNode_66 : decode cX9_mixNode 66 = .ok (.invokevirtual 250, 3) := by decide +kernel
theorem dX9_mixNode_69 : decode cX9_mixNode 69 = .ok (.invokestatic 232, 3) := by decide +kernel
theorem dX9_mixNode_72 : decode cX9_mixNode 72 = .ok (.lstore 4, 2) := by decide +kernel
theorem dX9_mixNode_74 : decode cX9_mixNode 74 = .ok (.iinc 7 1, 3) := by decide +kernel
theorem dX9_mixNode_77 : decode cX9_mixNode 77 = .ok (.goto (-27), 3) := by decide +kernel
theorem dX9_mixNode_80 : decode cX9_mixNode 80 = .ok (.iconst 0, 1) := by decide +kernel
theorem dX9_mixNode_81 : decode cX9_mixNode 81 = .ok (.istore 7, 2) := by decide +kernel
theorem dX9_mixNode_83 : decode cX9_mixNode 83 = .ok (.iload 7, 2) := by decide +kernel
theorem dX9_mixNode_85 : decode cX9_mixNode 85 = .ok (.iload 6, 2) := by decide +kernel
theorem dX9_mixNode_87 : decode cX9_mixNode 87 = .ok (.invokestatic 253, 3) := by decide +kernel
theorem dX9_mixNode_90 : decode cX9_mixNode 90 = .ok (.if_icmp .ge 23, 3) := by decide +kernel
theorem dX9_mixNode_93 : decode cX9_mixNode 93 = .ok (.lload 4, 2) := by decide +kernel
theorem dX9_mixNode_95 : decode cX9_mixNode 95 = .ok (.aload_n 0, 1) := by decide +kernel
theorem dX9_mixNode_96 : decode cX9_mixNode 96 = .ok (.iload_n 3, 1) := by decide +kernel
theorem dX9_mixNode_97 : decode cX9_mixNode 97 = .ok (.iload 7, 2) := by decide +kernel
theorem dX9_mixNode_99 : decode cX9_mixNode 99 = .ok (.invokevirtual 255, 3) := by decide +kernel
theorem dX9_mixNode_102 : decode cX9_mixNode 102 = .ok (.invokestatic 232, 3) := by decide +kernel
theorem dX9_mixNode_105 : decode cX9_mixNode 105 = .ok (.lstore 4, 2) := by decide +kernel
theorem dX9_mixNode_107 : decode cX9_mixNode 107 = .ok (.iinc 7 1, 3) := by decide +kernel
theorem dX9_mixNode_110 : decode cX9_mixNode 110 = .ok (.goto (-27), 3) := by decide +kernel
theorem dX9_mixNode_113 : decode cX9_mixNode 113 = .ok (.lload 4, 2) := by decide +kernel
theorem dX9_mixNode_115 : decode cX9_mixNode 115 = .ok (.lreturn, 1) := by decide +kernel
theorem dX9_node_0 : decode cX9_node 0 = .ok (.aload_n 0, 1) := by decide +kernel
theorem dX9_node_1 : decode cX9_node 1 = .ok (.getfield 12, 3) := by decide +kernel
theorem dX9_node_4 : decode cX9_node 4 = .ok (.iload_n 1, 1) := by decide +kernel
theorem dX9_node_5 : decode cX9_node 5 = .ok (.invokevirtual 64, 3) := by decide +kernel
theorem dX9_node_8 : decode cX9_node 8 = .ok (.ifCond .ne 7, 3) := by decide +kernel
theorem dX9_node_11 : decode cX9_node 11 = .ok (.sipush (-1001), 3) := by decide +kernel
theorem dX9_node_14 : decode cX9_node 14 = .ok (.ireturn, 1) := by decide +kernel
theorem dX9_node_15 : decode cX9_node 15 = .ok (.iload_n 2, 1) := by decide +kernel
theorem dX9_node_16 : decode cX9_node 16 = .ok (.tableswitch 111 0 5 #[40, 53, 66, 79, 91, 101], 40) := by decide +kernel
theorem dX9_node_56 : decode cX9_node 56 = .ok (.aload_n 0, 1) := by decide +kernel
theorem dX9_node_57 : decode cX9_node 57 = .ok (.getfield 12, 3) := by decide +kernel
theorem dX9_node_60 : decode cX9_node 60 = .ok (.getfield 82, 3) := by decide +kernel
theorem dX9_node_63 : decode cX9_node 63 = .ok (.iload_n 1, 1) := by decide +kernel
theorem dX9_node_64 : decode cX9_node 64 = .ok (.aaload, 1) := by decide +kernel
theorem dX9_node_65 : decode cX9_node 65 = .ok (.getfield 97, 3) := by decide +kernel
theorem dX9_node_68 : decode cX9_node 68 = .ok (.ireturn, 1) := by decide +kernel
theorem dX9_node_69 : decode cX9_node 69 = .ok (.aload_n 0, 1) := by decide +kernel
theorem dX9_node_70 : decode cX9_node 70 = .ok (.getfield 12, 3) := by decide +kernel
theorem dX9_node_73 : decode cX9_node 73 = .ok (.getfield 82, 3) := by decide +kernel
theorem dX9_node_76 : decode cX9_node 76 = .ok (.iload_n 1, 1) := by decide +kernel
theorem dX9_node_77 : decode cX9_node 77 = .ok (.aaload, 1) := by decide +kernel
theorem dX9_node_78 : decode cX9_node 78 = .ok (.getfield 86, 3) := by decide +kernel
theorem dX9_node_81 : decode cX9_node 81 = .ok (.ireturn, 1) := by decide +kernel
theorem dX9_node_82 : decode cX9_node 82 = .ok (.aload_n 0, 1) := by decide +kernel
theorem dX9_node_83 : decode cX9_node 83 = .ok (.getfield 12, 3) := by decide +kernel
theorem dX9_node_86 : decode cX9_node 86 = .ok (.getfield 82, 3) := by decide +kernel
theorem dX9_node_89 : decode cX9_node 89 = .ok (.iload_n 1, 1) := by decide +kernel
theorem dX9_node_90 : decode cX9_node 90 = .ok (.aaload, 1) := by decide +kernel
theorem dX9_node_91 : decode cX9_node 91 = .ok (.getfield 91, 3) := by decide +kernel
theorem dX9_node_94 : decode cX9_node 94 = .ok (.ireturn, 1) := by decide +kernel
theorem dX9_node_95 : decode cX9_node 95 = .ok (.aload_n 0, 1) := by decide +kernel
theorem dX9_node_96 : decode cX9_node 96 = .ok (.getfield 12, 3) := by decide +kernel
theorem dX9_node_99 : decode cX9_node 99 = .ok (.iload_n 1, 1) := by decide +kernel
theorem dX9_node_100 : decode cX9_node 100 = .ok (.invokevirtual 68, 3) := by decide +kernel
theorem dX9_node_103 : decode cX9_node 103 = .ok (.invokestatic 119, 3) := by decide +kernel
theorem dX9_node_106 : decode cX9_node 106 = .ok (.ireturn, 1) := by decide +kernel
theorem dX9_node_107 : decode cX9_node 107 = .ok (.aload_n 0, 1) := by decide +kernel
theorem dX9_node_108 : decode cX9_node 108 = .ok (.getfield 12, 3) := by decide +kernel
theorem dX9_node_111 : decode cX9_node 111 = .ok (.getfield 124, 3) := by decide +kernel
theorem dX9_node_114 : decode cX9_node 114 = .ok (.iload_n 1, 1) := by decide +kernel
theorem dX9_node_115 : decode cX9_node 115 = .ok (.iaload, 1) := by decide +kernel
theorem dX9_node_116 : decode cX9_node 116 = .ok (.ireturn, 1) := by decide +kernel
theorem dX9_node_117 : decode cX9_node 117 = .ok (.aload_n 0, 1) := by decide +kernel
theorem dX9_node_118 : decode cX9_node 118 = .ok (.getfield 12, 3) := by decide +kernel
theorem dX9_node_121 : decode cX9_node 121 = .ok (.getfield 127, 3) := by decide +kernel
theorem dX9_node_124 : decode cX9_node 124 = .ok (.iload_n 1, 1) := by decide +kernel
theorem dX9_node_125 : decode cX9_node 125 = .ok (.iaload, 1) := by decide +kernel
theorem dX9_node_126 : decode cX9_node 126 = .ok (.ireturn, 1) := by decide +kernel
theorem dX9_node_127 : decode cX9_node 127 = .ok (.sipush (-1002), 3) := by decide +kernel
theorem dX9_node_130 : decode cX9_node 130 = .ok (.ireturn, 1) := by decide +kernel
theorem dX9_nodes_0 : decode cX9_nodes 0 = .ok (.aload_n 0, 1) := by decide +kernel
theorem dX9_nodes_1 : decode cX9_nodes 1 = .ok (.getfield 12, 3) := by decide +kernel
theorem dX9_nodes_4 : decode cX9_nodes 4 = .ok (.getfield 42, 3) := by decide +kernel
theorem dX9_nodes_7 : decode cX9_nodes 7 = .ok (.ireturn, 1) := by decide +kernel
theorem dX9_parameter_0 : decode cX9_parameter 0 = .ok (.aload_n 0, 1) := by decide +kernel
theorem dX9_parameter_1 : decode cX9_parameter 1 = .ok (.getfield 12, 3) := by decide +kernel
theorem dX9_parameter_4 : decode cX9_parameter 4 = .ok (.iload_n 1, 1) := by decide +kernel
theorem dX9_parameter_5 : decode cX9_parameter 5 = .ok (.iload_n 2, 1) := by decide +kernel
theorem dX9_parameter_6 : decode cX9_parameter 6 = .ok (.invokevirtual 94, 3) := by decide +kernel
theorem dX9_parameter_9 : decode cX9_parameter 9 = .ok (.ifCond .ne 7, 3) := by decide +kernel
theorem dX9_parameter_12 : decode cX9_parameter 12 = .ok (.sipush (-1001), 3) := by decide +kernel
theorem dX9_parameter_15 : decode cX9_parameter 15 = .ok (.ireturn, 1) := by decide +kernel
theorem dX9_parameter_16 : decode cX9_parameter 16 = .ok (.aload_n 0, 1) := by decide +kernel
theorem dX9_parameter_17 : decode cX9_parameter 17 = .ok (.getfield 12, 3) := by decide +kernel
theorem dX9_parameter_20 : decode cX9_parameter 20 = .ok (.getfield 82, 3) := by decide +kernel
theorem dX9_parameter_23 : decode cX9_parameter 23 = .ok (.iload_n 1, 1) := by decide +kernel
theorem dX9_parameter_24 : decode cX9_parameter 24 = .ok (.aaload, 1) := by decide +kernel
theorem dX9_parameter_25 : decode cX9_parameter 25 = .ok (.getfield 109, 3) := by decide +kernel
theorem dX9_parameter_28 : decode cX9_parameter 28 = .ok (.iload_n 2, 1) := by decide +kernel
theorem dX9_parameter_29 : decode cX9_parameter 29 = .ok (.iaload, 1) := by decide +kernel
theorem dX9_parameter_30 : decode cX9_parameter 30 = .ok (.ireturn, 1) := by decide +kernel
theorem dX9_restore_0 : decode cX9_restore 0 = .ok (.iload_n 1, 1) := by decide +kernel
theorem dX9_restore_1 : decode cX9_restore 1 = .ok (.iconst 0, 1) := by decide +kernel
theorem dX9_restore_2 : decode cX9_restore 2 = .ok (.iconst 1, 1) := by decide +kernel
theorem dX9_restore_3 : decode cX9_restore 3 = .ok (.invokestatic 52, 3) := by decide +kernel
theorem dX9_restore_6 : decode cX9_restore 6 = .ok (.ifCond .ne 7, 3) := by decide +kernel
theorem dX9_restore_9 : decode cX9_restore 9 = .ok (.sipush (-1001), 3) := by decide +kernel
theorem dX9_restore_12 : decode cX9_restore 12 = .ok (.ireturn, 1) := by decide +kernel
theorem dX9_restore_13 : decode cX9_restore 13 = .ok (.aload_n 0, 1) := by decide +kernel
theorem dX9_restore_14 : decode cX9_restore 14 = .ok (.getfield 34, 3) := by decide +kernel
theorem dX9_restore_17 : decode cX9_restore 17 = .ok (.iload_n 1, 1) := by decide +kernel
theorem dX9_restore_18 : decode cX9_restore 18 = .ok (.baload, 1) := by decide +kernel
theorem dX9_restore_19 : decode cX9_restore 19 = .ok (.ifCond .ne 7, 3) := by decide +kernel
theorem dX9_restore_22 : decode cX9_restore 22 = .ok (.sipush (-1003), 3) := by decide +kernel
theorem dX9_restore_25 : decode cX9_restore 25 = .ok (.ireturn, 1) := by decide +kernel
theorem dX9_restore_26 : decode cX9_restore 26 = .ok (.aload_n 0, 1) := by decide +kernel
theorem dX9_restore_27 : decode cX9_restore 27 = .ok (.getfield 12, 3) := by decide +kernel
theorem dX9_restore_30 : decode cX9_restore 30 = .ok (.aload_n 0, 1) := by decide +kernel
theorem dX9_restore_31 : decode cX9_restore 31 = .ok (.getfield 30, 3) := by decide +kernel
theorem dX9_restore_34 : decode cX9_restore 34 = .ok (.iload_n 1, 1) := by decide +kernel
theorem dX9_restore_35 : decode cX9_restore 35 = .ok (.aaload, 1) := by decide +kernel
theorem dX9_restore_36 : decode cX9_restore 36 = .ok (.invokevirtual 223, 3) := by decide +kernel
theorem dX9_restore_39 : decode cX9_restore 39 = .ok (.aload_n 0, 1) := by decide +kernel
theorem dX9_restore_40 : decode cX9_restore 40 = .ok (.getfield 19, 3) := by decide +kernel
theorem dX9_restore_43 : decode cX9_restore 43 = .ok (.invokevirtual 49, 3) := by decide +kernel
theorem dX9_restore_46 : decode cX9_restore 46 = .ok (.aload_n 0, 1) := by decide +kernel
theorem dX9_restore_47 : decode cX9_restore 47 = .ok (.getfield 12, 3) := by decide +kernel
theorem dX9_restore_50 : decode cX9_restore 50 = .ok (.getfield 42, 3) := by decide +kernel
theorem dX9_restore_53 : decode cX9_restore 53 = .ok (.ireturn, 1) := by decide +kernel
theorem dX9_save_0 : decode cX9_save 0 = .ok (.iload_n 1, 1) := by decide +kernel
theorem dX9_save_1 : decode cX9_save 1 = .ok (.iconst 0, 1) := by decide +kernel
theorem dX9_save_2 : decode cX9_save 2 = .ok (.iconst 1, 1) := by decide +kernel
theorem dX9_save_3 : decode cX9_save 3 = .ok (.invokestatic 52, 3) := by decide +kernel
theorem dX9_save_6 : decode cX9_save 6 = .ok (.ifCond .ne 7, 3) := by decide +kernel
theorem dX9_save_9 : decode cX9_save 9 = .ok (.sipush (-1001), 3) := by decide +kernel
theorem dX9_save_12 : decode cX9_save 12 = .ok (.ireturn, 1) := by decide +kernel
theorem dX9_save_13 : decode cX9_save 13 = .ok (.aload_n 0, 1) := by decide +kernel
theorem dX9_save_14 : decode cX9_save 14 = .ok (.getfield 30, 3) := by decide +kernel
theorem dX9_save_17 : decode cX9_save 17 = .ok (.iload_n 1, 1) := by decide +kernel
theorem dX9_save_18 : decode cX9_save 18 = .ok (.aaload, 1) := by decide +kernel
theorem dX9_save_19 : decode cX9_save 19 = .ok (.aload_n 0, 1) := by decide +kernel
theorem dX9_save_20 : decode cX9_save 20 = .ok (.getfield 12, 3) := by decide +kernel
theorem dX9_save_23 : decode cX9_save 23 = .ok (.invokevirtual 223, 3) := by decide +kernel
theorem dX9_save_26 : decode cX9_save 26 = .ok (.aload_n 0, 1) := by decide +kernel
theorem dX9_save_27 : decode cX9_save 27 = .ok (.getfield 34, 3) := by decide +kernel
theorem dX9_save_30 : decode cX9_save 30 = .ok (.iload_n 1, 1) := by decide +kernel
theorem dX9_save_31 : decode cX9_save 31 = .ok (.iconst 1, 1) := by decide +kernel
theorem dX9_save_32 : decode cX9_save 32 = .ok (.bastore, 1) := by decide +kernel
theorem dX9_save_33 : decode cX9_save 33 = .ok (.aload_n 0, 1) := by decide +kernel
theorem dX9_save_34 : decode cX9_save 34 = .ok (.getfield 12, 3) := by decide +kernel
theorem dX9_save_37 : decode cX9_save 37 = .ok (.getfield 42, 3) := by decide +kernel
theorem dX9_save_40 : decode cX9_save 40 = .ok (.ireturn, 1) := by decide +kernel
theorem dX9_scope_0 : decode cX9_scope 0 = .ok (.iload 4, 2) := by decide +kernel
theorem dX9_scope_2 : decode cX9_scope 2 = .ok (.iconst 0, 1) := by decide +kernel
theorem dX9_scope_3 : decode cX9_scope 3 = .ok (.bipush 15, 2) := by decide +kernel
theorem dX9_scope_5 : decode cX9_scope 5 = .ok (.invokestatic 52, 3) := by decide +kernel
theorem dX9_scope_8 : decode cX9_scope 8 = .ok (.istore 5, 2) := by decide +kernel
theorem dX9_scope_10 : decode cX9_scope 10 = .ok (.aload_n 0, 1) := by decide +kernel
theorem dX9_scope_11 : decode cX9_scope 11 = .ok (.getfield 12, 3) := by decide +kernel
theorem dX9_scope_14 : decode cX9_scope 14 = .ok (.iload_n 1, 1) := by decide +kernel
theorem dX9_scope_15 : decode cX9_scope 15 = .ok (.invokevirtual 64, 3) := by decide +kernel
theorem dX9_scope_18 : decode cX9_scope 18 = .ok (.ifCond .eq 22, 3) := by decide +kernel
theorem dX9_scope_21 : decode cX9_scope 21 = .ok (.iload_n 2, 1) := by decide +kernel
theorem dX9_scope_22 : decode cX9_scope 22 = .ok (.invokestatic 112, 3) := by decide +kernel
theorem dX9_scope_25 : decode cX9_scope 25 = .ok (.ifCond .eq 15, 3) := by decide +kernel
theorem dX9_scope_28 : decode cX9_scope 28 = .ok (.iload_n 3, 1) := by decide +kernel
theorem dX9_scope_29 : decode cX9_scope 29 = .ok (.invokestatic 133, 3) := by decide +kernel
theorem dX9_scope_32 : decode cX9_scope 32 = .ok (.ifCond .eq 8, 3) := by decide +kernel
theorem dX9_scope_35 : decode cX9_scope 35 = .ok (.iload 5, 2) := by decide +kernel
theorem dX9_scope_37 : decode cX9_scope 37 = .ok (.ifCond .ne 7, 3) := by decide +kernel
theorem dX9_scope_40 : decode cX9_scope 40 = .ok (.sipush (-1001), 3) := by decide +kernel
theorem dX9_scope_43 : decode cX9_scope 43 = .ok (.ireturn, 1) := by decide +kernel
theorem dX9_scope_44 : decode cX9_scope 44 = .ok (.aload_n 0, 1) := by decide +kernel
theorem dX9_scope_45 : decode cX9_scope 45 = .ok (.iload_n 1, 1) := by decide +kernel
theorem dX9_scope_46 : decode cX9_scope 46 = .ok (.iload_n 2, 1) := by decide +kernel
theorem dX9_scope_47 : decode cX9_scope 47 = .ok (.iconst 0, 1) := by decide +kernel
theorem dX9_scope_48 : decode cX9_scope 48 = .ok (.invokevirtual 136, 3) := by decide +kernel
theorem dX9_scope_51 : decode cX9_scope 51 = .ok (.iload_n 3, 1) := by decide +kernel
theorem dX9_scope_52 : decode cX9_scope 52 = .ok (.iload 4, 2) := by decide +kernel
theorem dX9_scope_54 : decode cX9_scope 54 = .ok (.invokestatic 140, 3) := by decide +kernel
theorem dX9_scope_57 : decode cX9_scope 57 = .ok (.ireturn, 1) := by decide +kernel
theorem dX9_set_0 : decode cX9_set 0 = .ok (.aload_n 0, 1) := by decide +kernel
theorem dX9_set_1 : decode cX9_set 1 = .ok (.getfield 12, 3) := by decide +kernel
theorem dX9_set_4 : decode cX9_set 4 = .ok (.iload_n 1, 1) := by decide +kernel
theorem dX9_set_5 : decode cX9_set 5 = .ok (.iload_n 2, 1) := by decide +kernel
theorem dX9_set_6 : decode cX9_set 6 = .ok (.invokevirtual 94, 3) := by decide +kernel
theorem dX9_set_9 : decode cX9_set 9 = .ok (.ifCond .ne 7, 3) := by decide +kernel
theorem dX9_set_12 : decode cX9_set 12 = .ok (.sipush (-1001), 3) := by decide +kernel
theorem dX9_set_15 : decode cX9_set 15 = .ok (.ireturn, 1) := by decide +kernel
theorem dX9_set_16 : decode cX9_set 16 = .ok (.aload_n 0, 1) := by decide +kernel
theorem dX9_set_17 : decode cX9_set 17 = .ok (.getfield 12, 3) := by decide +kernel
theorem dX9_set_20 : decode cX9_set 20 = .ok (.getfield 82, 3) := by decide +kernel
theorem dX9_set_23 : decode cX9_set 23 = .ok (.iload_n 1, 1) := by decide +kernel
theorem dX9_set_24 : decode cX9_set 24 = .ok (.aaload, 1) := by decide +kernel
theorem dX9_set_25 : decode cX9_set 25 = .ok (.astore 4, 2) := by decide +kernel
theorem dX9_set_27 : decode cX9_set 27 = .ok (.aload 4, 2) := by decide +kernel
theorem dX9_set_29 : decode cX9_set 29 = .ok (.getfield 97, 3) := by decide +kernel
theorem dX9_set_32 : decode cX9_set 32 = .ok (.istore 5, 2) := by decide +kernel
theorem dX9_set_34 : decode cX9_set 34 = .ok (.iload_n 3, 1) := by decide +kernel
theorem dX9_set_35 : decode cX9_set 35 = .ok (.iload 5, 2) := by decide +kernel
theorem dX9_set_37 : decode cX9_set 37 = .ok (.iload_n 2, 1) := by decide +kernel
theorem dX9_set_38 : decode cX9_set 38 = .ok (.invokestatic 100, 3) := by decide +kernel
theorem dX9_set_41 : decode cX9_set 41 = .ok (.iload 5, 2) := by decide +kernel
theorem dX9_set_43 : decode cX9_set 43 = .ok (.iload_n 2, 1) := by decide +kernel
theorem dX9_set_44 : decode cX9_set 44 = .ok (.invokestatic 106, 3) := by decide +kernel
theorem dX9_set_47 : decode cX9_set 47 = .ok (.invokestatic 52, 3) := by decide +kernel
theorem dX9_set_50 : decode cX9_set 50 = .ok (.ifCond .ne 7, 3) := by decide +kernel
theorem dX9_set_53 : decode cX9_set 53 = .ok (.sipush (-1002), 3) := by decide +kernel
theorem dX9_set_56 : decode cX9_set 56 = .ok (.ireturn, 1) := by decide +kernel
theorem dX9_set_57 : decode cX9_set 57 = .ok (.aload 4, 2) := by decide +kernel
theorem dX9_set_59 : decode cX9_set 59 = .ok (.getfield 109, 3) := by decide +kernel
theorem dX9_set_62 : decode cX9_set 62 = .ok (.iload_n 2, 1) := by decide +kernel
theorem dX9_set_63 : decode cX9_set 63 = .ok (.iload_n 3, 1) := by decide +kernel
theorem dX9_set_64 : decode cX9_set 64 = .ok (.iastore, 1) := by decide +kernel
theorem dX9_set_65 : decode cX9_set 65 = .ok (.aload_n 0, 1) := by decide +kernel
theorem dX9_set_66 : decode cX9_set 66 = .ok (.getfield 19, 3) := by decide +kernel
theorem dX9_set_69 : decode cX9_set 69 = .ok (.aload_n 0, 1) := by decide +kernel
theorem dX9_set_70 : decode cX9_set 70 = .ok (.getfield 12, 3) := by decide +kernel
theorem dX9_set_73 : decode cX9_set 73 = .ok (.iload_n 1, 1) := by decide +kernel
theorem dX9_set_74 : decode cX9_set 74 = .ok (.invokevirtual 68, 3) := by decide +kernel
theorem dX9_set_77 : decode cX9_set 77 = .ok (.aload 4, 2) := by decide +kernel
theorem dX9_set_79 : decode cX9_set 79 = .ok (.getfield 86, 3) := by decide +kernel
theorem dX9_set_82 : decode cX9_set 82 = .ok (.aload 4, 2) := by decide +kernel
theorem dX9_set_84 : decode cX9_set 84 = .ok (.getfield 91, 3) := by decide +kernel
theorem dX9_set_87 : decode cX9_set 87 = .ok (.invokevirtual 78, 3) := by decide +kernel
theorem dX9_set_90 : decode cX9_set 90 = .ok (.ireturn, 1) := by decide +kernel
theorem dX9_setRange_0 : decode cX9_setRange 0 = .ok (.aload_n 0, 1) := by decide +kernel
theorem dX9_setRange_1 : decode cX9_setRange 1 = .ok (.getfield 12, 3) := by decide +kernel
theorem dX9_setRange_4 : decode cX9_setRange 4 = .ok (.iload_n 1, 1) := by decide +kernel
theorem dX9_setRange_5 : decode cX9_setRange 5 = .ok (.invokevirtual 64, 3) := by decide +kernel
theorem dX9_setRange_8 : decode cX9_setRange 8 = .ok (.ifCond .ne 7, 3) := by decide +kernel
theorem dX9_setRange_11 : decode cX9_setRange 11 = .ok (.sipush (-1001), 3) := by decide +kernel
theorem dX9_setRange_14 : decode cX9_setRange 14 = .ok (.ireturn, 1) := by decide +kernel
theorem dX9_setRange_15 : decode cX9_setRange 15 = .ok (.iload_n 2, 1) := by decide +kernel
theorem dX9_setRange_16 : decode cX9_setRange 16 = .ok (.invokestatic 112, 3) := by decide +kernel
theorem dX9_setRange_19 : decode cX9_setRange 19 = .ok (.ifCond .eq 13, 3) := by decide +kernel
theorem dX9_setRange_22 : decode cX9_setRange 22 = .ok (.iload_n 3, 1) := by decide +kernel
theorem dX9_setRange_23 : decode cX9_setRange 23 = .ok (.iload_n 2, 1) := by decide +kernel
theorem dX9_setRange_24 : decode cX9_setRange 24 = .ok (.bipush 99, 2) := by decide +kernel
theorem dX9_setRange_26 : decode cX9_setRange 26 = .ok (.invokestatic 52, 3) := by decide +kernel
theorem dX9_setRange_29 : decode cX9_setRange 29 = .ok (.ifCond .ne 7, 3) := by decide +kernel
theorem dX9_setRange_32 : decode cX9_setRange 32 = .ok (.sipush (-1002), 3) := by decide +kernel
theorem dX9_setRange_35 : decode cX9_setRange 35 = .ok (.ireturn, 1) := by decide +kernel
theorem dX9_setRange_36 : decode cX9_setRange 36 = .ok (.aload_n 0, 1) := by decide +kernel
theorem dX9_setRange_37 : decode cX9_setRange 37 = .ok (.getfield 12, 3) := by decide +kernel
theorem dX9_setRange_40 : decode cX9_setRange 40 = .ok (.getfield 82, 3) := by decide +kernel
theorem dX9_setRange_43 : decode cX9_setRange 43 = .ok (.iload_n 1, 1) := by decide +kernel
theorem dX9_setRange_44 : decode cX9_setRange 44 = .ok (.aaload, 1) := by decide +kernel
theorem dX9_setRange_45 : decode cX9_setRange 45 = .ok (.astore 4, 2) := by decide +kernel
theorem dX9_setRange_47 : decode cX9_setRange 47 = .ok (.aload 4, 2) := by decide +kernel
theorem dX9_setRange_49 : decode cX9_setRange 49 = .ok (.getfield 86, 3) := by decide +kernel
theorem dX9_setRange_52 : decode cX9_setRange 52 = .ok (.istore 5, 2) := by decide +kernel
theorem dX9_setRange_54 : decode cX9_setRange 54 = .ok (.aload 4, 2) := by decide +kernel
theorem dX9_setRange_56 : decode cX9_setRange 56 = .ok (.getfield 91, 3) := by decide +kernel
theorem dX9_setRange_59 : decode cX9_setRange 59 = .ok (.istore 6, 2) := by decide +kernel
theorem dX9_setRange_61 : decode cX9_setRange 61 = .ok (.aload 4, 2) := by decide +kernel
theorem dX9_setRange_63 : decode cX9_setRange 63 = .ok (.iload_n 2, 1) := by decide +kernel
theorem dX9_setRange_64 : decode cX9_setRange 64 = .ok (.putfield 86, 3) := by decide +kernel
theorem dX9_setRange_67 : decode cX9_setRange 67 = .ok (.aload 4, 2) := by decide +kernel
theorem dX9_setRange_69 : decode cX9_setRange 69 = .ok (.iload_n 3, 1) := by decide +kernel
theorem dX9_setRange_70 : decode cX9_setRange 70 = .ok (.putfield 91, 3) := by decide +kernel
theorem dX9_setRange_73 : decode cX9_setRange 73 = .ok (.aload_n 0, 1) := by decide +kernel
theorem dX9_setRange_74 : decode cX9_setRange 74 = .ok (.getfield 19, 3) := by decide +kernel
theorem dX9_setRange_77 : decode cX9_setRange 77 = .ok (.aload_n 0, 1) := by decide +kernel
theorem dX9_setRange_78 : decode cX9_setRange 78 = .ok (.getfield 12, 3) := by decide +kernel
theorem dX9_setRange_81 : decode cX9_setRange 81 = .ok (.iload_n 1, 1) := by decide +kernel
theorem dX9_setRange_82 : decode cX9_setRange 82 = .ok (.invokevirtual 68, 3) := by decide +kernel
theorem dX9_setRange_85 : decode cX9_setRange 85 = .ok (.iload 5, 2) := by decide +kernel
theorem dX9_setRange_87 : decode cX9_setRange 87 = .ok (.iload 6, 2) := by decide +kernel
theorem dX9_setRange_89 : decode cX9_setRange 89 = .ok (.iload_n 2, 1) := by decide +kernel
theorem dX9_setRange_90 : decode cX9_setRange 90 = .ok (.iload_n 3, 1) := by decide +kernel
theorem dX9_setRange_91 : decode cX9_setRange 91 = .ok (.invokevirtual 115, 3) := by decide +kernel
theorem dX9_setRange_94 : decode cX9_setRange 94 = .ok (.ireturn, 1) := by decide +kernel
theorem dX9_setRoom_0 : decode cX9_setRoom 0 = .ok (.iload_n 1, 1) := by decide +kernel
theorem dX9_setRoom_1 : decode cX9_setRoom 1 = .ok (.bipush 12, 2) := by decide +kernel
theorem dX9_setRoom_3 : decode cX9_setRoom 3 = .ok (.bipush 48, 2) := by decide +kernel
theorem dX9_setRoom_5 : decode cX9_setRoom 5 = .ok (.invokestatic 52, 3) := by decide +kernel
theorem dX9_setRoom_8 : decode cX9_setRoom 8 = .ok (.ifCond .ne 7, 3) := by decide +kernel
theorem dX9_setRoom_11 : decode cX9_setRoom 11 = .ok (.sipush (-1002), 3) := by decide +kernel
theorem dX9_setRoom_14 : decode cX9_setRoom 14 = .ok (.ireturn, 1) := by decide +kernel
theorem dX9_setRoom_15 : decode cX9_setRoom 15 = .ok (.aload_n 0, 1) := by decide +kernel
theorem dX9_setRoom_16 : decode cX9_setRoom 16 = .ok (.getfield 19, 3) := by decide +kernel
theorem dX9_setRoom_19 : decode cX9_setRoom 19 = .ok (.getfield 163, 3) := by decide +kernel
theorem dX9_setRoom_22 : decode cX9_setRoom 22 = .ok (.istore_n 2, 1) := by decide +kernel
theorem dX9_setRoom_23 : decode cX9_setRoom 23 = .ok (.aload_n 0, 1) := by decide +kernel
theorem dX9_setRoom_24 : decode cX9_setRoom 24 = .ok (.getfield 19, 3) := by decide +kernel
theorem dX9_setRoom_27 : decode cX9_setRoom 27 = .ok (.iload_n 1, 1) := by decide +kernel
theorem dX9_setRoom_28 : decode cX9_setRoom 28 = .ok (.invokevirtual 166, 3) := by decide +kernel
theorem dX9_setRoom_31 : decode cX9_setRoom 31 = .ok (.iload_n 2, 1) := by decide +kernel
theorem dX9_setRoom_32 : decode cX9_setRoom 32 = .ok (.ireturn, 1) := by decide +kernel
theorem dX9_sum_0 : decode cX9_sum 0 = .ok (.aload_n 0, 1) := by decide +kernel
theorem dX9_sum_1 : decode cX9_sum 1 = .ok (.getfield 12, 3) := by decide +kernel
theorem dX9_sum_4 : decode cX9_sum 4 = .ok (.iload_n 1, 1) := by decide +kernel
theorem dX9_sum_5 : decode cX9_sum 5 = .ok (.invokevirtual 64, 3) := by decide +kernel
theorem dX9_sum_8 : decode cX9_sum 8 = .ok (.ifCond .eq 17, 3) := by decide +kernel
theorem dX9_sum_11 : decode cX9_sum 11 = .ok (.iload_n 2, 1) := by decide +kernel
theorem dX9_sum_12 : decode cX9_sum 12 = .ok (.invokestatic 112, 3) := by decide +kernel
theorem dX9_sum_15 : decode cX9_sum 15 = .ok (.ifCond .eq 10, 3) := by decide +kernel
theorem dX9_sum_18 : decode cX9_sum 18 = .ok (.iload_n 3, 1) := by decide +kernel
theorem dX9_sum_19 : decode cX9_sum 19 = .ok (.invokestatic 133, 3) := by decide +kernel
theorem dX9_sum_22 : decode cX9_sum 22 = .ok (.ifCond .ne 7, 3) := by decide +kernel
theorem dX9_sum_25 : decode cX9_sum 25 = .ok (.sipush (-1001), 3) := by decide +kernel
theorem dX9_sum_28 : decode cX9_sum 28 = .ok (.ireturn, 1) := by decide +kernel
theorem dX9_sum_29 : decode cX9_sum 29 = .ok (.iload 4, 2) := by decide +kernel
theorem dX9_sum_31 : decode cX9_sum 31 = .ok (.iconst 0, 1) := by decide +kernel
theorem dX9_sum_32 : decode cX9_sum 32 = .ok (.iconst 3, 1) := by decide +kernel
theorem dX9_sum_33 : decode cX9_sum 33 = .ok (.invokestatic 52, 3) := by decide +kernel
theorem dX9_sum_36 : decode cX9_sum 36 = .ok (.ifCond .ne 7, 3) := by decide +kernel
theorem dX9_sum_39 : decode cX9_sum 39 = .ok (.sipush (-1002), 3) := by decide +kernel
theorem dX9_sum_42 : decode cX9_sum 42 = .ok (.ireturn, 1) := by decide +kernel
theorem dX9_sum_43 : decode cX9_sum 43 = .ok (.aload_n 0, 1) := by decide +kernel
theorem dX9_sum_44 : decode cX9_sum 44 = .ok (.iload_n 1, 1) := by decide +kernel
theorem dX9_sum_45 : decode cX9_sum 45 = .ok (.iload_n 2, 1) := by decide +kernel
theorem dX9_sum_46 : decode cX9_sum 46 = .ok (.iconst 0, 1) := by decide +kernel
theorem dX9_sum_47 : decode cX9_sum 47 = .ok (.invokevirtual 136, 3) := by decide +kernel
theorem dX9_sum_50 : decode cX9_sum 50 = .ok (.astore 5, 2) := by decide +kernel
theorem dX9_sum_52 : decode cX9_sum 52 = .ok (.iload 4, 2) := by decide +kernel
theorem dX9_sum_54 : decode cX9_sum 54 = .ok (.tableswitch 47 0 2 #[26, 33, 40], 26) := by decide +kernel
theorem dX9_sum_80 : decode cX9_sum 80 = .ok (.aload 5, 2) := by decide +kernel
theorem dX9_sum_82 : decode cX9_sum 82 = .ok (.iload_n 3, 1) := by decide +kernel
theorem dX9_sum_83 : decode cX9_sum 83 = .ok (.invokestatic 146, 3) := by decide +kernel
theorem dX9_sum_86 : decode cX9_sum 86 = .ok (.ireturn, 1) := by decide +kernel
theorem dX9_sum_87 : decode cX9_sum 87 = .ok (.aload 5, 2) := by decide +kernel
theorem dX9_sum_89 : decode cX9_sum 89 = .ok (.iload_n 3, 1) := by decide +kernel
theorem dX9_sum_90 : decode cX9_sum 90 = .ok (.invokestatic 150, 3) := by decide +kernel
theorem dX9_sum_93 : decode cX9_sum 93 = .ok (.ireturn, 1) := by decide +kernel
theorem dX9_sum_94 : decode cX9_sum 94 = .ok (.aload 5, 2) := by decide +kernel
theorem dX9_sum_96 : decode cX9_sum 96 = .ok (.iload_n 3, 1) := by decide +kernel
theorem dX9_sum_97 : decode cX9_sum 97 = .ok (.invokestatic 153, 3) := by decide +kernel
theorem dX9_sum_100 : decode cX9_sum 100 = .ok (.ireturn, 1) := by decide +kernel
theorem dX9_sum_101 : decode cX9_sum 101 = .ok (.aload 5, 2) := by decide +kernel
theorem dX9_sum_103 : decode cX9_sum 103 = .ok (.iload_n 3, 1) := by decide +kernel
theorem dX9_sum_104 : decode cX9_sum 104 = .ok (.invokestatic 156, 3) := by decide +kernel
theorem dX9_sum_107 : decode cX9_sum 107 = .ok (.ireturn, 1) := by decide +kernel
theorem dX9_value_0 : decode cX9_value 0 = .ok (.iload_n 3, 1) := by decide +kernel
theorem dX9_value_1 : decode cX9_value 1 = .ok (.iconst 0, 1) := by decide +kernel
theorem dX9_value_2 : decode cX9_value 2 = .ok (.bipush 7, 2) := by decide +kernel
theorem dX9_value_4 : decode cX9_value 4 = .ok (.invokestatic 52, 3) := by decide +kernel
theorem dX9_value_7 : decode cX9_value 7 = .ok (.ifCond .eq 25, 3) := by decide +kernel
theorem dX9_value_10 : decode cX9_value 10 = .ok (.iload 4, 2) := by decide +kernel
theorem dX9_value_12 : decode cX9_value 12 = .ok (.iconst 0, 1) := by decide +kernel
theorem dX9_value_13 : decode cX9_value 13 = .ok (.iconst 3, 1) := by decide +kernel
theorem dX9_value_14 : decode cX9_value 14 = .ok (.invokestatic 52, 3) := by decide +kernel
theorem dX9_value_17 : decode cX9_value 17 = .ok (.ifCond .eq 15, 3) := by decide +kernel
theorem dX9_value_20 : decode cX9_value 20 = .ok (.iload 5, 2) := by decide +kernel
theorem dX9_value_22 : decode cX9_value 22 = .ok (.invokestatic 133, 3) := by decide +kernel
theorem dX9_value_25 : decode cX9_value 25 = .ok (.ifCond .eq 7, 3) := by decide +kernel
theorem dX9_value_28 : decode cX9_value 28 = .ok (.iconst 1, 1) := by decide +kernel
theorem dX9_value_29 : decode cX9_value 29 = .ok (.goto 4, 3) := by decide +kernel
theorem dX9_value_32 : decode cX9_value 32 = .ok (.iconst 0, 1) := by decide +kernel
theorem dX9_value_33 : decode cX9_value 33 = .ok (.istore 6, 2) := by decide +kernel
theorem dX9_value_35 : decode cX9_value 35 = .ok (.aload_n 0, 1) := by decide +kernel
theorem dX9_value_36 : decode cX9_value 36 = .ok (.getfield 12, 3) := by decide +kernel
theorem dX9_value_39 : decode cX9_value 39 = .ok (.iload_n 1, 1) := by decide +kernel
theorem dX9_value_40 : decode cX9_value 40 = .ok (.invokevirtual 64, 3) := by decide +kernel
theorem dX9_value_43 : decode cX9_value 43 = .ok (.ifCond .eq 15, 3) := by decide +kernel
theorem dX9_value_46 : decode cX9_value 46 = .ok (.iload_n 2, 1) := by decide +kernel
theorem dX9_value_47 : decode cX9_value 47 = .ok (.invokestatic 112, 3) := by decide +kernel
theorem dX9_value_50 : decode cX9_value 50 = .ok (.ifCond .eq 8, 3) := by decide +kernel
theorem dX9_value_53 : decode cX9_value 53 = .ok (.iload 6, 2) := by decide +kernel
theorem dX9_value_55 : decode cX9_value 55 = .ok (.ifCond .ne 7, 3) := by decide +kernel
theorem dX9_value_58 : decode cX9_value 58 = .ok (.sipush (-1001), 3) := by decide +kernel
theorem dX9_value_61 : decode cX9_value 61 = .ok (.ireturn, 1) := by decide +kernel
theorem dX9_value_62 : decode cX9_value 62 = .ok (.aload_n 0, 1) := by decide +kernel
theorem dX9_value_63 : decode cX9_value 63 = .ok (.iload_n 1, 1) := by decide +kernel
theorem dX9_value_64 : decode cX9_value 64 = .ok (.iload_n 2, 1) := by decide +kernel
theorem dX9_value_65 : decode cX9_value 65 = .ok (.iconst 0, 1) := by decide +kernel
theorem dX9_value_66 : decode cX9_value 66 = .ok (.invokevirtual 136, 3) := by decide +kernel
theorem dX9_value_69 : decode cX9_value 69 = .ok (.iload 5, 2) := by decide +kernel
theorem dX9_value_71 : decode cX9_value 71 = .ok (.bipush 32, 2) := by decide +kernel
theorem dX9_value_73 : decode cX9_value 73 = .ok (.imul, 1) := by decide +kernel
theorem dX9_value_74 : decode cX9_value 74 = .ok (.iload 4, 2) := by decide +kernel
theorem dX9_value_76 : decode cX9_value 76 = .ok (.bipush 8, 2) := by decide +kernel
theorem dX9_value_78 : decode cX9_value 78 = .ok (.imul, 1) := by decide +kernel
theorem dX9_value_79 : decode cX9_value 79 = .ok (.iadd, 1) := by decide +kernel
theorem dX9_value_80 : decode cX9_value 80 = .ok (.iload_n 3, 1) := by decide +kernel
theorem dX9_value_81 : decode cX9_value 81 = .ok (.iadd, 1) := by decide +kernel
theorem dX9_value_82 : decode cX9_value 82 = .ok (.iaload, 1) := by decide +kernel
theorem dX9_value_83 : decode cX9_value 83 = .ok (.ireturn, 1) := by decide +kernel

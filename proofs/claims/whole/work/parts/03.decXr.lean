theorem dJ0_length_8abf5_0 : decode cJ0_length_8abf5 0 = .ok (.aload_n 0, 1) := by decide +kernel
theorem dJ0_length_8abf5_1 : decode cJ0_length_8abf5 1 = .ok (.getfield 9, 3) := by decide +kernel
theorem dJ0_length_8abf5_4 : decode cJ0_length_8abf5 4 = .ok (.arraylength, 1) := by decide +kernel
theorem dJ0_length_8abf5_5 : decode cJ0_length_8abf5 5 = .ok (.aload_n 0, 1) := by decide +kernel
theorem dJ0_length_8abf5_6 : decode cJ0_length_8abf5 6 = .ok (.invokevirtual 335, 3) := by decide +kernel
theorem dJ0_length_8abf5_9 : decode cJ0_length_8abf5 9 = .ok (.ishr, 1) := by decide +kernel
theorem dJ0_length_8abf5_10 : decode cJ0_length_8abf5 10 = .ok (.ireturn, 1) := by decide +kernel
theorem dJ0_charAt_5068e_0 : decode cJ0_charAt_5068e 0 = .ok (.aload_n 0, 1) := by decide +kernel
theorem dJ0_charAt_5068e_1 : decode cJ0_charAt_5068e 1 = .ok (.invokevirtual 492, 3) := by decide +kernel
theorem dJ0_charAt_5068e_4 : decode cJ0_charAt_5068e 4 = .ok (.ifCond .eq 12, 3) := by decide +kernel
theorem dJ0_charAt_5068e_7 : decode cJ0_charAt_5068e 7 = .ok (.aload_n 0, 1) := by decide +kernel
theorem dJ0_charAt_5068e_8 : decode cJ0_charAt_5068e 8 = .ok (.getfield 9, 3) := by decide +kernel
theorem dJ0_charAt_5068e_11 : decode cJ0_charAt_5068e 11 = .ok (.iload_n 1, 1) := by decide +kernel
theorem dJ0_charAt_5068e_12 : decode cJ0_charAt_5068e 12 = .ok (.invokestatic 495, 3) := by decide +kernel
theorem dJ0_charAt_5068e_15 : decode cJ0_charAt_5068e 15 = .ok (.ireturn, 1) := by decide +kernel
theorem dJ0_charAt_5068e_16 : decode cJ0_charAt_5068e 16 = .ok (.aload_n 0, 1) := by decide +kernel
theorem dJ0_charAt_5068e_17 : decode cJ0_charAt_5068e 17 = .ok (.getfield 9, 3) := by decide +kernel
theorem dJ0_charAt_5068e_20 : decode cJ0_charAt_5068e 20 = .ok (.iload_n 1, 1) := by decide +kernel
theorem dJ0_charAt_5068e_21 : decode cJ0_charAt_5068e 21 = .ok (.invokestatic 498, 3) := by decide +kernel
theorem dJ0_charAt_5068e_24 : decode cJ0_charAt_5068e 24 = .ok (.ireturn, 1) := by decide +kernel
theorem dJ0_coder_7d493_0 : decode cJ0_coder_7d493 0 = .ok (.getstatic 38, 3) := by decide +kernel
theorem dJ0_coder_7d493_3 : decode cJ0_coder_7d493 3 = .ok (.ifCond .eq 10, 3) := by decide +kernel
theorem dJ0_coder_7d493_6 : decode cJ0_coder_7d493 6 = .ok (.aload_n 0, 1) := by decide +kernel
theorem dJ0_coder_7d493_7 : decode cJ0_coder_7d493 7 = .ok (.getfield 15, 3) := by decide +kernel
theorem dJ0_coder_7d493_10 : decode cJ0_coder_7d493 10 = .ok (.goto 4, 3) := by decide +kernel
theorem dJ0_coder_7d493_13 : decode cJ0_coder_7d493 13 = .ok (.iconst 1, 1) := by decide +kernel
theorem dJ0_coder_7d493_14 : decode cJ0_coder_7d493 14 = .ok (.ireturn, 1) := by decide +kernel
theorem dJ0_isLatin1_aae02_0 : decode cJ0_isLatin1_aae02 0 = .ok (.getstatic 38, 3) := by decide +kernel
theorem dJ0_isLatin1_aae02_3 : decode cJ0_isLatin1_aae02 3 = .ok (.ifCond .eq 14, 3) := by decide +kernel
theorem dJ0_isLatin1_aae02_6 : decode cJ0_isLatin1_aae02 6 = .ok (.aload_n 0, 1) := by decide +kernel
theorem dJ0_isLatin1_aae02_7 : decode cJ0_isLatin1_aae02 7 = .ok (.getfield 15, 3) := by decide +kernel
theorem dJ0_isLatin1_aae02_10 : decode cJ0_isLatin1_aae02 10 = .ok (.ifCond .ne 7, 3) := by decide +kernel
theorem dJ0_isLatin1_aae02_13 : decode cJ0_isLatin1_aae02 13 = .ok (.iconst 1, 1) := by decide +kernel
theorem dJ0_isLatin1_aae02_14 : decode cJ0_isLatin1_aae02 14 = .ok (.goto 4, 3) := by decide +kernel
theorem dJ0_isLatin1_aae02_17 : decode cJ0_isLatin1_aae02 17 = .ok (.iconst 0, 1) := by decide +kernel
theorem dJ0_isLatin1_aae02_18 : decode cJ0_isLatin1_aae02 18 = .ok (.ireturn, 1) := by decide +kernel
theorem dJ0_checkIndex_df160_0 : decode cJ0_checkIndex_df160 0 = .ok (.iload_n 0, 1) := by decide +kernel
theorem dJ0_checkIndex_df160_1 : decode cJ0_checkIndex_df160 1 = .ok (.iload_n 1, 1) := by decide +kernel
theorem dJ0_checkIndex_df160_2 : decode cJ0_checkIndex_df160 2 = .ok (.getstatic 1053, 3) := by decide +kernel
theorem dJ0_checkIndex_df160_5 : decode cJ0_checkIndex_df160 5 = .ok (.invokestatic 1059, 3) := by decide +kernel
theorem dJ0_checkIndex_df160_8 : decode cJ0_checkIndex_df160 8 = .ok (.pop, 1) := by decide +kernel
theorem dJ0_checkIndex_df160_9 : decode cJ0_checkIndex_df160 9 = .ok (.return_, 1) := by decide +kernel
theorem dJ1_charAt_3b067_0 : decode cJ1_charAt_3b067 0 = .ok (.iload_n 1, 1) := by decide +kernel
theorem dJ1_charAt_3b067_1 : decode cJ1_charAt_3b067 1 = .ok (.aload_n 0, 1) := by decide +kernel
theorem dJ1_charAt_3b067_2 : decode cJ1_charAt_3b067 2 = .ok (.arraylength, 1) := by decide +kernel
theorem dJ1_charAt_3b067_3 : decode cJ1_charAt_3b067 3 = .ok (.invokestatic 9, 3) := by decide +kernel
theorem dJ1_charAt_3b067_6 : decode cJ1_charAt_3b067 6 = .ok (.aload_n 0, 1) := by decide +kernel
theorem dJ1_charAt_3b067_7 : decode cJ1_charAt_3b067 7 = .ok (.iload_n 1, 1) := by decide +kernel
theorem dJ1_charAt_3b067_8 : decode cJ1_charAt_3b067 8 = .ok (.baload, 1) := by decide +kernel
theorem dJ1_charAt_3b067_9 : decode cJ1_charAt_3b067 9 = .ok (.sipush 255, 3) := by decide +kernel
theorem dJ1_charAt_3b067_12 : decode cJ1_charAt_3b067 12 = .ok (.iand, 1) := by decide +kernel
theorem dJ1_charAt_3b067_13 : decode cJ1_charAt_3b067 13 = .ok (.i2c, 1) := by decide +kernel
theorem dJ1_charAt_3b067_14 : decode cJ1_charAt_3b067 14 = .ok (.ireturn, 1) := by decide +kernel
theorem dJ2_getChar_3b067_0 : decode cJ2_getChar_3b067 0 = .ok (.getstatic 44, 3) := by decide +kernel
theorem dJ2_getChar_3b067_3 : decode cJ2_getChar_3b067 3 = .ok (.ifCond .ne 25, 3) := by decide +kernel
theorem dJ2_getChar_3b067_6 : decode cJ2_getChar_3b067 6 = .ok (.iload_n 1, 1) := by decide +kernel
theorem dJ2_getChar_3b067_7 : decode cJ2_getChar_3b067 7 = .ok (.ifCond .lt 11, 3) := by decide +kernel
theorem dJ2_getChar_3b067_10 : decode cJ2_getChar_3b067 10 = .ok (.iload_n 1, 1) := by decide +kernel
theorem dJ2_getChar_3b067_11 : decode cJ2_getChar_3b067 11 = .ok (.aload_n 0, 1) := by decide +kernel
theorem dJ2_getChar_3b067_12 : decode cJ2_getChar_3b067 12 = .ok (.invokestatic 48, 3) := by decide +kernel
theorem dJ2_getChar_3b067_15 : decode cJ2_getChar_3b067 15 = .ok (.if_icmp .lt 13, 3) := by decide +kernel
theorem dJ2_getChar_3b067_18 : decode cJ2_getChar_3b067 18 = .ok (.new 52, 3) := by decide +kernel
theorem dJ2_getChar_3b067_21 : decode cJ2_getChar_3b067 21 = .ok (.dup, 1) := by decide +kernel
theorem dJ2_getChar_3b067_22 : decode cJ2_getChar_3b067 22 = .ok (.ldc 54, 2) := by decide +kernel
theorem dJ2_getChar_3b067_24 : decode cJ2_getChar_3b067 24 = .ok (.invokespecial 56, 3) := by decide +kernel
theorem dJ2_getChar_3b067_27 : decode cJ2_getChar_3b067 27 = .ok (.athrow, 1) := by decide +kernel
theorem dJ2_getChar_3b067_28 : decode cJ2_getChar_3b067 28 = .ok (.iload_n 1, 1) := by decide +kernel
theorem dJ2_getChar_3b067_29 : decode cJ2_getChar_3b067 29 = .ok (.iconst 1, 1) := by decide +kernel
theorem dJ2_getChar_3b067_30 : decode cJ2_getChar_3b067 30 = .ok (.ishl, 1) := by decide +kernel
theorem dJ2_getChar_3b067_31 : decode cJ2_getChar_3b067 31 = .ok (.istore_n 1, 1) := by decide +kernel
theorem dJ2_getChar_3b067_32 : decode cJ2_getChar_3b067 32 = .ok (.aload_n 0, 1) := by decide +kernel
theorem dJ2_getChar_3b067_33 : decode cJ2_getChar_3b067 33 = .ok (.iload_n 1, 1) := by decide +kernel
theorem dJ2_getChar_3b067_34 : decode cJ2_getChar_3b067 34 = .ok (.iinc 1 1, 3) := by decide +kernel
theorem dJ2_getChar_3b067_37 : decode cJ2_getChar_3b067 37 = .ok (.baload, 1) := by decide +kernel
theorem dJ2_getChar_3b067_38 : decode cJ2_getChar_3b067 38 = .ok (.sipush 255, 3) := by decide +kernel
theorem dJ2_getChar_3b067_41 : decode cJ2_getChar_3b067 41 = .ok (.iand, 1) := by decide +kernel
theorem dJ2_getChar_3b067_42 : decode cJ2_getChar_3b067 42 = .ok (.getstatic 59, 3) := by decide +kernel
theorem dJ2_getChar_3b067_45 : decode cJ2_getChar_3b067 45 = .ok (.ishl, 1) := by decide +kernel
theorem dJ2_getChar_3b067_46 : decode cJ2_getChar_3b067 46 = .ok (.aload_n 0, 1) := by decide +kernel
theorem dJ2_getChar_3b067_47 : decode cJ2_getChar_3b067 47 = .ok (.iload_n 1, 1) := by decide +kernel
theorem dJ2_getChar_3b067_48 : decode cJ2_getChar_3b067 48 = .ok (.baload, 1) := by decide +kernel
theorem dJ2_getChar_3b067_49 : decode cJ2_getChar_3b067 49 = .ok (.sipush 255, 3) := by decide +kernel
theorem dJ2_getChar_3b067_52 : decode cJ2_getChar_3b067 52 = .ok (.iand, 1) := by decide +kernel
theorem dJ2_getChar_3b067_53 : decode cJ2_getChar_3b067 53 = .ok (.getstatic 63, 3) := by decide +kernel
theorem dJ2_getChar_3b067_56 : decode cJ2_getChar_3b067 56 = .ok (.ishl, 1) := by decide +kernel
theorem dJ2_getChar_3b067_57 : decode cJ2_getChar_3b067 57 = .ok (.ior, 1) := by decide +kernel
theorem dJ2_getChar_3b067_58 : decode cJ2_getChar_3b067 58 = .ok (.i2c, 1) := by decide +kernel
theorem dJ2_getChar_3b067_59 : decode cJ2_getChar_3b067 59 = .ok (.ireturn, 1) := by decide +kernel
theorem dJ2_length_9d52b_0 : decode cJ2_length_9d52b 0 = .ok (.aload_n 0, 1) := by decide +kernel
theorem dJ2_length_9d52b_1 : decode cJ2_length_9d52b 1 = .ok (.arraylength, 1) := by decide +kernel
theorem dJ2_length_9d52b_2 : decode cJ2_length_9d52b 2 = .ok (.iconst 1, 1) := by decide +kernel
theorem dJ2_length_9d52b_3 : decode cJ2_length_9d52b 3 = .ok (.ishr, 1) := by decide +kernel
theorem dJ2_length_9d52b_4 : decode cJ2_length_9d52b 4 = .ok (.ireturn, 1) := by decide +kernel
theorem dJ2_charAt_3b067_0 : decode cJ2_charAt_3b067 0 = .ok (.iload_n 1, 1) := by decide +kernel
theorem dJ2_charAt_3b067_1 : decode cJ2_charAt_3b067 1 = .ok (.aload_n 0, 1) := by decide +kernel
theorem dJ2_charAt_3b067_2 : decode cJ2_charAt_3b067 2 = .ok (.invokestatic 67, 3) := by decide +kernel
theorem dJ2_charAt_3b067_5 : decode cJ2_charAt_3b067 5 = .ok (.aload_n 0, 1) := by decide +kernel
theorem dJ2_charAt_3b067_6 : decode cJ2_charAt_3b067 6 = .ok (.iload_n 1, 1) := by decide +kernel
theorem dJ2_charAt_3b067_7 : decode cJ2_charAt_3b067 7 = .ok (.invokestatic 71, 3) := by decide +kernel
theorem dJ2_charAt_3b067_10 : decode cJ2_charAt_3b067 10 = .ok (.ireturn, 1) := by decide +kernel
theorem dJ2_checkIndex_2214a_0 : decode cJ2_checkIndex_2214a 0 = .ok (.iload_n 0, 1) := by decide +kernel
theorem dJ2_checkIndex_2214a_1 : decode cJ2_checkIndex_2214a 1 = .ok (.aload_n 1, 1) := by decide +kernel
theorem dJ2_checkIndex_2214a_2 : decode cJ2_checkIndex_2214a 2 = .ok (.invokestatic 48, 3) := by decide +kernel
theorem dJ2_checkIndex_2214a_5 : decode cJ2_checkIndex_2214a 5 = .ok (.invokestatic 414, 3) := by decide +kernel
theorem dJ2_checkIndex_2214a_8 : decode cJ2_checkIndex_2214a 8 = .ok (.return_, 1) := by decide +kernel
theorem dJ3_checkIndex_8e157_0 : decode cJ3_checkIndex_8e157 0 = .ok (.iload_n 0, 1) := by decide +kernel
theorem dJ3_checkIndex_8e157_1 : decode cJ3_checkIndex_8e157 1 = .ok (.ifCond .lt 8, 3) := by decide +kernel
theorem dJ3_checkIndex_8e157_4 : decode cJ3_checkIndex_8e157 4 = .ok (.iload_n 0, 1) := by decide +kernel
theorem dJ3_checkIndex_8e157_5 : decode cJ3_checkIndex_8e157 5 = .ok (.iload_n 1, 1) := by decide +kernel
theorem dJ3_checkIndex_8e157_6 : decode cJ3_checkIndex_8e157 6 = .ok (.if_icmp .lt 10, 3) := by decide +kernel
theorem dJ3_checkIndex_8e157_9 : decode cJ3_checkIndex_8e157 9 = .ok (.aload_n 2, 1) := by decide +kernel
theorem dJ3_checkIndex_8e157_10 : decode cJ3_checkIndex_8e157 10 = .ok (.iload_n 0, 1) := by decide +kernel
theorem dJ3_checkIndex_8e157_11 : decode cJ3_checkIndex_8e157 11 = .ok (.iload_n 1, 1) := by decide +kernel
theorem dJ3_checkIndex_8e157_12 : decode cJ3_checkIndex_8e157 12 = .ok (.invokestatic 95, 3) := by decide +kernel
theorem dJ3_checkIndex_8e157_15 : decode cJ3_checkIndex_8e157 15 = .ok (.athrow, 1) := by decide +kernel
theorem dJ3_checkIndex_8e157_16 : decode cJ3_checkIndex_8e157 16 = .ok (.iload_n 0, 1) := by decide +kernel
theorem dJ3_checkIndex_8e157_17 : decode cJ3_checkIndex_8e157 17 = .ok (.ireturn, 1) := by decide +kernel
theorem dJ6_bitCount_0f7a4_0 : decode cJ6_bitCount_0f7a4 0 = .ok (.iload_n 0, 1) := by decide +kernel
theorem dJ6_bitCount_0f7a4_1 : decode cJ6_bitCount_0f7a4 1 = .ok (.iload_n 0, 1) := by decide +kernel
theorem dJ6_bitCount_0f7a4_2 : decode cJ6_bitCount_0f7a4 2 = .ok (.iconst 1, 1) := by decide +kernel
theorem dJ6_bitCount_0f7a4_3 : decode cJ6_bitCount_0f7a4 3 = .ok (.iushr, 1) := by decide +kernel
theorem dJ6_bitCount_0f7a4_4 : decode cJ6_bitCount_0f7a4 4 = .ok (.ldc_w 265, 3) := by decide +kernel
theorem dJ6_bitCount_0f7a4_7 : decode cJ6_bitCount_0f7a4 7 = .ok (.iand, 1) := by decide +kernel
theorem dJ6_bitCount_0f7a4_8 : decode cJ6_bitCount_0f7a4 8 = .ok (.isub, 1) := by decide +kernel
theorem dJ6_bitCount_0f7a4_9 : decode cJ6_bitCount_0f7a4 9 = .ok (.istore_n 0, 1) := by decide +kernel
theorem dJ6_bitCount_0f7a4_10 : decode cJ6_bitCount_0f7a4 10 = .ok (.iload_n 0, 1) := by decide +kernel
theorem dJ6_bitCount_0f7a4_11 : decode cJ6_bitCount_0f7a4 11 = .ok (.ldc_w 266, 3) := by decide +kernel
theorem dJ6_bitCount_0f7a4_14 : decode cJ6_bitCount_0f7a4 14 = .ok (.iand, 1) := by decide +kernel
theorem dJ6_bitCount_0f7a4_15 : decode cJ6_bitCount_0f7a4 15 = .ok (.iload_n 0, 1) := by decide +kernel
theorem dJ6_bitCount_0f7a4_16 : decode cJ6_bitCount_0f7a4 16 = .ok (.iconst 2, 1) := by decide +kernel
theorem dJ6_bitCount_0f7a4_17 : decode cJ6_bitCount_0f7a4 17 = .ok (.iushr, 1) := by decide +kernel
theorem dJ6_bitCount_0f7a4_18 : decode cJ6_bitCount_0f7a4 18 = .ok (.ldc_w 266, 3) := by decide +kernel
theorem dJ6_bitCount_0f7a4_21 : decode cJ6_bitCount_0f7a4 21 = .ok (.iand, 1) := by decide +kernel
theorem dJ6_bitCount_0f7a4_22 : decode cJ6_bitCount_0f7a4 22 = .ok (.iadd, 1) := by decide +kernel
theorem dJ6_bitCount_0f7a4_23 : decode cJ6_bitCount_0f7a4 23 = .ok (.istore_n 0, 1) := by decide +kernel
theorem dJ6_bitCount_0f7a4_24 : decode cJ6_bitCount_0f7a4 24 = .ok (.iload_n 0, 1) := by decide +kernel
theorem dJ6_bitCount_0f7a4_25 : decode cJ6_bitCount_0f7a4 25 = .ok (.iload_n 0, 1) := by decide +kernel
theorem dJ6_bitCount_0f7a4_26 : decode cJ6_bitCount_0f7a4 26 = .ok (.iconst 4, 1) := by decide +kernel
theorem dJ6_bitCount_0f7a4_27 : decode cJ6_bitCount_0f7a4 27 = .ok (.iushr, 1) := by decide +kernel
theorem dJ6_bitCount_0f7a4_28 : decode cJ6_bitCount_0f7a4 28 = .ok (.iadd, 1) := by decide +kernel
theorem dJ6_bitCount_0f7a4_29 : decode cJ6_bitCount_0f7a4 29 = .ok (.ldc_w 267, 3) := by decide +kernel
theorem dJ6_bitCount_0f7a4_32 : decode cJ6_bitCount_0f7a4 32 = .ok (.iand, 1) := by decide +kernel
theorem dJ6_bitCount_0f7a4_33 : decode cJ6_bitCount_0f7a4 33 = .ok (.istore_n 0, 1) := by decide +kernel
theorem dJ6_bitCount_0f7a4_34 : decode cJ6_bitCount_0f7a4 34 = .ok (.iload_n 0, 1) := by decide +kernel
theorem dJ6_bitCount_0f7a4_35 : decode cJ6_bitCount_0f7a4 35 = .ok (.iload_n 0, 1) := by decide +kernel
theorem dJ6_bitCount_0f7a4_36 : decode cJ6_bitCount_0f7a4 36 = .ok (.bipush 8, 2) := by decide +kernel
theorem dJ6_bitCount_0f7a4_38 : decode cJ6_bitCount_0f7a4 38 = .ok (.iushr, 1) := by decide +kernel
theorem dJ6_bitCount_0f7a4_39 : decode cJ6_bitCount_0f7a4 39 = .ok (.iadd, 1) := by decide +kernel
theorem dJ6_bitCount_0f7a4_40 : decode cJ6_bitCount_0f7a4 40 = .ok (.istore_n 0, 1) := by decide +kernel
theorem dJ6_bitCount_0f7a4_41 : decode cJ6_bitCount_0f7a4 41 = .ok (.iload_n 0, 1) := by decide +kernel
theorem dJ6_bitCount_0f7a4_42 : decode cJ6_bitCount_0f7a4 42 = .ok (.iload_n 0, 1) := by decide +kernel
theorem dJ6_bitCount_0f7a4_43 : decode cJ6_bitCount_0f7a4 43 = .ok (.bipush 16, 2) := by decide +kernel
theorem dJ6_bitCount_0f7a4_45 : decode cJ6_bitCount_0f7a4 45 = .ok (.iushr, 1) := by decide +kernel
theorem dJ6_bitCount_0f7a4_46 : decode cJ6_bitCount_0f7a4 46 = .ok (.iadd, 1) := by decide +kernel
theorem dJ6_bitCount_0f7a4_47 : decode cJ6_bitCount_0f7a4 47 = .ok (.istore_n 0, 1) := by decide +kernel
theorem dJ6_bitCount_0f7a4_48 : decode cJ6_bitCount_0f7a4 48 = .ok (.iload_n 0, 1) := by decide +kernel
theorem dJ6_bitCount_0f7a4_49 : decode cJ6_bitCount_0f7a4 49 = .ok (.bipush 63, 2) := by decide +kernel
theorem dJ6_bitCount_0f7a4_51 : decode cJ6_bitCount_0f7a4 51 = .ok (.iand, 1) := by decide +kernel
theorem dJ6_bitCount_0f7a4_52 : decode cJ6_bitCount_0f7a4 52 = .ok (.ireturn, 1) := by decide +kernel
theorem dJ9_max_7cf53_0 : decode cJ9_max_7cf53 0 = .ok (.iload_n 0, 1) := by decide +kernel
theorem dJ9_max_7cf53_1 : decode cJ9_max_7cf53 1 = .ok (.iload_n 1, 1) := by decide +kernel
theorem dJ9_max_7cf53_2 : decode cJ9_max_7cf53 2 = .ok (.if_icmp .lt 7, 3) := by decide +kernel
theorem dJ9_max_7cf53_5 : decode cJ9_max_7cf53 5 = .ok (.iload_n 0, 1) := by decide +kernel
theorem dJ9_max_7cf53_6 : decode cJ9_max_7cf53 6 = .ok (.goto 4, 3) := by decide +kernel
theorem dJ9_max_7cf53_9 : decode cJ9_max_7cf53 9 = .ok (.iload_n 1, 1) := by decide +kernel
theorem dJ9_max_7cf53_10 : decode cJ9_max_7cf53 10 = .ok (.ireturn, 1) := by decide +kernel
theorem dX0_init_0 : decode cX0_init 0 = .ok (.aload_n 0, 1) := by decide +kernel
theorem dX0_init_1 : decode cX0_init 1 = .ok (.invokespecial 1, 3) := by decide +kernel
theorem dX0_init_4 : decode cX0_init 4 = .ok (.aload_n 0, 1) := by decide +kernel
theorem dX0_init_5 : decode cX0_init 5 = .ok (.iload_n 1, 1) := by decide +kernel
theorem dX0_init_6 : decode cX0_init 6 = .ok (.iconst 1, 1) := by decide +kernel
theorem dX0_init_7 : decode cX0_init 7 = .ok (.invokestatic 7, 3) := by decide +kernel
theorem dX0_init_10 : decode cX0_init 10 = .ok (.anewarray 13, 3) := by decide +kernel
theorem dX0_init_13 : decode cX0_init 13 = .ok (.putfield 15, 3) := by decide +kernel
theorem dX0_init_16 : decode cX0_init 16 = .ok (.iconst 0, 1) := by decide +kernel
theorem dX0_init_17 : decode cX0_init 17 = .ok (.istore_n 2, 1) := by decide +kernel
theorem dX0_init_18 : decode cX0_init 18 = .ok (.iload_n 2, 1) := by decide +kernel
theorem dX0_init_19 : decode cX0_init 19 = .ok (.aload_n 0, 1) := by decide +kernel
theorem dX0_init_20 : decode cX0_init 20 = .ok (.getfield 15, 3) := by decide +kernel
theorem dX0_init_23 : decode cX0_init 23 = .ok (.arraylength, 1) := by decide +kernel
theorem dX0_init_24 : decode cX0_init 24 = .ok (.if_icmp .ge 22, 3) := by decide +kernel
theorem dX0_init_27 : decode cX0_init 27 = .ok (.aload_n 0, 1) := by decide +kernel
theorem dX0_init_28 : decode cX0_init 28 = .ok (.getfield 15, 3) := by decide +kernel
theorem dX0_init_31 : decode cX0_init 31 = .ok (.iload_n 2, 1) := by decide +kernel
theorem dX0_init_32 : decode cX0_init 32 = .ok (.new 13, 3) := by decide +kernel
theorem dX0_init_35 : decode cX0_init 35 = .ok (.dup, 1) := by decide +kernel
theorem dX0_init_36 : decode cX0_init 36 = .ok (.invokespecial 21, 3) := by decide +kernel
theorem dX0_init_39 : decode cX0_init 39 = .ok (.aastore, 1) := by decide +kernel
theorem dX0_init_40 : decode cX0_init 40 = .ok (.iinc 2 1, 3) := by decide +kernel
theorem dX0_init_43 : decode cX0_init 43 = .ok (.goto (-25), 3) := by decide +kernel
theorem dX0_init_46 : decode cX0_init 46 = .ok (.return_, 1) := by decide +kernel
theorem dX0_put_0 : decode cX0_put 0 = .ok (.aload_n 0, 1) := by decide +kernel
theorem dX0_put_1 : decode cX0_put 1 = .ok (.getfield 22, 3) := by decide +kernel
theorem dX0_put_4 : decode cX0_put 4 = .ok (.aload_n 0, 1) := by decide +kernel
theorem dX0_put_5 : decode cX0_put 5 = .ok (.getfield 15, 3) := by decide +kernel
theorem dX0_put_8 : decode cX0_put 8 = .ok (.arraylength, 1) := by decide +kernel
theorem dX0_put_9 : decode cX0_put 9 = .ok (.if_icmp .lt 7, 3) := by decide +kernel
theorem dX0_put_12 : decode cX0_put 12 = .ok (.aload_n 0, 1) := by decide +kernel
theorem dX0_put_13 : decode cX0_put 13 = .ok (.invokevirtual 26, 3) := by decide +kernel
theorem dX0_put_16 : decode cX0_put 16 = .ok (.aload_n 0, 1) := by decide +kernel
theorem dX0_put_17 : decode cX0_put 17 = .ok (.getfield 15, 3) := by decide +kernel
theorem dX0_put_20 : decode cX0_put 20 = .ok (.aload_n 0, 1) := by decide +kernel
theorem dX0_put_21 : decode cX0_put 21 = .ok (.getfield 22, 3) := by decide +kernel
theorem dX0_put_24 : decode cX0_put 24 = .ok (.aaload, 1) := by decide +kernel
theorem dX0_put_25 : decode cX0_put 25 = .ok (.aload_n 1, 1) := by decide +kernel
theorem dX0_put_26 : decode cX0_put 26 = .ok (.invokevirtual 29, 3) := by decide +kernel
theorem dX0_put_29 : decode cX0_put 29 = .ok (.aload_n 0, 1) := by decide +kernel
theorem dX0_put_30 : decode cX0_put 30 = .ok (.dup, 1) := by decide +kernel
theorem dX0_put_31 : decode cX0_put 31 = .ok (.getfield 22, 3) := by decide +kernel
theorem dX0_put_34 : decode cX0_put 34 = .ok (.iconst 1, 1) := by decide +kernel
theorem dX0_put_35 : decode cX0_put 35 = .ok (.iadd, 1) := by decide +kernel
theorem dX0_put_36 : decode cX0_put 36 = .ok (.putfield 22, 3) := by decide +kernel
theorem dX0_put_39 : decode cX0_put 39 = .ok (.return_, 1) := by decide +kernel
theorem dX0_loseOldest_0 : decode cX0_loseOldest 0 = .ok (.aload_n 0, 1) := by decide +kernel
theorem dX0_loseOldest_1 : decode cX0_loseOldest 1 = .ok (.getfield 15, 3) := by decide +kernel
theorem dX0_loseOldest_4 : decode cX0_loseOldest 4 = .ok (.iconst 0, 1) := by decide +kernel
theorem dX0_loseOldest_5 : decode cX0_loseOldest 5 = .ok (.aaload, 1) := by decide +kernel
theorem dX0_loseOldest_6 : decode cX0_loseOldest 6 = .ok (.astore_n 1, 1) := by decide +kernel
theorem dX0_loseOldest_7 : decode cX0_loseOldest 7 = .ok (.iconst 1, 1) := by decide +kernel
theorem dX0_loseOldest_8 : decode cX0_loseOldest 8 = .ok (.istore_n 2, 1) := by decide +kernel
theorem dX0_loseOldest_9 : decode cX0_loseOldest 9 = .ok (.iload_n 2, 1) := by decide +kernel
theorem dX0_loseOldest_10 : decode cX0_loseOldest 10 = .ok (.aload_n 0, 1) := by decide +kernel
theorem dX0_loseOldest_11 : decode cX0_loseOldest 11 = .ok (.getfield 15, 3) := by decide +kernel
theorem dX0_loseOldest_14 : decode cX0_loseOldest 14 = .ok (.arraylength, 1) := by decide +kernel
theorem dX0_loseOldest_15 : decode cX0_loseOldest 15 = .ok (.if_icmp .ge 23, 3) := by decide +kernel
theorem dX0_loseOldest_18 : decode cX0_loseOldest 18 = .ok (.aload_n 0, 1) := by decide +kernel
theorem dX0_loseOldest_19 : decode cX0_loseOldest 19 = .ok (.getfield 15, 3) := by decide +kernel
theorem dX0_loseOldest_22 : decode cX0_loseOldest 22 = .ok (.iload_n 2, 1) := by decide +kernel
theorem dX0_loseOldest_23 : decode cX0_loseOldest 23 = .ok (.iconst 1, 1) := by decide +kernel
theorem dX0_loseOldest_24 : decode cX0_loseOldest 24 = .ok (.isub, 1) := by decide +kernel
theorem dX0_loseOldest_25 : decode cX0_loseOldest 25 = .ok (.aload_n 0, 1) := by decide +kernel
theorem dX0_loseOldest_26 : decode cX0_loseOldest 26 = .ok (.getfield 15, 3) := by decide +kernel
theorem dX0_loseOldest_29 : decode cX0_loseOldest 29 = .ok (.iload_n 2, 1) := by decide +kernel
theorem dX0_loseOldest_30 : decode cX0_loseOldest 30 = .ok (.aaload, 1) := by decide +kernel
theorem dX0_loseOldest_31 : decode cX0_loseOldest 31 = .ok (.aastore, 1) := by decide +kernel
theorem dX0_loseOldest_32 : decode cX0_loseOldest 32 = .ok (.iinc 2 1, 3) := by decide +kernel
theorem dX0_loseOldest_35 : decode cX0_loseOldest 35 = .ok (.goto (-26), 3) := by decide +kernel
theorem dX0_loseOldest_38 : decode cX0_loseOldest 38 = .ok (.aload_n 0, 1) := by decide +kernel
theorem dX0_loseOldest_39 : decode cX0_loseOldest 39 = .ok (.getfield 15, 3) := by decide +kernel
theorem dX0_loseOldest_42 : decode cX0_loseOldest 42 = .ok (.aload_n 0, 1) := by decide +kernel
theorem dX0_loseOldest_43 : decode cX0_loseOldest 43 = .ok (.getfield 15, 3) := by decide +kernel
theorem dX0_loseOldest_46 : decode cX0_loseOldest 46 = .ok (.arraylength, 1) := by decide +kernel
theorem dX0_loseOldest_47 : decode cX0_loseOldest 47 = .ok (.iconst 1, 1) := by decide +kernel
theorem dX0_loseOldest_48 : decode cX0_loseOldest 48 = .ok (.isub, 1) := by decide +kernel
theorem dX0_loseOldest_49 : decode cX0_loseOldest 49 = .ok (.aload_n 1, 1) := by decide +kernel
theorem dX0_loseOldest_50 : decode cX0_loseOldest 50 = .ok (.aastore, 1) := by decide +kernel
theorem dX0_loseOldest_51 : decode cX0_loseOldest 51 = .ok (.aload_n 0, 1) := by decide +kernel
theorem dX0_loseOldest_52 : decode cX0_loseOldest 52 = .ok (.aload_n 0, 1) := by decide +kernel
theorem dX0_loseOldest_53 : decode cX0_loseOldest 53 = .ok (.getfield 15, 3) := by decide +kernel
theorem dX0_loseOldest_56 : decode cX0_loseOldest 56 = .ok (.arraylength, 1) := by decide +kernel
theorem dX0_loseOldest_57 : decode cX0_loseOldest 57 = .ok (.iconst 1, 1) := by decide +kernel
theorem dX0_loseOldest_58 : decode cX0_loseOldest 58 = .ok (.isub, 1) := by decide +kernel
theorem dX0_loseOldest_59 : decode cX0_loseOldest 59 = .ok (.putfield 22, 3) := by decide +kernel
theorem dX0_loseOldest_62 : decode cX0_loseOldest 62 = .ok (.return_, 1) := by decide +kernel
theorem dX0_takeTop_0 : decode cX0_takeTop 0 = .ok (.aload_n 0, 1) := by decide +kernel
theorem dX0_takeTop_1 : decode cX0_takeTop 1 = .ok (.getfield 22, 3) := by decide +kernel
theorem dX0_takeTop_4 : decode cX0_takeTop 4 = .ok (.ifCond .gt 5, 3) := by decide +kernel
theorem dX0_takeTop_7 : decode cX0_takeTop 7 = .ok (.iconst 0, 1) := by decide +kernel
theorem dX0_takeTop_8 : decode cX0_takeTop 8 = .ok (.ireturn, 1) := by decide +kernel
theorem dX0_takeTop_9 : decode cX0_takeTop 9 = .ok (.aload_n 0, 1) := by decide +kernel
theorem dX0_takeTop_10 : decode cX0_takeTop 10 = .ok (.dup, 1) := by decide +kernel
theorem dX0_takeTop_11 : decode cX0_takeTop 11 = .ok (.getfield 22, 3) := by decide +kernel
theorem dX0_takeTop_14 : decode cX0_takeTop 14 = .ok (.iconst 1, 1) := by decide +kernel
theorem dX0_takeTop_15 : decode cX0_takeTop 15 = .ok (.isub, 1) := by decide +kernel
theorem dX0_takeTop_16 : decode cX0_takeTop 16 = .ok (.putfield 22, 3) := by decide +kernel
theorem dX0_takeTop_19 : decode cX0_takeTop 19 = .ok (.aload_n 1, 1) := by decide +kernel
theorem dX0_takeTop_20 : decode cX0_takeTop 20 = .ok (.aload_n 0, 1) := by decide +kernel
theorem dX0_takeTop_21 : decode cX0_takeTop 21 = .ok (.getfield 15, 3) := by decide +kernel
theorem dX0_takeTop_24 : decode cX0_takeTop 24 = .ok (.aload_n 0, 1) := by decide +kernel
theorem dX0_takeTop_25 : decode cX0_takeTop 25 = .ok (.getfield 22, 3) := by decide +kernel
theorem dX0_takeTop_28 : decode cX0_takeTop 28 = .ok (.aaload, 1) := by decide +kernel
theorem dX0_takeTop_29 : decode cX0_takeTop 29 = .ok (.invokevirtual 29, 3) := by decide +kernel
theorem dX0_takeTop_32 : decode cX0_takeTop 32 = .ok (.iconst 1, 1) := by decide +kernel
theorem dX0_takeTop_33 : decode cX0_takeTop 33 = .ok (.ireturn, 1) := by decide +kernel
theorem dX1_init_0 : decode cX1_init 0 = .ok (.aload_n 0, 1) := by decide +kernel
theorem dX1_init_1 : decode cX1_init 1 = .ok (.invokespecial 3, 3) := by decide +kernel
theorem dX1_init_4 : decode cX1_init 4 = .ok (.aload_n 0, 1) := by decide +kernel
theorem dX1_init_5 : decode cX1_init 5 = .ok (.sipush 200, 3) := by decide +kernel
theorem dX1_init_8 : decode cX1_init 8 = .ok (.newarray .char, 2) := by decide +kernel
theorem dX1_init_10 : decode cX1_init 10 = .ok (.putfield 9, 3) := by decide +kernel
theorem dX1_init_13 : decode cX1_init 13 = .ok (.aload_n 0, 1) := by decide +kernel
theorem dX1_init_14 : decode cX1_init 14 = .ok (.iconst 4, 1) := by decide +kernel
theorem dX1_init_15 : decode cX1_init 15 = .ok (.newarray .int, 2) := by decide +kernel
theorem dX1_init_17 : decode cX1_init 17 = .ok (.putfield 15, 3) := by decide +kernel
theorem dX1_init_20 : decode cX1_init 20 = .ok (.return_, 1) := by decide +kernel
theorem dX1_add_0 : decode cX1_add 0 = .ok (.aload_n 0, 1) := by decide +kernel
theorem dX1_add_1 : decode cX1_add 1 = .ok (.getfield 19, 3) := by decide +kernel
theorem dX1_add_4 : decode cX1_add 4 = .ok (.aload_n 0, 1) := by decide +kernel
theorem dX1_add_5 : decode cX1_add 5 = .ok (.getfield 9, 3) := by decide +kernel
theorem dX1_add_8 : decode cX1_add 8 = .ok (.arraylength, 1) := by decide +kernel
theorem dX1_add_9 : decode cX1_add 9 = .ok (.if_icmp .lt 5, 3) := by decide +kernel
theorem dX1_add_12 : decode cX1_add 12 = .ok (.iconst 0, 1) := by decide +kernel
theorem dX1_add_13 : decode cX1_add 13 = .ok (.ireturn, 1) := by decide +kernel
theorem dX1_add_14 : decode cX1_add 14 = .ok (.aload_n 0, 1) := by decide +kernel
theorem dX1_add_15 : decode cX1_add 15 = .ok (.getfield 9, 3) := by decide +kernel
theorem dX1_add_18 : decode cX1_add 18 = .ok (.aload_n 0, 1) := by decide +kernel
theorem dX1_add_19 : decode cX1_add 19 = .ok (.getfield 19, 3) := by decide +kernel
theorem dX1_add_22 : decode cX1_add 22 = .ok (.iload_n 1, 1) := by decide +kernel
theorem dX1_add_23 : decode cX1_add 23 = .ok (.castore, 1) := by decide +kernel
theorem dX1_add_24 : decode cX1_add 24 = .ok (.aload_n 0, 1) := by decide +kernel
theorem dX1_add_25 : decode cX1_add 25 = .ok (.dup, 1) := by decide +kernel
theorem dX1_add_26 : decode cX1_add 26 = .ok (.getfield 19, 3) := by decide +kernel
theorem dX1_add_29 : decode cX1_add 29 = .ok (.iconst 1, 1) := by decide +kernel
theorem dX1_add_30 : decode cX1_add 30 = .ok (.iadd, 1) := by decide +kernel
theorem dX1_add_31 : decode cX1_add 31 = .ok (.putfield 19, 3) := by decide +kernel
theorem dX1_add_34 : decode cX1_add 34 = .ok (.iconst 1, 1) := by decide +kernel
theorem dX1_add_35 : decode cX1_add 35 = .ok (.ireturn, 1) := by decide +kernel
theorem dX1_clear_0 : decode cX1_clear 0 = .ok (.aload_n 0, 1) := by decide +kernel
theorem dX1_clear_1 : decode cX1_clear 1 = .ok (.iconst 0, 1) := by decide +kernel
theorem dX1_clear_2 : decode cX1_clear 2 = .ok (.putfield 19, 3) := by decide +kernel
theorem dX1_clear_5 : decode cX1_clear 5 = .ok (.return_, 1) := by decide +kernel
theorem dX1_readInto_0 : decode cX1_readInto 0 = .ok (.aload_n 1, 1) := by decide +kernel
theorem dX1_readInto_1 : decode cX1_readInto 1 = .ok (.invokevirtual 23, 3) := by decide +kernel
theorem dX1_readInto_4 : decode cX1_readInto 4 = .ok (.iconst 0, 1) := by decide +kernel
theorem dX1_readInto_5 : decode cX1_readInto 5 = .ok (.istore_n 2, 1) := by decide +kernel
theorem dX1_readInto_6 : decode cX1_readInto 6 = .ok (.iconst 0, 1) := by decide +kernel
theorem dX1_readInto_7 : decode cX1_readInto 7 = .ok (.istore_n 3, 1) := by decide +kernel
theorem dX1_readInto_8 : decode cX1_readInto 8 = .ok (.iload_n 3, 1) := by decide +kernel
theorem dX1_readInto_9 : decode cX1_readInto 9 = .ok (.sipush 200, 3) := by decide +kernel
theorem dX1_readInto_12 : decode cX1_readInto 12 = .ok (.if_icmp .ge 36, 3) := by decide +kernel
theorem dX1_readInto_15 : decode cX1_readInto 15 = .ok (.iload_n 2, 1) := by decide +kernel
theorem dX1_readInto_16 : decode cX1_readInto 16 = .ok (.aload_n 0, 1) := by decide +kernel
theorem dX1_readInto_17 : decode cX1_readInto 17 = .ok (.getfield 19, 3) := by decide +kernel
theorem dX1_readInto_20 : decode cX1_readInto 20 = .ok (.if_icmp .ge 28, 3) := by decide +kernel
theorem dX1_readInto_23 : decode cX1_readInto 23 = .ok (.aload_n 0, 1) := by decide +kernel
theorem dX1_readInto_24 : decode cX1_readInto 24 = .ok (.iload_n 2, 1) := by decide +kernel
theorem dX1_readInto_25 : decode cX1_readInto 25 = .ok (.aload_n 1, 1) := by decide +kernel
theorem dX1_readInto_26 : decode cX1_readInto 26 = .ok (.invokevirtual 28, 3) := by decide +kernel
theorem dX1_readInto_29 : decode cX1_readInto 29 = .ok (.istore 4, 2) := by decide +kernel
theorem dX1_readInto_31 : decode cX1_readInto 31 = .ok (.iload 4, 2) := by decide +kernel
theorem dX1_readInto_33 : decode cX1_readInto 33 = .ok (.iconst (-1), 1) := by decide +kernel
theorem dX1_readInto_34 : decode cX1_readInto 34 = .ok (.if_icmp .ne 5, 3) := by decide +kernel
theorem dX1_readInto_37 : decode cX1_readInto 37 = .ok (.iload_n 2, 1) := by decide +kernel
theorem dX1_readInto_38 : decode cX1_readInto 38 = .ok (.ireturn, 1) := by decide +kernel
theorem dX1_readInto_39 : decode cX1_readInto 39 = .ok (.iload 4, 2) := by decide +kernel
theorem dX1_readInto_41 : decode cX1_readInto 41 = .ok (.istore_n 2, 1) := by decide +kernel
theorem dX1_readInto_42 : decode cX1_readInto 42 = .ok (.iinc 3 1, 3) := by decide +kernel
theorem dX1_readInto_45 : decode cX1_readInto 45 = .ok (.goto (-37), 3) := by decide +kernel
theorem dX1_readInto_48 : decode cX1_readInto 48 = .ok (.bipush (-4), 2) := by decide +kernel
theorem dX1_readInto_50 : decode cX1_readInto 50 = .ok (.ireturn, 1) := by decide +kernel
theorem dX1_readItem_0 : decode cX1_readItem 0 = .ok (.aload_n 0, 1) := by decide +kernel
theorem dX1_readItem_1 : decode cX1_readItem 1 = .ok (.getfield 9, 3) := by decide +kernel
theorem dX1_readItem_4 : decode cX1_readItem 4 = .ok (.iload_n 1, 1) := by decide +kernel
theorem dX1_readItem_5 : decode cX1_readItem 5 = .ok (.caload, 1) := by decide +kernel
theorem dX1_readItem_6 : decode cX1_readItem 6 = .ok (.istore_n 3, 1) := by decide +kernel
theorem dX1_readItem_7 : decode cX1_readItem 7 = .ok (.iload_n 3, 1) := by decide +kernel
theorem dX1_readItem_8 : decode cX1_readItem 8 = .ok (.invokestatic 32, 3) := by decide +kernel
theorem dX1_readItem_11 : decode cX1_readItem 11 = .ok (.istore 4, 2) := by decide +kernel
theorem dX1_readItem_13 : decode cX1_readItem 13 = .ok (.iload 4, 2) := by decide +kernel
theorem dX1_readItem_15 : decode cX1_readItem 15 = .ok (.ifCond .ne 5, 3) := by decide +kernel
theorem dX1_readItem_18 : decode cX1_readItem 18 = .ok (.iconst (-1), 1) := by decide +kernel
theorem dX1_readItem_19 : decode cX1_readItem 19 = .ok (.ireturn, 1) := by decide +kernel
theorem dX1_readItem_20 : decode cX1_readItem 20 = .ok (.iload_n 1, 1) := by decide +kernel
theorem dX1_readItem_21 : decode cX1_readItem 21 = .ok (.iconst 1, 1) := by decide +kernel
theorem dX1_readItem_22 : decode cX1_readItem 22 = .ok (.iadd, 1) := by decide +kernel
theorem dX1_readItem_23 : decode cX1_readItem 23 = .ok (.istore 5, 2) := by decide +kernel
theorem dX1_readItem_25 : decode cX1_readItem 25 = .ok (.iconst 0, 1) := by decide +kernel
theorem dX1_readItem_26 : decode cX1_readItem 26 = .ok (.istore 6, 2) := by decide +kernel
theorem dX1_readItem_28 : decode cX1_readItem 28 = .ok (.iload 6, 2) := by decide +kernel
theorem dX1_readItem_30 : decode cX1_readItem 30 = .ok (.iload 4, 2) := by decide +kernel
theorem dX1_readItem_32 : decode cX1_readItem 32 = .ok (.if_icmp .ge 75, 3) := by decide +kernel
theorem dX1_readItem_35 : decode cX1_readItem 35 = .ok (.aload_n 0, 1) := by decide +kernel
theorem dX1_readItem_36 : decode cX1_readItem 36 = .ok (.iload 5, 2) := by decide +kernel
theorem dX1_readItem_38 : decode cX1_readItem 38 = .ok (.iload 6, 2) := by decide +kernel
theorem dX1_readItem_40 : decode cX1_readItem 40 = .ok (.invokevirtual 36, 3) := by decide +kernel
theorem dX1_readItem_43 : decode cX1_readItem 43 = .ok (.istore 7, 2) := by decide +kernel
theorem dX1_readItem_45 : decode cX1_readItem 45 = .ok (.iload 5, 2) := by decide +kernel
theorem dX1_readItem_47 : decode cX1_readItem 47 = .ok (.iload 7, 2) := by decide +kernel
theorem dX1_readItem_49 : decode cX1_readItem 49 = .ok (.iadd, 1) := by decide +kernel
theorem dX1_readItem_50 : decode cX1_readItem 50 = .ok (.istore 5, 2) := by decide +kernel
theorem dX1_readItem_52 : decode cX1_readItem 52 = .ok (.iload 6, 2) := by decide +kernel
theorem dX1_readItem_54 : decode cX1_readItem 54 = .ok (.iload 4, 2) := by decide +kernel
theorem dX1_readItem_56 : decode cX1_readItem 56 = .ok (.iconst 1, 1) := by decide +kernel
theorem dX1_readItem_57 : decode cX1_readItem 57 = .ok (.isub, 1) := by decide +kernel
theorem dX1_readItem_58 : decode cX1_readItem 58 = .ok (.if_icmp .ne 8, 3) := by decide +kernel
theorem dX1_readItem_61 : decode cX1_readItem 61 = .ok (.bipush 59, 2) := by decide +kernel
theorem dX1_readItem_63 : decode cX1_readItem 63 = .ok (.goto 5, 3) := by decide +kernel
theorem dX1_readItem_66 : decode cX1_readItem 66 = .ok (.bipush 44, 2) := by decide +kernel
theorem dX1_readItem_68 : decode cX1_readItem 68 = .ok (.istore 8, 2) := by decide +kernel
theorem dX1_readItem_70 : decode cX1_readItem 70 = .ok (.iload 7, 2) := by decide +kernel
theorem dX1_readItem_72 : decode cX1_readItem 72 = .ok (.ifCond .eq 24, 3) := by decide +kernel
theorem dX1_readItem_75 : decode cX1_readItem 75 = .ok (.iload 5, 2) := by decide +kernel
theorem dX1_readItem_77 : decode cX1_readItem 77 = .ok (.aload_n 0, 1) := by decide +kernel
theorem dX1_readItem_78 : decode cX1_readItem 78 = .ok (.getfield 19, 3) := by decide +kernel
theorem dX1_readItem_81 : decode cX1_readItem 81 = .ok (.if_icmp .ge 15, 3) := by decide +kernel
theorem dX1_readItem_84 : decode cX1_readItem 84 = .ok (.aload_n 0, 1) := by decide +kernel
theorem dX1_readItem_85 : decode cX1_readItem 85 = .ok (.getfield 9, 3) := by decide +kernel
theorem dX1_readItem_88 : decode cX1_readItem 88 = .ok (.iload 5, 2) := by decide +kernel
theorem dX1_readItem_90 : decode cX1_readItem 90 = .ok (.caload, 1) := by decide +kernel
theorem dX1_readItem_91 : decode cX1_readItem 91 = .ok (.iload 8, 2) := by decide +kernel
theorem dX1_readItem_93 : decode cX1_readItem 93 = .ok (.if_icmp .eq 5, 3) := by decide +kernel
theorem dX1_readItem_96 : decode cX1_readItem 96 = .ok (.iconst (-1), 1) := by decide +kernel
theorem dX1_readItem_97 : decode cX1_readItem 97 = .ok (.ireturn, 1) := by decide +kernel
theorem dX1_readItem_98 : decode cX1_readItem 98 = .ok (.iinc 5 1, 3) := by decide +kernel
theorem dX1_readItem_101 : decode cX1_readItem 101 = .ok (.iinc 6 1, 3) := by decide +kernel
theorem dX1_readItem_104 : decode cX1_readItem 104 = .ok (.goto (-76), 3) := by decide +kernel
theorem dX1_readItem_107 : decode cX1_readItem 107 = .ok (.aload_n 2, 1) := by decide +kernel
theorem dX1_readItem_108 : decode cX1_readItem 108 = .ok (.iload_n 3, 1) := by decide +kernel
theorem dX1_readItem_109 : decode cX1_readItem 109 = .ok (.aload_n 0, 1) := by decide +kernel
theorem dX1_readItem_110 : decode cX1_readItem 110 = .ok (.getfield 15, 3) := by decide +kernel
theorem dX1_readItem_113 : decode cX1_readItem 113 = .ok (.invokevirtual 40, 3) := by decide +kernel
theorem dX1_readItem_116 : decode cX1_readItem 116 = .ok (.ifCond .eq 8, 3) := by decide +kernel
theorem dX1_readItem_119 : decode cX1_readItem 119 = .ok (.iload 5, 2) := by decide +kernel
theorem dX1_readItem_121 : decode cX1_readItem 121 = .ok (.goto 4, 3) := by decide +kernel
theorem dX1_readItem_124 : decode cX1_readItem 124 = .ok (.iconst (-1), 1) := by decide +kernel
theorem dX1_readItem_125 : decode cX1_readItem 125 = .ok (.ireturn, 1) := by decide +kernel
theorem dX1_numbersBehind_0 : decode cX1_numbersBehind 0 = .ok (.iload_n 0, 1) := by decide +kernel
theorem dX1_numbersBehind_1 : decode cX1_numbersBehind 1 = .ok (.bipush 109, 2) := by decide +kernel
theorem dX1_numbersBehind_3 : decode cX1_numbersBehind 3 = .ok (.if_icmp .ne 5, 3) := by decide +kernel
theorem dX1_numbersBehind_6 : decode cX1_numbersBehind 6 = .ok (.iconst 4, 1) := by decide +kernel
theorem dX1_numbersBehind_7 : decode cX1_numbersBehind 7 = .ok (.ireturn, 1) := by decide +kernel
theorem dX1_numbersBehind_8 : decode cX1_numbersBehind 8 = .ok (.iload_n 0, 1) := by decide +kernel
theorem dX1_numbersBehind_9 : decode cX1_numbersBehind 9 = .ok (.bipush 122, 2) := by decide +kernel
theorem dX1_numbersBehind_11 : decode cX1_numbersBehind 11 = .ok (.if_icmp .eq 9, 3) := by decide +kernel
theorem dX1_numbersBehind_14 : decode cX1_numbersBehind 14 = .ok (.iload_n 0, 1) := by decide +kernel
theorem dX1_numbersBehind_15 : decode cX1_numbersBehind 15 = .ok (.bipush 101, 2) := by decide +kernel
theorem dX1_numbersBehind_17 : decode cX1_numbersBehind 17 = .ok (.if_icmp .ne 7, 3) := by decide +kernel
theorem dX1_numbersBehind_20 : decode cX1_numbersBehind 20 = .ok (.iconst 1, 1) := by decide +kernel
theorem dX1_numbersBehind_21 : decode cX1_numbersBehind 21 = .ok (.goto 4, 3) := by decide +kernel
theorem dX1_numbersBehind_24 : decode cX1_numbersBehind 24 = .ok (.iconst 0, 1) := by decide +kernel
theorem dX1_numbersBehind_25 : decode cX1_numbersBehind 25 = .ok (.ireturn, 1) := by decide +kernel
theorem dX1_readNumber_0 : decode cX1_readNumber 0 = .ok (.iconst 0, 1) := by decide +kernel
theorem dX1_readNumber_1 : decode cX1_readNumber 1 = .ok (.istore_n 3, 1) := by decide +kernel
theorem dX1_readNumber_2 : decode cX1_readNumber 2 = .ok (.iconst 0, 1) := by decide +kernel
theorem dX1_readNumber_3 : decode cX1_readNumber 3 = .ok (.istore 4, 2) := by decide +kernel
theorem dX1_readNumber_5 : decode cX1_readNumber 5 = .ok (.iload 4, 2) := by decide +kernel
theorem dX1_readNumber_7 : decode cX1_readNumber 7 = .ok (.iconst 2, 1) := by decide +kernel
theorem dX1_readNumber_8 : decode cX1_readNumber 8 = .ok (.if_icmp .ge 38, 3) := by decide +kernel
theorem dX1_readNumber_11 : decode cX1_readNumber 11 = .ok (.aload_n 0, 1) := by decide +kernel
theorem dX1_readNumber_12 : decode cX1_readNumber 12 = .ok (.iload_n 1, 1) := by decide +kernel
theorem dX1_readNumber_13 : decode cX1_readNumber 13 = .ok (.iload 4, 2) := by decide +kernel
theorem dX1_readNumber_15 : decode cX1_readNumber 15 = .ok (.iadd, 1) := by decide +kernel
theorem dX1_readNumber_16 : decode cX1_readNumber 16 = .ok (.invokevirtual 44, 3) := by decide +kernel
theorem dX1_readNumber_19 : decode cX1_readNumber 19 = .ok (.ifCond .eq 27, 3) := by decide +kernel
theorem dX1_readNumber_22 : decode cX1_readNumber 22 = .ok (.iload_n 3, 1) := by decide +kernel
theorem dX1_readNumber_23 : decode cX1_readNumber 23 = .ok (.bipush 10, 2) := by decide +kernel
theorem dX1_readNumber_25 : decode cX1_readNumber 25 = .ok (.imul, 1) := by decide +kernel
theorem dX1_readNumber_26 : decode cX1_readNumber 26 = .ok (.aload_n 0, 1) := by decide +kernel
theorem dX1_readNumber_27 : decode cX1_readNumber 27 = .ok (.getfield 9, 3) := by decide +kernel
theorem dX1_readNumber_30 : decode cX1_readNumber 30 = .ok (.iload_n 1, 1) := by decide +kernel
theorem dX1_readNumber_31 : decode cX1_readNumber 31 = .ok (.iload 4, 2) := by decide +kernel
theorem dX1_readNumber_33 : decode cX1_readNumber 33 = .ok (.iadd, 1) := by decide +kernel
theorem dX1_readNumber_34 : decode cX1_readNumber 34 = .ok (.caload, 1) := by decide +kernel
theorem dX1_readNumber_35 : decode cX1_readNumber 35 = .ok (.bipush 48, 2) := by decide +kernel
theorem dX1_readNumber_37 : decode cX1_readNumber 37 = .ok (.isub, 1) := by decide +kernel
theorem dX1_readNumber_38 : decode cX1_readNumber 38 = .ok (.iadd, 1) := by decide +kernel
theorem dX1_readNumber_39 : decode cX1_readNumber 39 = .ok (.istore_n 3, 1) := by decide +kernel
theorem dX1_readNumber_40 : decode cX1_readNumber 40 = .ok (.iinc 4 1, 3) := by decide +kernel
theorem dX1_readNumber_43 : decode cX1_readNumber 43 = .ok (.goto (-38), 3) := by decide +kernel
theorem dX1_readNumber_46 : decode cX1_readNumber 46 = .ok (.aload_n 0, 1) := by decide +kernel
theorem dX1_readNumber_47 : decode cX1_readNumber 47 = .ok (.getfield 15, 3) := by decide +kernel
theorem dX1_readNumber_50 : decode cX1_readNumber 50 = .ok (.iload_n 2, 1) := by decide +kernel
theorem dX1_readNumber_51 : decode cX1_readNumber 51 = .ok (.iload_n 3, 1) := by decide +kernel
theorem dX1_readNumber_52 : decode cX1_readNumber 52 = .ok (.iastore, 1) := by decide +kernel
theorem dX1_readNumber_53 : decode cX1_readNumber 53 = .ok (.iload 4, 2) := by decide +kernel
theorem dX1_readNumber_55 : decode cX1_readNumber 55 = .ok (.ireturn, 1) := by decide +kernel
theorem dX1_isFigure_0 : decode cX1_isFigure 0 = .ok (.iload_n 1, 1) := by decide +kernel
theorem dX1_isFigure_1 : decode cX1_isFigure 1 = .ok (.aload_n 0, 1) := by decide +kernel
theorem dX1_isFigure_2 : decode cX1_isFigure 2 = .ok (.getfield 19, 3) := by decide +kernel
theorem dX1_isFigure_5 : decode cX1_isFigure 5 = .ok (.if_icmp .ge 29, 3) := by decide +kernel
theorem dX1_isFigure_8 : decode cX1_isFigure 8 = .ok (.aload_n 0, 1) := by decide +kernel
theorem dX1_isFigure_9 : decode cX1_isFigure 9 = .ok (.getfield 9, 3) := by decide +kernel
theorem dX1_isFigure_12 : decode cX1_isFigure 12 = .ok (.iload_n 1, 1) := by decide +kernel
theorem dX1_isFigure_13 : decode cX1_isFigure 13 = .ok (.caload, 1) := by decide +kernel
theorem dX1_isFigure_14 : decode cX1_isFigure 14 = .ok (.bipush 48, 2) := by decide +kernel
theorem dX1_isFigure_16 : decode cX1_isFigure 16 = .ok (.if_icmp .lt 18, 3) := by decide +kernel
theorem dX1_isFigure_19 : decode cX1_isFigure 19 = .ok (.aload_n 0, 1) := by decide +kernel
theorem dX1_isFigure_20 : decode cX1_isFigure 20 = .ok (.getfield 9, 3) := by decide +kernel
theorem dX1_isFigure_23 : decode cX1_isFigure 23 = .ok (.iload_n 1, 1) := by decide +kernel
theorem dX1_isFigure_24 : decode cX1_isFigure 24 = .ok (.caload, 1) := by decide +kernel
theorem dX1_isFigure_25 : decode cX1_isFigure 25 = .ok (.bipush 57, 2) := by decide +kernel
theorem dX1_isFigure_27 : decode cX1_isFigure 27 = .ok (.if_icmp .gt 7, 3) := by decide +kernel
theorem dX1_isFigure_30 : decode cX1_isFigure 30 = .ok (.iconst 1, 1) := by decide +kernel
theorem dX1_isFigure_31 : decode cX1_isFigure 31 = .ok (.goto 4, 3) := by decide +kernel
theorem dX1_isFigure_34 : decode cX1_isFigure 34 = .ok (.iconst 0, 1) := by decide +kernel
theorem dX1_isFigure_35 : decode cX1_isFigure 35 = .ok (.ireturn, 1) := by decide +kernel
theorem dX2_init_0 : decode cX2_init 0 = .ok (.aload_n 0, 1) := by decide +kernel
theorem dX2_init_1 : decode cX2_init 1 = .ok (.invokespecial 3, 3) := by decide +kernel
theorem dX2_init_4 : decode cX2_init 4 = .ok (.aload_n 0, 1) := by decide +kernel
theorem dX2_init_5 : decode cX2_init 5 = .ok (.bipush 8, 2) := by decide +kernel
theorem dX2_init_7 : decode cX2_init 7 = .ok (.newarray .int, 2) := by decide +kernel
theorem dX2_init_9 : decode cX2_init 9 = .ok (.putfield 9, 3) := by decide +kernel
theorem dX2_init_12 : decode cX2_init 12 = .ok (.aload_n 0, 1) := by decide +kernel
theorem dX2_init_13 : decode cX2_init 13 = .ok (.bipush 8, 2) := by decide +kernel
theorem dX2_init_15 : decode cX2_init 15 = .ok (.newarray .int, 2) := by decide +kernel
theorem dX2_init_17 : decode cX2_init 17 = .ok (.putfield 15, 3) := by decide +kernel
theorem dX2_init_20 : decode cX2_init 20 = .ok (.aload_n 0, 1) := by decide +kernel
theorem dX2_init_21 : decode cX2_init 21 = .ok (.bipush 8, 2) := by decide +kernel
theorem dX2_init_23 : decode cX2_init 23 = .ok (.newarray .int, 2) := by decide +kernel
theorem dX2_init_25 : decode cX2_init 25 = .ok (.putfield 18, 3) := by decide +kernel
theorem dX2_init_28 : decode cX2_init 28 = .ok (.aload_n 0, 1) := by decide +kernel
theorem dX2_init_29 : decode cX2_init 29 = .ok (.bipush 8, 2) := by decide +kernel
theorem dX2_init_31 : decode cX2_init 31 = .ok (.newarray .int, 2) := by decide +kernel
theorem dX2_init_33 : decode cX2_init 33 = .ok (.putfield 21, 3) := by decide +kernel
theorem dX2_init_36 : decode cX2_init 36 = .ok (.return_, 1) := by decide +kernel
theorem dX2_clear_0 : decode cX2_clear 0 = .ok (.aload_n 0, 1) := by decide +kernel
theorem dX2_clear_1 : decode cX2_clear 1 = .ok (.iconst 0, 1) := by decide +kernel
theorem dX2_clear_2 : decode cX2_clear 2 = .ok (.putfield 24, 3) := by decide +kernel
theorem dX2_clear_5 : decode cX2_clear 5 = .ok (.aload_n 0, 1) := by decide +kernel
theorem dX2_clear_6 : decode cX2_clear 6 = .ok (.iconst 0, 1) := by decide +kernel
theorem dX2_clear_7 : decode cX2_clear 7 = .ok (.putfield 28, 3) := by decide +kernel
theorem dX2_clear_10 : decode cX2_clear 10 = .ok (.aload_n 0, 1) := by decide +kernel
theorem dX2_clear_11 : decode cX2_clear 11 = .ok (.iconst 0, 1) := by decide +kernel
theorem dX2_clear_12 : decode cX2_clear 12 = .ok (.putfield 31, 3) := by decide +kernel
theorem dX2_clear_15 : decode cX2_clear 15 = .ok (.return_, 1) := by decide +kernel
theorem dX2_take_0 : decode cX2_take 0 = .ok (.iload_n 1, 1) := by decide +kernel
theorem dX2_take_1 : decode cX2_take 1 = .ok (.bipush 109, 2) := by decide +kernel
theorem dX2_take_3 : decode cX2_take 3 = .ok (.if_icmp .ne 20, 3) := by decide +kernel
theorem dX2_take_6 : decode cX2_take 6 = .ok (.aload_n 0, 1) := by decide +kernel
theorem dX2_take_7 : decode cX2_take 7 = .ok (.aload_n 2, 1) := by decide +kernel
theorem dX2_take_8 : decode cX2_take 8 = .ok (.iconst 0, 1) := by decide +kernel
theorem dX2_take_9 : decode cX2_take 9 = .ok (.iaload, 1) := by decide +kernel
theorem dX2_take_10 : decode cX2_take 10 = .ok (.aload_n 2, 1) := by decide +kernel
theorem dX2_take_11 : decode cX2_take 11 = .ok (.iconst 1, 1) := by decide +kernel
theorem dX2_take_12 : decode cX2_take 12 = .ok (.iaload, 1) := by decide +kernel
theorem dX2_take_13 : decode cX2_take 13 = .ok (.aload_n 2, 1) := by decide +kernel
theorem dX2_take_14 : decode cX2_take 14 = .ok (.iconst 2, 1) := by decide +kernel
theorem dX2_take_15 : decode cX2_take 15 = .ok (.iaload, 1) := by decide +kernel
theorem dX2_take_16 : decode cX2_take 16 = .ok (.aload_n 2, 1) := by decide +kernel
theorem dX2_take_17 : decode cX2_take 17 = .ok (.iconst 3, 1) := by decide +kernel
theorem dX2_take_18 : decode cX2_take 18 = .ok (.iaload, 1) := by decide +kernel
theorem dX2_take_19 : decode cX2_take 19 = .ok (.invokevirtual 34, 3) := by decide +kernel
theorem dX2_take_22 : decode cX2_take 22 = .ok (.ireturn, 1) := by decide +kernel
theorem dX2_take_23 : decode cX2_take 23 = .ok (.iload_n 1, 1) := by decide +kernel
theorem dX2_take_24 : decode cX2_take 24 = .ok (.bipush 122, 2) := by decide +kernel
theorem dX2_take_26 : decode cX2_take 26 = .ok (.if_icmp .ne 12, 3) := by decide +kernel
theorem dX2_take_29 : decode cX2_take 29 = .ok (.aload_n 0, 1) := by decide +kernel
theorem dX2_take_30 : decode cX2_take 30 = .ok (.aload_n 2, 1) := by decide +kernel
theorem dX2_take_31 : decode cX2_take 31 = .ok (.iconst 0, 1) := by decide +kernel
theorem dX2_take_32 : decode cX2_take 32 = .ok (.iaload, 1) := by decide +kernel
theorem dX2_take_33 : decode cX2_take 33 = .ok (.putfield 28, 3) := by decide +kernel
theorem dX2_take_36 : decode cX2_take 36 = .ok (.iconst 1, 1) := by decide +kernel
theorem dX2_take_37 : decode cX2_take 37 = .ok (.ireturn, 1) := by decide +kernel
theorem dX2_take_38 : decode cX2_take 38 = .ok (.aload_n 2, 1) := by decide +kernel
theorem dX2_take_39 : decode cX2_take 39 = .ok (.iconst 0, 1) := by decide +kernel
theorem dX2_take_40 : decode cX2_take 40 = .ok (.iaload, 1) := by decide +kernel
theorem dX2_take_41 : decode cX2_take 41 = .ok (.iconst 1, 1) := by decide +kernel
theorem dX2_take_42 : decode cX2_take 42 = .ok (.if_icmp .le 5, 3) := by decide +kernel
theorem dX2_take_45 : decode cX2_take 45 = .ok (.iconst 0, 1) := by decide +kernel
theorem dX2_take_46 : decode cX2_take 46 = .ok (.ireturn, 1) := by decide +kernel
theorem dX2_take_47 : decode cX2_take 47 = .ok (.aload_n 0, 1) := by decide +kernel
theorem dX2_take_48 : decode cX2_take 48 = .ok (.aload_n 2, 1) := by decide +kernel
theorem dX2_take_49 : decode cX2_take 49 = .ok (.iconst 0, 1) := by decide +kernel
theorem dX2_take_50 : decode cX2_take 50 = .ok (.iaload, 1) := by decide +kernel
theorem dX2_take_51 : decode cX2_take 51 = .ok (.putfield 31, 3) := by decide +kernel
theorem dX2_take_54 : decode cX2_take 54 = .ok (.iconst 1, 1) := by decide +kernel
theorem dX2_take_55 : decode cX2_take 55 = .ok (.ireturn, 1) := by decide +kernel
theorem dX2_takeMan_0 : decode cX2_takeMan 0 = .ok (.aload_n 0, 1) := by decide +kernel
theorem dX2_takeMan_1 : decode cX2_takeMan 1 = .ok (.getfield 24, 3) := by decide +kernel
theorem dX2_takeMan_4 : decode cX2_takeMan 4 = .ok (.bipush 8, 2) := by decide +kernel
theorem dX2_takeMan_6 : decode cX2_takeMan 6 = .ok (.if_icmp .ge 26, 3) := by decide +kernel
theorem dX2_takeMan_9 : decode cX2_takeMan 9 = .ok (.iload_n 1, 1) := by decide +kernel
theorem dX2_takeMan_10 : decode cX2_takeMan 10 = .ok (.iconst 3, 1) := by decide +kernel
theorem dX2_takeMan_11 : decode cX2_takeMan 11 = .ok (.if_icmp .gt 21, 3) := by decide +kernel
theorem dX2_takeMan_14 : decode cX2_takeMan 14 = .ok (.iload_n 2, 1) := by decide +kernel
theorem dX2_takeMan_15 : decode cX2_takeMan 15 = .ok (.iconst 4, 1) := by decide +kernel
theorem dX2_takeMan_16 : decode cX2_takeMan 16 = .ok (.if_icmp .ge 16, 3) := by decide +kernel
theorem dX2_takeMan_19 : decode cX2_takeMan 19 = .ok (.iload_n 3, 1) := by decide +kernel
theorem dX2_takeMan_20 : decode cX2_takeMan 20 = .ok (.bipush 8, 2) := by decide +kernel
theorem dX2_takeMan_22 : decode cX2_takeMan 22 = .ok (.if_icmp .ge 10, 3) := by decide +kernel
theorem dX2_takeMan_25 : decode cX2_takeMan 25 = .ok (.iload 4, 2) := by decide +kernel
theorem dX2_takeMan_27 : decode cX2_takeMan 27 = .ok (.bipush 10, 2) := by decide +kernel
theorem dX2_takeMan_29 : decode cX2_takeMan 29 = .ok (.if_icmp .le 5, 3) := by decide +kernel
theorem dX2_takeMan_32 : decode cX2_takeMan 32 = .ok (.iconst 0, 1) := by decide +kernel
theorem dX2_takeMan_33 : decode cX2_takeMan 33 = .ok (.ireturn, 1) := by decide +kernel
theorem dX2_takeMan_34 : decode cX2_takeMan 34 = .ok (.aload_n 0, 1) := by decide +kernel
theorem dX2_takeMan_35 : decode cX2_takeMan 35 = .ok (.getfield 9, 3) := by decide +kernel
theorem dX2_takeMan_38 : decode cX2_takeMan 38 = .ok (.aload_n 0, 1) := by decide +kernel
theorem dX2_takeMan_39 : decode cX2_takeMan 39 = .ok (.getfield 24, 3) := by decide +kernel
theorem dX2_takeMan_42 : decode cX2_takeMan 42 = .ok (.iload_n 1, 1) := by decide +kernel
theorem dX2_takeMan_43 : decode cX2_takeMan 43 = .ok (.iastore, 1) := by decide +kernel
theorem dX2_takeMan_44 : decode cX2_takeMan 44 = .ok (.aload_n 0, 1) := by decide +kernel
theorem dX2_takeMan_45 : decode cX2_takeMan 45 = .ok (.getfield 15, 3) := by decide +kernel
theorem dX2_takeMan_48 : decode cX2_takeMan 48 = .ok (.aload_n 0, 1) := by decide +kernel
theorem dX2_takeMan_49 : decode cX2_takeMan 49 = .ok (.getfield 24, 3) := by decide +kernel
theorem dX2_takeMan_52 : decode cX2_takeMan 52 = .ok (.iload_n 2, 1) := by decide +kernel
theorem dX2_takeMan_53 : decode cX2_takeMan 53 = .ok (.iastore, 1) := by decide +kernel
theorem dX2_takeMan_54 : decode cX2_takeMan 54 = .ok (.aload_n 0, 1) := by decide +kernel
theorem dX2_takeMan_55 : decode cX2_takeMan 55 = .ok (.getfield 18, 3) := by decide +kernel
theorem dX2_takeMan_58 : decode cX2_takeMan 58 = .ok (.aload_n 0, 1) := by decide +kernel
theorem dX2_takeMan_59 : decode cX2_takeMan 59 = .ok (.getfield 24, 3) := by decide +kernel
theorem dX2_takeMan_62 : decode cX2_takeMan 62 = .ok (.iload_n 3, 1) := by decide +kernel
theorem dX2_takeMan_63 : decode cX2_takeMan 63 = .ok (.iastore, 1) := by decide +kernel
theorem dX2_takeMan_64 : decode cX2_takeMan 64 = .ok (.aload_n 0, 1) := by decide +kernel
theorem dX2_takeMan_65 : decode cX2_takeMan 65 = .ok (.getfield 21, 3) := by decide +kernel
theorem dX2_takeMan_68 : decode cX2_takeMan 68 = .ok (.aload_n 0, 1) := by decide +kernel
theorem dX2_takeMan_69 : decode cX2_takeMan 69 = .ok (.getfield 24, 3) := by decide +kernel
theorem dX2_takeMan_72 : decode cX2_takeMan 72 = .ok (.iload 4, 2) := by decide +kernel
theorem dX2_takeMan_74 : decode cX2_takeMan 74 = .ok (.iastore, 1) := by decide +kernel
theorem dX2_takeMan_75 : decode cX2_takeMan 75 = .ok (.aload_n 0, 1) := by decide +kernel
theorem dX2_takeMan_76 : decode cX2_takeMan 76 = .ok (.dup, 1) := by decide +kernel
theorem dX2_takeMan_77 : decode cX2_takeMan 77 = .ok (.getfield 24, 3) := by decide +kernel
theorem dX2_takeMan_80 : decode cX2_takeMan 80 = .ok (.iconst 1, 1) := by decide +kernel
theorem dX2_takeMan_81 : decode cX2_takeMan 81 = .ok (.iadd, 1) := by decide +kernel
theorem dX2_takeMan_82 : decode cX2_takeMan 82 = .ok (.putfield 24, 3) := by decide +kernel
theorem dX2_takeMan_85 : decode cX2_takeMan 85 = .ok (.iconst 1, 1) := by decide +kernel
theorem dX2_takeMan_86 : decode cX2_takeMan 86 = .ok (.ireturn, 1) := by decide +kernel
theorem dX2_canBeLaid_0 : decode cX2_canBeLaid 0 = .ok (.iconst 0, 1) := by decide +kernel
theorem dX2_canBeLaid_1 : decode cX2_canBeLaid 1 = .ok (.istore_n 1, 1) := by decide +kernel
theorem dX2_canBeLaid_2 : decode cX2_canBeLaid 2 = .ok (.iload_n 1, 1) := by decide +kernel
theorem dX2_canBeLaid_3 : decode cX2_canBeLaid 3 = .ok (.aload_n 0, 1) := by decide +kernel
theorem dX2_canBeLaid_4 : decode cX2_canBeLaid 4 = .ok (.getfield 24, 3) := by decide +kernel
theorem dX2_canBeLaid_7 : decode cX2_canBeLaid 7 = .ok (.if_icmp .ge 24, 3) := by decide +kernel
theorem dX2_canBeLaid_10 : decode cX2_canBeLaid 10 = .ok (.aload_n 0, 1) := by decide +kernel
theorem dX2_canBeLaid_11 : decode cX2_canBeLaid 11 = .ok (.getfield 18, 3) := by decide +kernel
theorem dX2_canBeLaid_14 : decode cX2_canBeLaid 14 = .ok (.iload_n 1, 1) := by decide +kernel
theorem dX2_canBeLaid_15 : decode cX2_canBeLaid 15 = .ok (.iaload, 1) := by decide +kernel
theorem dX2_canBeLaid_16 : decode cX2_canBeLaid 16 = .ok (.aload_n 0, 1) := by decide +kernel
theorem dX2_canBeLaid_17 : decode cX2_canBeLaid 17 = .ok (.getfield 24, 3) := by decide +kernel
theorem dX2_canBeLaid_20 : decode cX2_canBeLaid 20 = .ok (.if_icmp .lt 5, 3) := by decide +kernel
theorem dX2_canBeLaid_23 : decode cX2_canBeLaid 23 = .ok (.iconst 0, 1) := by decide +kernel
theorem dX2_canBeLaid_24 : decode cX2_canBeLaid 24 = .ok (.ireturn, 1) := by decide +kernel
theorem dX2_canBeLaid_25 : decode cX2_canBeLaid 25 = .ok (.iinc 1 1, 3) := by decide +kernel
theorem dX2_canBeLaid_28 : decode cX2_canBeLaid 28 = .ok (.goto (-26), 3) := by decide +kernel
theorem dX2_canBeLaid_31 : decode cX2_canBeLaid 31 = .ok (.aload_n 0, 1) := by decide +kernel
theorem dX2_canBeLaid_32 : decode cX2_canBeLaid 32 = .ok (.getfield 24, 3) := by decide +kernel
theorem dX2_canBeLaid_35 : decode cX2_canBeLaid 35 = .ok (.ifCond .le 7, 3) := by decide +kernel
theorem dX2_canBeLaid_38 : decode cX2_canBeLaid 38 = .ok (.iconst 1, 1) := by decide +kernel
theorem dX2_canBeLaid_39 : decode cX2_canBeLaid 39 = .ok (.goto 4, 3) := by decide +kernel
theorem dX2_canBeLaid_42 : decode cX2_canBeLaid 42 = .ok (.iconst 0, 1) := by decide +kernel
theorem dX2_canBeLaid_43 : decode cX2_canBeLaid 43 = .ok (.ireturn, 1) := by decide +kernel
theorem dX3_init_0 : decode cX3_init 0 = .ok (.aload_n 0, 1) := by decide +kernel
theorem dX3_init_1 : decode cX3_init 1 = .ok (.invokespecial 3, 3) := by decide +kernel
theorem dX3_init_4 : decode cX3_init 4 = .ok (.aload_n 0, 1) := by decide +kernel
theorem dX3_init_5 : decode cX3_init 5 = .ok (.bipush 8, 2) := by decide +kernel
theorem dX3_init_7 : decode cX3_init 7 = .ok (.newarray .int, 2) := by decide +kernel
theorem dX3_init_9 : decode cX3_init 9 = .ok (.putfield 9, 3) := by decide +kernel
theorem dX3_init_12 : decode cX3_init 12 = .ok (.aload_n 0, 1) := by decide +kernel
theorem dX3_init_13 : decode cX3_init 13 = .ok (.bipush 8, 2) := by decide +kernel
theorem dX3_init_15 : decode cX3_init 15 = .ok (.newarray .int, 2) := by decide +kernel
theorem dX3_init_17 : decode cX3_init 17 = .ok (.putfield 15, 3) := by decide +kernel
theorem dX3_init_20 : decode cX3_init 20 = .ok (.return_, 1) := by decide +kernel
theorem dX3_begin_0 : decode cX3_begin 0 = .ok (.aload_n 1, 1) := by decide +kernel
theorem dX3_begin_1 : decode cX3_begin 1 = .ok (.getfield 18, 3) := by decide +kernel
theorem dX3_begin_4 : decode cX3_begin 4 = .ok (.iconst 0, 1) := by decide +kernel
theorem dX3_begin_5 : decode cX3_begin 5 = .ok (.aload_n 0, 1) := by decide +kernel
theorem dX3_begin_6 : decode cX3_begin 6 = .ok (.getfield 9, 3) := by decide +kernel
theorem dX3_begin_9 : decode cX3_begin 9 = .ok (.iconst 0, 1) := by decide +kernel
theorem dX3_begin_10 : decode cX3_begin 10 = .ok (.bipush 8, 2) := by decide +kernel
theorem dX3_begin_12 : decode cX3_begin 12 = .ok (.invokestatic 21, 3) := by decide +kernel
theorem dX3_begin_15 : decode cX3_begin 15 = .ok (.aload_n 1, 1) := by decide +kernel
theorem dX3_begin_16 : decode cX3_begin 16 = .ok (.getfield 27, 3) := by decide +kernel
theorem dX3_begin_19 : decode cX3_begin 19 = .ok (.iconst 0, 1) := by decide +kernel
theorem dX3_begin_20 : decode cX3_begin 20 = .ok (.aload_n 0, 1) := by decide +kernel
theorem dX3_begin_21 : decode cX3_begin 21 = .ok (.getfield 15, 3) := by decide +kernel
theorem dX3_begin_24 : decode cX3_begin 24 = .ok (.iconst 0, 1) := by decide +kernel
theorem dX3_begin_25 : decode cX3_begin 25 = .ok (.bipush 8, 2) := by decide +kernel
theorem dX3_begin_27 : decode cX3_begin 27 = .ok (.invokestatic 21, 3) := by decide +kernel
theorem dX3_begin_30 : decode cX3_begin 30 = .ok (.aload_n 0, 1) := by decide +kernel
theorem dX3_begin_31 : decode cX3_begin 31 = .ok (.aload_n 1, 1) := by decide +kernel
theorem dX3_begin_32 : decode cX3_begin 32 = .ok (.getfield 28, 3) := by decide +kernel
theorem dX3_begin_35 : decode cX3_begin 35 = .ok (.putfield 32, 3) := by decide +kernel
theorem dX3_begin_38 : decode cX3_begin 38 = .ok (.aload_n 0, 1) := by decide +kernel
theorem dX3_begin_39 : decode cX3_begin 39 = .ok (.iconst 0, 1) := by decide +kernel
theorem dX3_begin_40 : decode cX3_begin 40 = .ok (.putfield 33, 3) := by decide +kernel
theorem dX3_begin_43 : decode cX3_begin 43 = .ok (.aload_n 0, 1) := by decide +kernel
theorem dX3_begin_44 : decode cX3_begin 44 = .ok (.iconst 0, 1) := by decide +kernel
theorem dX3_begin_45 : decode cX3_begin 45 = .ok (.putfield 36, 3) := by decide +kernel
theorem dX3_begin_48 : decode cX3_begin 48 = .ok (.aload_n 0, 1) := by decide +kernel
theorem dX3_begin_49 : decode cX3_begin 49 = .ok (.iconst 0, 1) := by decide +kernel
theorem dX3_begin_50 : decode cX3_begin 50 = .ok (.putfield 39, 3) := by decide +kernel
theorem dX3_begin_53 : decode cX3_begin 53 = .ok (.aload_n 0, 1) := by decide +kernel
theorem dX3_begin_54 : decode cX3_begin 54 = .ok (.iconst 0, 1) := by decide +kernel
theorem dX3_begin_55 : decode cX3_begin 55 = .ok (.putfield 42, 3) := by decide +kernel
theorem dX3_begin_58 : decode cX3_begin 58 = .ok (.aload_n 0, 1) := by decide +kernel
theorem dX3_begin_59 : decode cX3_begin 59 = .ok (.iconst 0, 1) := by decide +kernel
theorem dX3_begin_60 : decode cX3_begin 60 = .ok (.putfield 45, 3) := by decide +kernel
theorem dX3_begin_63 : decode cX3_begin 63 = .ok (.return_, 1) := by decide +kernel
theorem dX3_copy_0 : decode cX3_copy 0 = .ok (.aload_n 1, 1) := by decide +kernel
theorem dX3_copy_1 : decode cX3_copy 1 = .ok (.getfield 9, 3) := by decide +kernel
theorem dX3_copy_4 : decode cX3_copy 4 = .ok (.iconst 0, 1) := by decide +kernel
theorem dX3_copy_5 : decode cX3_copy 5 = .ok (.aload_n 0, 1) := by decide +kernel
theorem dX3_copy_6 : decode cX3_copy 6 = .ok (.getfield 9, 3) := by decide +kernel
theorem dX3_copy_9 : decode cX3_copy 9 = .ok (.iconst 0, 1) := by decide +kernel
theorem dX3_copy_10 : decode cX3_copy 10 = .ok (.bipush 8, 2) := by decide +kernel
theorem dX3_copy_12 : decode cX3_copy 12 = .ok (.invokestatic 21, 3) := by decide +kernel
theorem dX3_copy_15 : decode cX3_copy 15 = .ok (.aload_n 1, 1) := by decide +kernel
theorem dX3_copy_16 : decode cX3_copy 16 = .ok (.getfield 15, 3) := by decide +kernel
theorem dX3_copy_19 : decode cX3_copy 19 = .ok (.iconst 0, 1) := by decide +kernel
theorem dX3_copy_20 : decode cX3_copy 20 = .ok (.aload_n 0, 1) := by decide +kernel
theorem dX3_copy_21 : decode cX3_copy 21 = .ok (.getfield 15, 3) := by decide +kernel
theorem dX3_copy_24 : decode cX3_copy 24 = .ok (.iconst 0, 1) := by decide +kernel
theorem dX3_copy_25 : decode cX3_copy 25 = .ok (.bipush 8, 2) := by decide +kernel
theorem dX3_copy_27 : decode cX3_copy 27 = .ok (.invokestatic 21, 3) := by decide +kernel
theorem dX3_copy_30 : decode cX3_copy 30 = .ok (.aload_n 0, 1) := by decide +kernel
theorem dX3_copy_31 : decode cX3_copy 31 = .ok (.aload_n 1, 1) := by decide +kernel
theorem dX3_copy_32 : decode cX3_copy 32 = .ok (.getfield 32, 3) := by decide +kernel
theorem dX3_copy_35 : decode cX3_copy 35 = .ok (.putfield 32, 3) := by decide +kernel
theorem dX3_copy_38 : decode cX3_copy 38 = .ok (.aload_n 0, 1) := by decide +kernel
theorem dX3_copy_39 : decode cX3_copy 39 = .ok (.aload_n 1, 1) := by decide +kernel
theorem dX3_copy_40 : decode cX3_copy 40 = .ok (.getfield 33, 3) := by decide +kernel
theorem dX3_copy_43 : decode cX3_copy 43 = .ok (.putfield 33, 3) := by decide +kernel
theorem dX3_copy_46 : decode cX3_copy 46 = .ok (.aload_n 0, 1) := by decide +kernel
theorem dX3_copy_47 : decode cX3_copy 47 = .ok (.aload_n 1, 1) := by decide +kernel
theorem dX3_copy_48 : decode cX3_copy 48 = .ok (.getfield 36, 3) := by decide +kernel
theorem dX3_copy_51 : decode cX3_copy 51 = .ok (.putfield 36, 3) := by decide +kernel
theorem dX3_copy_54 : decode cX3_copy 54 = .ok (.aload_n 0, 1) := by decide +kernel
theorem dX3_copy_55 : decode cX3_copy 55 = .ok (.aload_n 1, 1) := by decide +kernel
theorem dX3_copy_56 : decode cX3_copy 56 = .ok (.getfield 39, 3) := by decide +kernel
theorem dX3_copy_59 : decode cX3_copy 59 = .ok (.putfield 39, 3) := by decide +kernel
theorem dX3_copy_62 : decode cX3_copy 62 = .ok (.aload_n 0, 1) := by decide +kernel
theorem dX3_copy_63 : decode cX3_copy 63 = .ok (.aload_n 1, 1) := by decide +kernel
theorem dX3_copy_64 : decode cX3_copy 64 = .ok (.getfield 42, 3) := by decide +kernel
theorem dX3_copy_67 : decode cX3_copy 67 = .ok (.putfield 42, 3) := by decide +kernel
theorem dX3_copy_70 : decode cX3_copy 70 = .ok (.aload_n 0, 1) := by decide +kernel
theorem dX3_copy_71 : decode cX3_copy 71 = .ok (.aload_n 1, 1) := by decide +kernel
theorem dX3_copy_72 : decode cX3_copy 72 = .ok (.getfield 45, 3) := by decide +kernel
theorem dX3_copy_75 : decode cX3_copy 75 = .ok (.putfield 45, 3) := by decide +kernel
theorem dX3_copy_78 : decode cX3_copy 78 = .ok (.return_, 1) := by decide +kernel

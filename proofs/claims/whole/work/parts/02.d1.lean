theorem dJxe99ae_isNaN_b9ae7_0 : decode cJxe99ae_isNaN_b9ae7 0 = .ok (.dload_n 0, 1) := by decide +kernel
theorem dJxe99ae_isNaN_b9ae7_1 : decode cJxe99ae_isNaN_b9ae7 1 = .ok (.dload_n 0, 1) := by decide +kernel
theorem dJxe99ae_isNaN_b9ae7_2 : decode cJxe99ae_isNaN_b9ae7 2 = .ok (.dcmp .l, 1) := by decide +kernel
theorem dJxe99ae_isNaN_b9ae7_3 : decode cJxe99ae_isNaN_b9ae7 3 = .ok (.ifCond .eq 7, 3) := by decide +kernel
theorem dJxe99ae_isNaN_b9ae7_6 : decode cJxe99ae_isNaN_b9ae7 6 = .ok (.iconst 1, 1) := by decide +kernel
theorem dJxe99ae_isNaN_b9ae7_7 : decode cJxe99ae_isNaN_b9ae7 7 = .ok (.goto 4, 3) := by decide +kernel
theorem dJxe99ae_isNaN_b9ae7_10 : decode cJxe99ae_isNaN_b9ae7 10 = .ok (.iconst 0, 1) := by decide +kernel
theorem dJxe99ae_isNaN_b9ae7_11 : decode cJxe99ae_isNaN_b9ae7 11 = .ok (.ireturn, 1) := by decide +kernel
theorem dJxe99ae_doubleToLongBits_ccdee_0 : decode cJxe99ae_doubleToLongBits_ccdee 0 = .ok (.dload_n 0, 1) := by decide +kernel
theorem dJxe99ae_doubleToLongBits_ccdee_1 : decode cJxe99ae_doubleToLongBits_ccdee 1 = .ok (.invokestatic 122, 3) := by decide +kernel
theorem dJxe99ae_doubleToLongBits_ccdee_4 : decode cJxe99ae_doubleToLongBits_ccdee 4 = .ok (.ifCond .ne 8, 3) := by decide +kernel
theorem dJxe99ae_doubleToLongBits_ccdee_7 : decode cJxe99ae_doubleToLongBits_ccdee 7 = .ok (.dload_n 0, 1) := by decide +kernel
theorem dJxe99ae_doubleToLongBits_ccdee_8 : decode cJxe99ae_doubleToLongBits_ccdee 8 = .ok (.invokestatic 134, 3) := by decide +kernel
theorem dJxe99ae_doubleToLongBits_ccdee_11 : decode cJxe99ae_doubleToLongBits_ccdee 11 = .ok (.lreturn, 1) := by decide +kernel
theorem dJxe99ae_doubleToLongBits_ccdee_12 : decode cJxe99ae_doubleToLongBits_ccdee 12 = .ok (.ldc2_w 137, 3) := by decide +kernel
theorem dJxe99ae_doubleToLongBits_ccdee_15 : decode cJxe99ae_doubleToLongBits_ccdee 15 = .ok (.lreturn, 1) := by decide +kernel
theorem dJxf58ca_isNaN_12338_0 : decode cJxf58ca_isNaN_12338 0 = .ok (.fload_n 0, 1) := by decide +kernel
theorem dJxf58ca_isNaN_12338_1 : decode cJxf58ca_isNaN_12338 1 = .ok (.fload_n 0, 1) := by decide +kernel
theorem dJxf58ca_isNaN_12338_2 : decode cJxf58ca_isNaN_12338 2 = .ok (.fcmp .l, 1) := by decide +kernel
theorem dJxf58ca_isNaN_12338_3 : decode cJxf58ca_isNaN_12338 3 = .ok (.ifCond .eq 7, 3) := by decide +kernel
theorem dJxf58ca_isNaN_12338_6 : decode cJxf58ca_isNaN_12338 6 = .ok (.iconst 1, 1) := by decide +kernel
theorem dJxf58ca_isNaN_12338_7 : decode cJxf58ca_isNaN_12338 7 = .ok (.goto 4, 3) := by decide +kernel
theorem dJxf58ca_isNaN_12338_10 : decode cJxf58ca_isNaN_12338 10 = .ok (.iconst 0, 1) := by decide +kernel
theorem dJxf58ca_isNaN_12338_11 : decode cJxf58ca_isNaN_12338 11 = .ok (.ireturn, 1) := by decide +kernel
theorem dJxf58ca_floatToIntBits_5c35a_0 : decode cJxf58ca_floatToIntBits_5c35a 0 = .ok (.fload_n 0, 1) := by decide +kernel
theorem dJxf58ca_floatToIntBits_5c35a_1 : decode cJxf58ca_floatToIntBits_5c35a 1 = .ok (.invokestatic 59, 3) := by decide +kernel
theorem dJxf58ca_floatToIntBits_5c35a_4 : decode cJxf58ca_floatToIntBits_5c35a 4 = .ok (.ifCond .ne 8, 3) := by decide +kernel
theorem dJxf58ca_floatToIntBits_5c35a_7 : decode cJxf58ca_floatToIntBits_5c35a 7 = .ok (.fload_n 0, 1) := by decide +kernel
theorem dJxf58ca_floatToIntBits_5c35a_8 : decode cJxf58ca_floatToIntBits_5c35a 8 = .ok (.invokestatic 74, 3) := by decide +kernel
theorem dJxf58ca_floatToIntBits_5c35a_11 : decode cJxf58ca_floatToIntBits_5c35a 11 = .ok (.ireturn, 1) := by decide +kernel
theorem dJxf58ca_floatToIntBits_5c35a_12 : decode cJxf58ca_floatToIntBits_5c35a 12 = .ok (.ldc 77, 2) := by decide +kernel
theorem dJxf58ca_floatToIntBits_5c35a_14 : decode cJxf58ca_floatToIntBits_5c35a 14 = .ok (.ireturn, 1) := by decide +kernel
theorem dJ6_bitCount_0f7a4_0 : decode cJ6_bitCount_0f7a4 0 = .ok (.iload_n 0, 1) := by decide +kernel
theorem dJ6_bitCount_0f7a4_1 : decode cJ6_bitCount_0f7a4 1 = .ok (.iload_n 0, 1) := by decide +kernel
theorem dJ6_bitCount_0f7a4_2 : decode cJ6_bitCount_0f7a4 2 = .ok (.iconst 1, 1) := by decide +kernel
theorem dJ6_bitCount_0f7a4_3 : decode cJ6_bitCount_0f7a4 3 = .ok (.iushr, 1) := by decide +kernel
theorem dJ6_bitCount_0f7a4_4 : decode cJ6_bitCount_0f7a4 4 = .ok (.ldc_w 265, 3) := by decide +kernel
theorem dJ6_bitCount_0f7a4_7 : decode cJ6_bitCount_0f7a4 7 = .ok (.iand, 1) := by decide +kernel
theorem dJ6_bitCount_0f7a4_8 : decode cJ6_bitCount_0f7a4 8 = .ok (.isub, 1) := by decide +kernel
theorem dJ6_bitCount_0f7a4_9 : decode cJ6_bitCount_0f7a4 9 = .ok (.istore_n 0, 1) := by decide +kernel
theorem dJ6_bitCount_0f7a4_10 : decode cJ6_bitCount_0f7a4 10 = .ok (.iload_n 0, 1) := by decide +kernel
theorem dJ6_bitCount_0f7a4_11 : decode cJ6_bitCount_0f7a4 11 = .ok (.ldc_w 266, 3) := by decide +kernel
theorem dJ6_bitCount_0f7a4_14 : decode cJ6_bitCount_0f7a4 14 = .ok (.iand, 1) := by decide +kernel
theorem dJ6_bitCount_0f7a4_15 : decode cJ6_bitCount_0f7a4 15 = .ok (.iload_n 0, 1) := by decide +kernel
theorem dJ6_bitCount_0f7a4_16 : decode cJ6_bitCount_0f7a4 16 = .ok (.iconst 2, 1) := by decide +kernel
theorem dJ6_bitCount_0f7a4_17 : decode cJ6_bitCount_0f7a4 17 = .ok (.iushr, 1) := by decide +kernel
theorem dJ6_bitCount_0f7a4_18 : decode cJ6_bitCount_0f7a4 18 = .ok (.ldc_w 266, 3) := by decide +kernel
theorem dJ6_bitCount_0f7a4_21 : decode cJ6_bitCount_0f7a4 21 = .ok (.iand, 1) := by decide +kernel
theorem dJ6_bitCount_0f7a4_22 : decode cJ6_bitCount_0f7a4 22 = .ok (.iadd, 1) := by decide +kernel
theorem dJ6_bitCount_0f7a4_23 : decode cJ6_bitCount_0f7a4 23 = .ok (.istore_n 0, 1) := by decide +kernel
theorem dJ6_bitCount_0f7a4_24 : decode cJ6_bitCount_0f7a4 24 = .ok (.iload_n 0, 1) := by decide +kernel
theorem dJ6_bitCount_0f7a4_25 : decode cJ6_bitCount_0f7a4 25 = .ok (.iload_n 0, 1) := by decide +kernel
theorem dJ6_bitCount_0f7a4_26 : decode cJ6_bitCount_0f7a4 26 = .ok (.iconst 4, 1) := by decide +kernel
theorem dJ6_bitCount_0f7a4_27 : decode cJ6_bitCount_0f7a4 27 = .ok (.iushr, 1) := by decide +kernel
theorem dJ6_bitCount_0f7a4_28 : decode cJ6_bitCount_0f7a4 28 = .ok (.iadd, 1) := by decide +kernel
theorem dJ6_bitCount_0f7a4_29 : decode cJ6_bitCount_0f7a4 29 = .ok (.ldc_w 267, 3) := by decide +kernel
theorem dJ6_bitCount_0f7a4_32 : decode cJ6_bitCount_0f7a4 32 = .ok (.iand, 1) := by decide +kernel
theorem dJ6_bitCount_0f7a4_33 : decode cJ6_bitCount_0f7a4 33 = .ok (.istore_n 0, 1) := by decide +kernel
theorem dJ6_bitCount_0f7a4_34 : decode cJ6_bitCount_0f7a4 34 = .ok (.iload_n 0, 1) := by decide +kernel
theorem dJ6_bitCount_0f7a4_35 : decode cJ6_bitCount_0f7a4 35 = .ok (.iload_n 0, 1) := by decide +kernel
theorem dJ6_bitCount_0f7a4_36 : decode cJ6_bitCount_0f7a4 36 = .ok (.bipush 8, 2) := by decide +kernel
theorem dJ6_bitCount_0f7a4_38 : decode cJ6_bitCount_0f7a4 38 = .ok (.iushr, 1) := by decide +kernel
theorem dJ6_bitCount_0f7a4_39 : decode cJ6_bitCount_0f7a4 39 = .ok (.iadd, 1) := by decide +kernel
theorem dJ6_bitCount_0f7a4_40 : decode cJ6_bitCount_0f7a4 40 = .ok (.istore_n 0, 1) := by decide +kernel
theorem dJ6_bitCount_0f7a4_41 : decode cJ6_bitCount_0f7a4 41 = .ok (.iload_n 0, 1) := by decide +kernel
theorem dJ6_bitCount_0f7a4_42 : decode cJ6_bitCount_0f7a4 42 = .ok (.iload_n 0, 1) := by decide +kernel
theorem dJ6_bitCount_0f7a4_43 : decode cJ6_bitCount_0f7a4 43 = .ok (.bipush 16, 2) := by decide +kernel
theorem dJ6_bitCount_0f7a4_45 : decode cJ6_bitCount_0f7a4 45 = .ok (.iushr, 1) := by decide +kernel
theorem dJ6_bitCount_0f7a4_46 : decode cJ6_bitCount_0f7a4 46 = .ok (.iadd, 1) := by decide +kernel
theorem dJ6_bitCount_0f7a4_47 : decode cJ6_bitCount_0f7a4 47 = .ok (.istore_n 0, 1) := by decide +kernel
theorem dJ6_bitCount_0f7a4_48 : decode cJ6_bitCount_0f7a4 48 = .ok (.iload_n 0, 1) := by decide +kernel
theorem dJ6_bitCount_0f7a4_49 : decode cJ6_bitCount_0f7a4 49 = .ok (.bipush 63, 2) := by decide +kernel
theorem dJ6_bitCount_0f7a4_51 : decode cJ6_bitCount_0f7a4 51 = .ok (.iand, 1) := by decide +kernel
theorem dJ6_bitCount_0f7a4_52 : decode cJ6_bitCount_0f7a4 52 = .ok (.ireturn, 1) := by decide +kernel
theorem dJ9_max_7cf53_0 : decode cJ9_max_7cf53 0 = .ok (.iload_n 0, 1) := by decide +kernel
theorem dJ9_max_7cf53_1 : decode cJ9_max_7cf53 1 = .ok (.iload_n 1, 1) := by decide +kernel
theorem dJ9_max_7cf53_2 : decode cJ9_max_7cf53 2 = .ok (.if_icmp .lt 7, 3) := by decide +kernel
theorem dJ9_max_7cf53_5 : decode cJ9_max_7cf53 5 = .ok (.iload_n 0, 1) := by decide +kernel
theorem dJ9_max_7cf53_6 : decode cJ9_max_7cf53 6 = .ok (.goto 4, 3) := by decide +kernel
theorem dJ9_max_7cf53_9 : decode cJ9_max_7cf53 9 = .ok (.iload_n 1, 1) := by decide +kernel
theorem dJ9_max_7cf53_10 : decode cJ9_max_7cf53 10 = .ok (.ireturn, 1) := by decide +kernel
theorem dJ9_min_7cf53_0 : decode cJ9_min_7cf53 0 = .ok (.iload_n 0, 1) := by decide +kernel
theorem dJ9_min_7cf53_1 : decode cJ9_min_7cf53 1 = .ok (.iload_n 1, 1) := by decide +kernel
theorem dJ9_min_7cf53_2 : decode cJ9_min_7cf53 2 = .ok (.if_icmp .gt 7, 3) := by decide +kernel
theorem dJ9_min_7cf53_5 : decode cJ9_min_7cf53 5 = .ok (.iload_n 0, 1) := by decide +kernel
theorem dJ9_min_7cf53_6 : decode cJ9_min_7cf53 6 = .ok (.goto 4, 3) := by decide +kernel
theorem dJ9_min_7cf53_9 : decode cJ9_min_7cf53 9 = .ok (.iload_n 1, 1) := by decide +kernel
theorem dJ9_min_7cf53_10 : decode cJ9_min_7cf53 10 = .ok (.ireturn, 1) := by decide +kernel
theorem dJ0_length_8abf5_0 : decode cJ0_length_8abf5 0 = .ok (.aload_n 0, 1) := by decide +kernel
theorem dJ0_length_8abf5_1 : decode cJ0_length_8abf5 1 = .ok (.getfield 9, 3) := by decide +kernel
theorem dJ0_length_8abf5_4 : decode cJ0_length_8abf5 4 = .ok (.arraylength, 1) := by decide +kernel
theorem dJ0_length_8abf5_5 : decode cJ0_length_8abf5 5 = .ok (.aload_n 0, 1) := by decide +kernel
theorem dJ0_length_8abf5_6 : decode cJ0_length_8abf5 6 = .ok (.invokevirtual 335, 3) := by decide +kernel
theorem dJ0_length_8abf5_9 : decode cJ0_length_8abf5 9 = .ok (.ishr, 1) := by decide +kernel
theorem dJ0_length_8abf5_10 : decode cJ0_length_8abf5 10 = .ok (.ireturn, 1) := by decide +kernel
theorem dJ0_charAt_5068e_0 : decode cJ0_charAt_5068e 0 = .ok (.aload_n 0, 1) := by decide +kernel
theorem dJ0_charAt_5068e_1 : decode cJ0_charAt_5068e 1 = .ok (.invokevirtual 492, 3) := by decide +kernel
theorem dJ0_charAt_5068e_4 : decode cJ0_charAt_5068e 4 = .ok (.ifCond .eq 12, 3) := by decide +kernel
theorem dJ0_charAt_5068e_7 : decode cJ0_charAt_5068e 7 = .ok (.aload_n 0, 1) := by decide +kernel
theorem dJ0_charAt_5068e_8 : decode cJ0_charAt_5068e 8 = .ok (.getfield 9, 3) := by decide +kernel
theorem dJ0_charAt_5068e_11 : decode cJ0_charAt_5068e 11 = .ok (.iload_n 1, 1) := by decide +kernel
theorem dJ0_charAt_5068e_12 : decode cJ0_charAt_5068e 12 = .ok (.invokestatic 495, 3) := by decide +kernel
theorem dJ0_charAt_5068e_15 : decode cJ0_charAt_5068e 15 = .ok (.ireturn, 1) := by decide +kernel
theorem dJ0_charAt_5068e_16 : decode cJ0_charAt_5068e 16 = .ok (.aload_n 0, 1) := by decide +kernel
theorem dJ0_charAt_5068e_17 : decode cJ0_charAt_5068e 17 = .ok (.getfield 9, 3) := by decide +kernel
theorem dJ0_charAt_5068e_20 : decode cJ0_charAt_5068e 20 = .ok (.iload_n 1, 1) := by decide +kernel
theorem dJ0_charAt_5068e_21 : decode cJ0_charAt_5068e 21 = .ok (.invokestatic 498, 3) := by decide +kernel
theorem dJ0_charAt_5068e_24 : decode cJ0_charAt_5068e 24 = .ok (.ireturn, 1) := by decide +kernel
theorem dJ0_coder_7d493_0 : decode cJ0_coder_7d493 0 = .ok (.getstatic 38, 3) := by decide +kernel
theorem dJ0_coder_7d493_3 : decode cJ0_coder_7d493 3 = .ok (.ifCond .eq 10, 3) := by decide +kernel
theorem dJ0_coder_7d493_6 : decode cJ0_coder_7d493 6 = .ok (.aload_n 0, 1) := by decide +kernel
theorem dJ0_coder_7d493_7 : decode cJ0_coder_7d493 7 = .ok (.getfield 15, 3) := by decide +kernel
theorem dJ0_coder_7d493_10 : decode cJ0_coder_7d493 10 = .ok (.goto 4, 3) := by decide +kernel
theorem dJ0_coder_7d493_13 : decode cJ0_coder_7d493 13 = .ok (.iconst 1, 1) := by decide +kernel
theorem dJ0_coder_7d493_14 : decode cJ0_coder_7d493 14 = .ok (.ireturn, 1) := by decide +kernel
theorem dJ0_isLatin1_aae02_0 : decode cJ0_isLatin1_aae02 0 = .ok (.getstatic 38, 3) := by decide +kernel
theorem dJ0_isLatin1_aae02_3 : decode cJ0_isLatin1_aae02 3 = .ok (.ifCond .eq 14, 3) := by decide +kernel
theorem dJ0_isLatin1_aae02_6 : decode cJ0_isLatin1_aae02 6 = .ok (.aload_n 0, 1) := by decide +kernel
theorem dJ0_isLatin1_aae02_7 : decode cJ0_isLatin1_aae02 7 = .ok (.getfield 15, 3) := by decide +kernel
theorem dJ0_isLatin1_aae02_10 : decode cJ0_isLatin1_aae02 10 = .ok (.ifCond .ne 7, 3) := by decide +kernel
theorem dJ0_isLatin1_aae02_13 : decode cJ0_isLatin1_aae02 13 = .ok (.iconst 1, 1) := by decide +kernel
theorem dJ0_isLatin1_aae02_14 : decode cJ0_isLatin1_aae02 14 = .ok (.goto 4, 3) := by decide +kernel
theorem dJ0_isLatin1_aae02_17 : decode cJ0_isLatin1_aae02 17 = .ok (.iconst 0, 1) := by decide +kernel
theorem dJ0_isLatin1_aae02_18 : decode cJ0_isLatin1_aae02 18 = .ok (.ireturn, 1) := by decide +kernel
theorem dJ0_checkIndex_df160_0 : decode cJ0_checkIndex_df160 0 = .ok (.iload_n 0, 1) := by decide +kernel
theorem dJ0_checkIndex_df160_1 : decode cJ0_checkIndex_df160 1 = .ok (.iload_n 1, 1) := by decide +kernel
theorem dJ0_checkIndex_df160_2 : decode cJ0_checkIndex_df160 2 = .ok (.getstatic 1053, 3) := by decide +kernel
theorem dJ0_checkIndex_df160_5 : decode cJ0_checkIndex_df160 5 = .ok (.invokestatic 1059, 3) := by decide +kernel
theorem dJ0_checkIndex_df160_8 : decode cJ0_checkIndex_df160 8 = .ok (.pop, 1) := by decide +kernel
theorem dJ0_checkIndex_df160_9 : decode cJ0_checkIndex_df160 9 = .ok (.return_, 1) := by decide +kernel
theorem dJ1_charAt_3b067_0 : decode cJ1_charAt_3b067 0 = .ok (.iload_n 1, 1) := by decide +kernel
theorem dJ1_charAt_3b067_1 : decode cJ1_charAt_3b067 1 = .ok (.aload_n 0, 1) := by decide +kernel
theorem dJ1_charAt_3b067_2 : decode cJ1_charAt_3b067 2 = .ok (.arraylength, 1) := by decide +kernel
theorem dJ1_charAt_3b067_3 : decode cJ1_charAt_3b067 3 = .ok (.invokestatic 9, 3) := by decide +kernel
theorem dJ1_charAt_3b067_6 : decode cJ1_charAt_3b067 6 = .ok (.aload_n 0, 1) := by decide +kernel
theorem dJ1_charAt_3b067_7 : decode cJ1_charAt_3b067 7 = .ok (.iload_n 1, 1) := by decide +kernel
theorem dJ1_charAt_3b067_8 : decode cJ1_charAt_3b067 8 = .ok (.baload, 1) := by decide +kernel
theorem dJ1_charAt_3b067_9 : decode cJ1_charAt_3b067 9 = .ok (.sipush 255, 3) := by decide +kernel
theorem dJ1_charAt_3b067_12 : decode cJ1_charAt_3b067 12 = .ok (.iand, 1) := by decide +kernel
theorem dJ1_charAt_3b067_13 : decode cJ1_charAt_3b067 13 = .ok (.i2c, 1) := by decide +kernel
theorem dJ1_charAt_3b067_14 : decode cJ1_charAt_3b067 14 = .ok (.ireturn, 1) := by decide +kernel
theorem dJ2_getChar_3b067_0 : decode cJ2_getChar_3b067 0 = .ok (.getstatic 44, 3) := by decide +kernel
theorem dJ2_getChar_3b067_3 : decode cJ2_getChar_3b067 3 = .ok (.ifCond .ne 25, 3) := by decide +kernel
theorem dJ2_getChar_3b067_6 : decode cJ2_getChar_3b067 6 = .ok (.iload_n 1, 1) := by decide +kernel
theorem dJ2_getChar_3b067_7 : decode cJ2_getChar_3b067 7 = .ok (.ifCond .lt 11, 3) := by decide +kernel
theorem dJ2_getChar_3b067_10 : decode cJ2_getChar_3b067 10 = .ok (.iload_n 1, 1) := by decide +kernel
theorem dJ2_getChar_3b067_11 : decode cJ2_getChar_3b067 11 = .ok (.aload_n 0, 1) := by decide +kernel
theorem dJ2_getChar_3b067_12 : decode cJ2_getChar_3b067 12 = .ok (.invokestatic 48, 3) := by decide +kernel
theorem dJ2_getChar_3b067_15 : decode cJ2_getChar_3b067 15 = .ok (.if_icmp .lt 13, 3) := by decide +kernel
theorem dJ2_getChar_3b067_18 : decode cJ2_getChar_3b067 18 = .ok (.new 52, 3) := by decide +kernel
theorem dJ2_getChar_3b067_21 : decode cJ2_getChar_3b067 21 = .ok (.dup, 1) := by decide +kernel
theorem dJ2_getChar_3b067_22 : decode cJ2_getChar_3b067 22 = .ok (.ldc 54, 2) := by decide +kernel
theorem dJ2_getChar_3b067_24 : decode cJ2_getChar_3b067 24 = .ok (.invokespecial 56, 3) := by decide +kernel
theorem dJ2_getChar_3b067_27 : decode cJ2_getChar_3b067 27 = .ok (.athrow, 1) := by decide +kernel
theorem dJ2_getChar_3b067_28 : decode cJ2_getChar_3b067 28 = .ok (.iload_n 1, 1) := by decide +kernel
theorem dJ2_getChar_3b067_29 : decode cJ2_getChar_3b067 29 = .ok (.iconst 1, 1) := by decide +kernel
theorem dJ2_getChar_3b067_30 : decode cJ2_getChar_3b067 30 = .ok (.ishl, 1) := by decide +kernel
theorem dJ2_getChar_3b067_31 : decode cJ2_getChar_3b067 31 = .ok (.istore_n 1, 1) := by decide +kernel
theorem dJ2_getChar_3b067_32 : decode cJ2_getChar_3b067 32 = .ok (.aload_n 0, 1) := by decide +kernel
theorem dJ2_getChar_3b067_33 : decode cJ2_getChar_3b067 33 = .ok (.iload_n 1, 1) := by decide +kernel
theorem dJ2_getChar_3b067_34 : decode cJ2_getChar_3b067 34 = .ok (.iinc 1 1, 3) := by decide +kernel
theorem dJ2_getChar_3b067_37 : decode cJ2_getChar_3b067 37 = .ok (.baload, 1) := by decide +kernel
theorem dJ2_getChar_3b067_38 : decode cJ2_getChar_3b067 38 = .ok (.sipush 255, 3) := by decide +kernel
theorem dJ2_getChar_3b067_41 : decode cJ2_getChar_3b067 41 = .ok (.iand, 1) := by decide +kernel
theorem dJ2_getChar_3b067_42 : decode cJ2_getChar_3b067 42 = .ok (.getstatic 59, 3) := by decide +kernel
theorem dJ2_getChar_3b067_45 : decode cJ2_getChar_3b067 45 = .ok (.ishl, 1) := by decide +kernel
theorem dJ2_getChar_3b067_46 : decode cJ2_getChar_3b067 46 = .ok (.aload_n 0, 1) := by decide +kernel
theorem dJ2_getChar_3b067_47 : decode cJ2_getChar_3b067 47 = .ok (.iload_n 1, 1) := by decide +kernel
theorem dJ2_getChar_3b067_48 : decode cJ2_getChar_3b067 48 = .ok (.baload, 1) := by decide +kernel
theorem dJ2_getChar_3b067_49 : decode cJ2_getChar_3b067 49 = .ok (.sipush 255, 3) := by decide +kernel
theorem dJ2_getChar_3b067_52 : decode cJ2_getChar_3b067 52 = .ok (.iand, 1) := by decide +kernel
theorem dJ2_getChar_3b067_53 : decode cJ2_getChar_3b067 53 = .ok (.getstatic 63, 3) := by decide +kernel
theorem dJ2_getChar_3b067_56 : decode cJ2_getChar_3b067 56 = .ok (.ishl, 1) := by decide +kernel
theorem dJ2_getChar_3b067_57 : decode cJ2_getChar_3b067 57 = .ok (.ior, 1) := by decide +kernel
theorem dJ2_getChar_3b067_58 : decode cJ2_getChar_3b067 58 = .ok (.i2c, 1) := by decide +kernel
theorem dJ2_getChar_3b067_59 : decode cJ2_getChar_3b067 59 = .ok (.ireturn, 1) := by decide +kernel
theorem dJ2_length_9d52b_0 : decode cJ2_length_9d52b 0 = .ok (.aload_n 0, 1) := by decide +kernel
theorem dJ2_length_9d52b_1 : decode cJ2_length_9d52b 1 = .ok (.arraylength, 1) := by decide +kernel
theorem dJ2_length_9d52b_2 : decode cJ2_length_9d52b 2 = .ok (.iconst 1, 1) := by decide +kernel
theorem dJ2_length_9d52b_3 : decode cJ2_length_9d52b 3 = .ok (.ishr, 1) := by decide +kernel
theorem dJ2_length_9d52b_4 : decode cJ2_length_9d52b 4 = .ok (.ireturn, 1) := by decide +kernel
theorem dJ2_charAt_3b067_0 : decode cJ2_charAt_3b067 0 = .ok (.iload_n 1, 1) := by decide +kernel
theorem dJ2_charAt_3b067_1 : decode cJ2_charAt_3b067 1 = .ok (.aload_n 0, 1) := by decide +kernel
theorem dJ2_charAt_3b067_2 : decode cJ2_charAt_3b067 2 = .ok (.invokestatic 67, 3) := by decide +kernel
theorem dJ2_charAt_3b067_5 : decode cJ2_charAt_3b067 5 = .ok (.aload_n 0, 1) := by decide +kernel
theorem dJ2_charAt_3b067_6 : decode cJ2_charAt_3b067 6 = .ok (.iload_n 1, 1) := by decide +kernel
theorem dJ2_charAt_3b067_7 : decode cJ2_charAt_3b067 7 = .ok (.invokestatic 71, 3) := by decide +kernel
theorem dJ2_charAt_3b067_10 : decode cJ2_charAt_3b067 10 = .ok (.ireturn, 1) := by decide +kernel
theorem dJ2_checkIndex_2214a_0 : decode cJ2_checkIndex_2214a 0 = .ok (.iload_n 0, 1) := by decide +kernel
theorem dJ2_checkIndex_2214a_1 : decode cJ2_checkIndex_2214a 1 = .ok (.aload_n 1, 1) := by decide +kernel
theorem dJ2_checkIndex_2214a_2 : decode cJ2_checkIndex_2214a 2 = .ok (.invokestatic 48, 3) := by decide +kernel
theorem dJ2_checkIndex_2214a_5 : decode cJ2_checkIndex_2214a 5 = .ok (.invokestatic 414, 3) := by decide +kernel
theorem dJ2_checkIndex_2214a_8 : decode cJ2_checkIndex_2214a 8 = .ok (.return_, 1) := by decide +kernel
theorem dJ3_checkIndex_8e157_0 : decode cJ3_checkIndex_8e157 0 = .ok (.iload_n 0, 1) := by decide +kernel
theorem dJ3_checkIndex_8e157_1 : decode cJ3_checkIndex_8e157 1 = .ok (.ifCond .lt 8, 3) := by decide +kernel
theorem dJ3_checkIndex_8e157_4 : decode cJ3_checkIndex_8e157 4 = .ok (.iload_n 0, 1) := by decide +kernel
theorem dJ3_checkIndex_8e157_5 : decode cJ3_checkIndex_8e157 5 = .ok (.iload_n 1, 1) := by decide +kernel
theorem dJ3_checkIndex_8e157_6 : decode cJ3_checkIndex_8e157 6 = .ok (.if_icmp .lt 10, 3) := by decide +kernel
theorem dJ3_checkIndex_8e157_9 : decode cJ3_checkIndex_8e157 9 = .ok (.aload_n 2, 1) := by decide +kernel
theorem dJ3_checkIndex_8e157_10 : decode cJ3_checkIndex_8e157 10 = .ok (.iload_n 0, 1) := by decide +kernel
theorem dJ3_checkIndex_8e157_11 : decode cJ3_checkIndex_8e157 11 = .ok (.iload_n 1, 1) := by decide +kernel
theorem dJ3_checkIndex_8e157_12 : decode cJ3_checkIndex_8e157 12 = .ok (.invokestatic 95, 3) := by decide +kernel
theorem dJ3_checkIndex_8e157_15 : decode cJ3_checkIndex_8e157 15 = .ok (.athrow, 1) := by decide +kernel
theorem dJ3_checkIndex_8e157_16 : decode cJ3_checkIndex_8e157 16 = .ok (.iload_n 0, 1) := by decide +kernel
theorem dJ3_checkIndex_8e157_17 : decode cJ3_checkIndex_8e157 17 = .ok (.ireturn, 1) := by decide +kernel
theorem dX0_init_0 : decode cX0_init 0 = .ok (.aload_n 0, 1) := by decide +kernel
theorem dX0_init_1 : decode cX0_init 1 = .ok (.invokespecial 3, 3) := by decide +kernel
theorem dX0_init_4 : decode cX0_init 4 = .ok (.aload_n 0, 1) := by decide +kernel
theorem dX0_init_5 : decode cX0_init 5 = .ok (.bipush 6, 2) := by decide +kernel
theorem dX0_init_7 : decode cX0_init 7 = .ok (.newarray .int, 2) := by decide +kernel
theorem dX0_init_9 : decode cX0_init 9 = .ok (.putfield 9, 3) := by decide +kernel
theorem dX0_init_12 : decode cX0_init 12 = .ok (.aload_n 0, 1) := by decide +kernel
theorem dX0_init_13 : decode cX0_init 13 = .ok (.bipush 6, 2) := by decide +kernel
theorem dX0_init_15 : decode cX0_init 15 = .ok (.newarray .int, 2) := by decide +kernel
theorem dX0_init_17 : decode cX0_init 17 = .ok (.putfield 15, 3) := by decide +kernel
theorem dX0_init_20 : decode cX0_init 20 = .ok (.aload_n 0, 1) := by decide +kernel
theorem dX0_init_21 : decode cX0_init 21 = .ok (.sipush 360, 3) := by decide +kernel
theorem dX0_init_24 : decode cX0_init 24 = .ok (.newarray .long, 2) := by decide +kernel
theorem dX0_init_26 : decode cX0_init 26 = .ok (.putfield 18, 3) := by decide +kernel
theorem dX0_init_29 : decode cX0_init 29 = .ok (.iconst 0, 1) := by decide +kernel
theorem dX0_init_30 : decode cX0_init 30 = .ok (.istore_n 1, 1) := by decide +kernel
theorem dX0_init_31 : decode cX0_init 31 = .ok (.iload_n 1, 1) := by decide +kernel
theorem dX0_init_32 : decode cX0_init 32 = .ok (.bipush 6, 2) := by decide +kernel
theorem dX0_init_34 : decode cX0_init 34 = .ok (.if_icmp .ge 16, 3) := by decide +kernel
theorem dX0_init_37 : decode cX0_init 37 = .ok (.aload_n 0, 1) := by decide +kernel
theorem dX0_init_38 : decode cX0_init 38 = .ok (.getfield 9, 3) := by decide +kernel
theorem dX0_init_41 : decode cX0_init 41 = .ok (.iload_n 1, 1) := by decide +kernel
theorem dX0_init_42 : decode cX0_init 42 = .ok (.iconst (-1), 1) := by decide +kernel
theorem dX0_init_43 : decode cX0_init 43 = .ok (.iastore, 1) := by decide +kernel
theorem dX0_init_44 : decode cX0_init 44 = .ok (.iinc 1 1, 3) := by decide +kernel
theorem dX0_init_47 : decode cX0_init 47 = .ok (.goto (-16), 3) := by decide +kernel
theorem dX0_init_50 : decode cX0_init 50 = .ok (.return_, 1) := by decide +kernel
theorem dX0_isTape_0 : decode cX0_isTape 0 = .ok (.iload_n 1, 1) := by decide +kernel
theorem dX0_isTape_1 : decode cX0_isTape 1 = .ok (.ifCond .lt 13, 3) := by decide +kernel
theorem dX0_isTape_4 : decode cX0_isTape 4 = .ok (.iload_n 1, 1) := by decide +kernel
theorem dX0_isTape_5 : decode cX0_isTape 5 = .ok (.bipush 6, 2) := by decide +kernel
theorem dX0_isTape_7 : decode cX0_isTape 7 = .ok (.if_icmp .ge 7, 3) := by decide +kernel
theorem dX0_isTape_10 : decode cX0_isTape 10 = .ok (.iconst 1, 1) := by decide +kernel
theorem dX0_isTape_11 : decode cX0_isTape 11 = .ok (.goto 4, 3) := by decide +kernel
theorem dX0_isTape_14 : decode cX0_isTape 14 = .ok (.iconst 0, 1) := by decide +kernel
theorem dX0_isTape_15 : decode cX0_isTape 15 = .ok (.ireturn, 1) := by decide +kernel
theorem dX0_isEmpty_0 : decode cX0_isEmpty 0 = .ok (.aload_n 0, 1) := by decide +kernel
theorem dX0_isEmpty_1 : decode cX0_isEmpty 1 = .ok (.getfield 9, 3) := by decide +kernel
theorem dX0_isEmpty_4 : decode cX0_isEmpty 4 = .ok (.iload_n 1, 1) := by decide +kernel
theorem dX0_isEmpty_5 : decode cX0_isEmpty 5 = .ok (.iaload, 1) := by decide +kernel
theorem dX0_isEmpty_6 : decode cX0_isEmpty 6 = .ok (.iconst (-1), 1) := by decide +kernel
theorem dX0_isEmpty_7 : decode cX0_isEmpty 7 = .ok (.if_icmp .ne 7, 3) := by decide +kernel
theorem dX0_isEmpty_10 : decode cX0_isEmpty 10 = .ok (.iconst 1, 1) := by decide +kernel
theorem dX0_isEmpty_11 : decode cX0_isEmpty 11 = .ok (.goto 4, 3) := by decide +kernel
theorem dX0_isEmpty_14 : decode cX0_isEmpty 14 = .ok (.iconst 0, 1) := by decide +kernel
theorem dX0_isEmpty_15 : decode cX0_isEmpty 15 = .ok (.ireturn, 1) := by decide +kernel
theorem dX0_hasPlace_0 : decode cX0_hasPlace 0 = .ok (.iload_n 2, 1) := by decide +kernel
theorem dX0_hasPlace_1 : decode cX0_hasPlace 1 = .ok (.ifCond .lt 33, 3) := by decide +kernel
theorem dX0_hasPlace_4 : decode cX0_hasPlace 4 = .ok (.iload_n 3, 1) := by decide +kernel
theorem dX0_hasPlace_5 : decode cX0_hasPlace 5 = .ok (.ifCond .lt 29, 3) := by decide +kernel
theorem dX0_hasPlace_8 : decode cX0_hasPlace 8 = .ok (.iload_n 3, 1) := by decide +kernel
theorem dX0_hasPlace_9 : decode cX0_hasPlace 9 = .ok (.aload_n 0, 1) := by decide +kernel
theorem dX0_hasPlace_10 : decode cX0_hasPlace 10 = .ok (.getfield 15, 3) := by decide +kernel
theorem dX0_hasPlace_13 : decode cX0_hasPlace 13 = .ok (.iload_n 1, 1) := by decide +kernel
theorem dX0_hasPlace_14 : decode cX0_hasPlace 14 = .ok (.iaload, 1) := by decide +kernel
theorem dX0_hasPlace_15 : decode cX0_hasPlace 15 = .ok (.if_icmp .gt 19, 3) := by decide +kernel
theorem dX0_hasPlace_18 : decode cX0_hasPlace 18 = .ok (.iload_n 2, 1) := by decide +kernel
theorem dX0_hasPlace_19 : decode cX0_hasPlace 19 = .ok (.aload_n 0, 1) := by decide +kernel
theorem dX0_hasPlace_20 : decode cX0_hasPlace 20 = .ok (.getfield 15, 3) := by decide +kernel
theorem dX0_hasPlace_23 : decode cX0_hasPlace 23 = .ok (.iload_n 1, 1) := by decide +kernel
theorem dX0_hasPlace_24 : decode cX0_hasPlace 24 = .ok (.iaload, 1) := by decide +kernel
theorem dX0_hasPlace_25 : decode cX0_hasPlace 25 = .ok (.iload_n 3, 1) := by decide +kernel
theorem dX0_hasPlace_26 : decode cX0_hasPlace 26 = .ok (.isub, 1) := by decide +kernel
theorem dX0_hasPlace_27 : decode cX0_hasPlace 27 = .ok (.if_icmp .gt 7, 3) := by decide +kernel
theorem dX0_hasPlace_30 : decode cX0_hasPlace 30 = .ok (.iconst 1, 1) := by decide +kernel
theorem dX0_hasPlace_31 : decode cX0_hasPlace 31 = .ok (.goto 4, 3) := by decide +kernel
theorem dX0_hasPlace_34 : decode cX0_hasPlace 34 = .ok (.iconst 0, 1) := by decide +kernel
theorem dX0_hasPlace_35 : decode cX0_hasPlace 35 = .ok (.ireturn, 1) := by decide +kernel
theorem dX0_clear_0 : decode cX0_clear 0 = .ok (.aload_n 0, 1) := by decide +kernel
theorem dX0_clear_1 : decode cX0_clear 1 = .ok (.getfield 9, 3) := by decide +kernel
theorem dX0_clear_4 : decode cX0_clear 4 = .ok (.iload_n 1, 1) := by decide +kernel
theorem dX0_clear_5 : decode cX0_clear 5 = .ok (.iconst (-1), 1) := by decide +kernel
theorem dX0_clear_6 : decode cX0_clear 6 = .ok (.iastore, 1) := by decide +kernel
theorem dX0_clear_7 : decode cX0_clear 7 = .ok (.aload_n 0, 1) := by decide +kernel
theorem dX0_clear_8 : decode cX0_clear 8 = .ok (.getfield 15, 3) := by decide +kernel
theorem dX0_clear_11 : decode cX0_clear 11 = .ok (.iload_n 1, 1) := by decide +kernel
theorem dX0_clear_12 : decode cX0_clear 12 = .ok (.iconst 0, 1) := by decide +kernel
theorem dX0_clear_13 : decode cX0_clear 13 = .ok (.iastore, 1) := by decide +kernel
theorem dX0_clear_14 : decode cX0_clear 14 = .ok (.return_, 1) := by decide +kernel
theorem dX0_make_0 : decode cX0_make 0 = .ok (.aload_n 0, 1) := by decide +kernel
theorem dX0_make_1 : decode cX0_make 1 = .ok (.getfield 9, 3) := by decide +kernel
theorem dX0_make_4 : decode cX0_make 4 = .ok (.iload_n 1, 1) := by decide +kernel
theorem dX0_make_5 : decode cX0_make 5 = .ok (.iload_n 2, 1) := by decide +kernel
theorem dX0_make_6 : decode cX0_make 6 = .ok (.iastore, 1) := by decide +kernel
theorem dX0_make_7 : decode cX0_make 7 = .ok (.aload_n 0, 1) := by decide +kernel
theorem dX0_make_8 : decode cX0_make 8 = .ok (.getfield 15, 3) := by decide +kernel
theorem dX0_make_11 : decode cX0_make 11 = .ok (.iload_n 1, 1) := by decide +kernel
theorem dX0_make_12 : decode cX0_make 12 = .ok (.iload_n 3, 1) := by decide +kernel
theorem dX0_make_13 : decode cX0_make 13 = .ok (.iastore, 1) := by decide +kernel
theorem dX0_make_14 : decode cX0_make 14 = .ok (.iconst 0, 1) := by decide +kernel
theorem dX0_make_15 : decode cX0_make 15 = .ok (.istore 4, 2) := by decide +kernel
theorem dX0_make_17 : decode cX0_make 17 = .ok (.iload 4, 2) := by decide +kernel
theorem dX0_make_19 : decode cX0_make 19 = .ok (.iload_n 3, 1) := by decide +kernel
theorem dX0_make_20 : decode cX0_make 20 = .ok (.if_icmp .ge 22, 3) := by decide +kernel
theorem dX0_make_23 : decode cX0_make 23 = .ok (.aload_n 0, 1) := by decide +kernel
theorem dX0_make_24 : decode cX0_make 24 = .ok (.getfield 18, 3) := by decide +kernel
theorem dX0_make_27 : decode cX0_make 27 = .ok (.iload_n 1, 1) := by decide +kernel
theorem dX0_make_28 : decode cX0_make 28 = .ok (.bipush 60, 2) := by decide +kernel
theorem dX0_make_30 : decode cX0_make 30 = .ok (.imul, 1) := by decide +kernel
theorem dX0_make_31 : decode cX0_make 31 = .ok (.iload 4, 2) := by decide +kernel
theorem dX0_make_33 : decode cX0_make 33 = .ok (.iadd, 1) := by decide +kernel
theorem dX0_make_34 : decode cX0_make 34 = .ok (.lconst 0, 1) := by decide +kernel
theorem dX0_make_35 : decode cX0_make 35 = .ok (.lastore, 1) := by decide +kernel
theorem dX0_make_36 : decode cX0_make 36 = .ok (.iinc 4 1, 3) := by decide +kernel
theorem dX0_make_39 : decode cX0_make 39 = .ok (.goto (-22), 3) := by decide +kernel
theorem dX0_make_42 : decode cX0_make 42 = .ok (.return_, 1) := by decide +kernel
theorem dX0_at_0 : decode cX0_at 0 = .ok (.aload_n 0, 1) := by decide +kernel
theorem dX0_at_1 : decode cX0_at 1 = .ok (.getfield 18, 3) := by decide +kernel
theorem dX0_at_4 : decode cX0_at 4 = .ok (.iload_n 1, 1) := by decide +kernel
theorem dX0_at_5 : decode cX0_at 5 = .ok (.bipush 60, 2) := by decide +kernel
theorem dX0_at_7 : decode cX0_at 7 = .ok (.imul, 1) := by decide +kernel
theorem dX0_at_8 : decode cX0_at 8 = .ok (.iload_n 2, 1) := by decide +kernel
theorem dX0_at_9 : decode cX0_at 9 = .ok (.iadd, 1) := by decide +kernel
theorem dX0_at_10 : decode cX0_at 10 = .ok (.laload, 1) := by decide +kernel
theorem dX0_at_11 : decode cX0_at 11 = .ok (.lreturn, 1) := by decide +kernel
theorem dX0_put_0 : decode cX0_put 0 = .ok (.aload_n 0, 1) := by decide +kernel
theorem dX0_put_1 : decode cX0_put 1 = .ok (.getfield 18, 3) := by decide +kernel
theorem dX0_put_4 : decode cX0_put 4 = .ok (.iload_n 1, 1) := by decide +kernel
theorem dX0_put_5 : decode cX0_put 5 = .ok (.bipush 60, 2) := by decide +kernel
theorem dX0_put_7 : decode cX0_put 7 = .ok (.imul, 1) := by decide +kernel
theorem dX0_put_8 : decode cX0_put 8 = .ok (.iload_n 2, 1) := by decide +kernel
theorem dX0_put_9 : decode cX0_put 9 = .ok (.iadd, 1) := by decide +kernel
theorem dX0_put_10 : decode cX0_put 10 = .ok (.aload_n 0, 1) := by decide +kernel
theorem dX0_put_11 : decode cX0_put 11 = .ok (.getfield 9, 3) := by decide +kernel
theorem dX0_put_14 : decode cX0_put 14 = .ok (.iload_n 1, 1) := by decide +kernel
theorem dX0_put_15 : decode cX0_put 15 = .ok (.iaload, 1) := by decide +kernel
theorem dX0_put_16 : decode cX0_put 16 = .ok (.lload_n 3, 1) := by decide +kernel
theorem dX0_put_17 : decode cX0_put 17 = .ok (.invokestatic 22, 3) := by decide +kernel
theorem dX0_put_20 : decode cX0_put 20 = .ok (.lastore, 1) := by decide +kernel
theorem dX0_put_21 : decode cX0_put 21 = .ok (.return_, 1) := by decide +kernel
theorem dX0_cutDown_0 : decode cX0_cutDown 0 = .ok (.iload_n 0, 1) := by decide +kernel
theorem dX0_cutDown_1 : decode cX0_cutDown 1 = .ok (.tableswitch 47 0 3 #[31, 36, 41, 45], 31) := by decide +kernel
theorem dX0_cutDown_32 : decode cX0_cutDown 32 = .ok (.lload_n 1, 1) := by decide +kernel
theorem dX0_cutDown_33 : decode cX0_cutDown 33 = .ok (.l2i, 1) := by decide +kernel
theorem dX0_cutDown_34 : decode cX0_cutDown 34 = .ok (.i2b, 1) := by decide +kernel
theorem dX0_cutDown_35 : decode cX0_cutDown 35 = .ok (.i2l, 1) := by decide +kernel
theorem dX0_cutDown_36 : decode cX0_cutDown 36 = .ok (.lreturn, 1) := by decide +kernel
theorem dX0_cutDown_37 : decode cX0_cutDown 37 = .ok (.lload_n 1, 1) := by decide +kernel
theorem dX0_cutDown_38 : decode cX0_cutDown 38 = .ok (.l2i, 1) := by decide +kernel
theorem dX0_cutDown_39 : decode cX0_cutDown 39 = .ok (.i2s, 1) := by decide +kernel
theorem dX0_cutDown_40 : decode cX0_cutDown 40 = .ok (.i2l, 1) := by decide +kernel
theorem dX0_cutDown_41 : decode cX0_cutDown 41 = .ok (.lreturn, 1) := by decide +kernel
theorem dX0_cutDown_42 : decode cX0_cutDown 42 = .ok (.lload_n 1, 1) := by decide +kernel
theorem dX0_cutDown_43 : decode cX0_cutDown 43 = .ok (.l2i, 1) := by decide +kernel
theorem dX0_cutDown_44 : decode cX0_cutDown 44 = .ok (.i2l, 1) := by decide +kernel
theorem dX0_cutDown_45 : decode cX0_cutDown 45 = .ok (.lreturn, 1) := by decide +kernel
theorem dX0_cutDown_46 : decode cX0_cutDown 46 = .ok (.lload_n 1, 1) := by decide +kernel
theorem dX0_cutDown_47 : decode cX0_cutDown 47 = .ok (.lreturn, 1) := by decide +kernel
theorem dX0_cutDown_48 : decode cX0_cutDown 48 = .ok (.lload_n 1, 1) := by decide +kernel
theorem dX0_cutDown_49 : decode cX0_cutDown 49 = .ok (.lconst 0, 1) := by decide +kernel
theorem dX0_cutDown_50 : decode cX0_cutDown 50 = .ok (.lcmp, 1) := by decide +kernel
theorem dX0_cutDown_51 : decode cX0_cutDown 51 = .ok (.ifCond .eq 7, 3) := by decide +kernel
theorem dX0_cutDown_54 : decode cX0_cutDown 54 = .ok (.lconst 1, 1) := by decide +kernel
theorem dX0_cutDown_55 : decode cX0_cutDown 55 = .ok (.goto 4, 3) := by decide +kernel
theorem dX0_cutDown_58 : decode cX0_cutDown 58 = .ok (.lconst 0, 1) := by decide +kernel
theorem dX0_cutDown_59 : decode cX0_cutDown 59 = .ok (.lreturn, 1) := by decide +kernel
theorem dX0_move_0 : decode cX0_move 0 = .ok (.aload_n 0, 1) := by decide +kernel
theorem dX0_move_1 : decode cX0_move 1 = .ok (.getfield 18, 3) := by decide +kernel
theorem dX0_move_4 : decode cX0_move 4 = .ok (.iload_n 1, 1) := by decide +kernel
theorem dX0_move_5 : decode cX0_move 5 = .ok (.bipush 60, 2) := by decide +kernel
theorem dX0_move_7 : decode cX0_move 7 = .ok (.imul, 1) := by decide +kernel
theorem dX0_move_8 : decode cX0_move 8 = .ok (.iload_n 2, 1) := by decide +kernel
theorem dX0_move_9 : decode cX0_move 9 = .ok (.iadd, 1) := by decide +kernel
theorem dX0_move_10 : decode cX0_move 10 = .ok (.aload_n 0, 1) := by decide +kernel
theorem dX0_move_11 : decode cX0_move 11 = .ok (.getfield 18, 3) := by decide +kernel
theorem dX0_move_14 : decode cX0_move 14 = .ok (.iload_n 3, 1) := by decide +kernel
theorem dX0_move_15 : decode cX0_move 15 = .ok (.bipush 60, 2) := by decide +kernel
theorem dX0_move_17 : decode cX0_move 17 = .ok (.imul, 1) := by decide +kernel
theorem dX0_move_18 : decode cX0_move 18 = .ok (.iload 4, 2) := by decide +kernel
theorem dX0_move_20 : decode cX0_move 20 = .ok (.iadd, 1) := by decide +kernel
theorem dX0_move_21 : decode cX0_move 21 = .ok (.iload 5, 2) := by decide +kernel
theorem dX0_move_23 : decode cX0_move 23 = .ok (.invokestatic 26, 3) := by decide +kernel
theorem dX0_move_26 : decode cX0_move 26 = .ok (.return_, 1) := by decide +kernel
theorem dX1_init_0 : decode cX1_init 0 = .ok (.aload_n 0, 1) := by decide +kernel
theorem dX1_init_1 : decode cX1_init 1 = .ok (.invokespecial 3, 3) := by decide +kernel
theorem dX1_init_4 : decode cX1_init 4 = .ok (.aload_n 0, 1) := by decide +kernel
theorem dX1_init_5 : decode cX1_init 5 = .ok (.sipush 160, 3) := by decide +kernel
theorem dX1_init_8 : decode cX1_init 8 = .ok (.newarray .int, 2) := by decide +kernel
theorem dX1_init_10 : decode cX1_init 10 = .ok (.putfield 9, 3) := by decide +kernel
theorem dX1_init_13 : decode cX1_init 13 = .ok (.aload_n 0, 1) := by decide +kernel
theorem dX1_init_14 : decode cX1_init 14 = .ok (.iconst 0, 1) := by decide +kernel
theorem dX1_init_15 : decode cX1_init 15 = .ok (.putfield 15, 3) := by decide +kernel
theorem dX1_init_18 : decode cX1_init 18 = .ok (.return_, 1) := by decide +kernel
theorem dX1_write_0 : decode cX1_write 0 = .ok (.aload_n 0, 1) := by decide +kernel
theorem dX1_write_1 : decode cX1_write 1 = .ok (.getfield 15, 3) := by decide +kernel
theorem dX1_write_4 : decode cX1_write 4 = .ok (.sipush 160, 3) := by decide +kernel
theorem dX1_write_7 : decode cX1_write 7 = .ok (.if_icmp .ge 23, 3) := by decide +kernel
theorem dX1_write_10 : decode cX1_write 10 = .ok (.aload_n 0, 1) := by decide +kernel
theorem dX1_write_11 : decode cX1_write 11 = .ok (.getfield 9, 3) := by decide +kernel
theorem dX1_write_14 : decode cX1_write 14 = .ok (.aload_n 0, 1) := by decide +kernel
theorem dX1_write_15 : decode cX1_write 15 = .ok (.getfield 15, 3) := by decide +kernel
theorem dX1_write_18 : decode cX1_write 18 = .ok (.iload_n 1, 1) := by decide +kernel
theorem dX1_write_19 : decode cX1_write 19 = .ok (.iastore, 1) := by decide +kernel
theorem dX1_write_20 : decode cX1_write 20 = .ok (.aload_n 0, 1) := by decide +kernel
theorem dX1_write_21 : decode cX1_write 21 = .ok (.dup, 1) := by decide +kernel
theorem dX1_write_22 : decode cX1_write 22 = .ok (.getfield 15, 3) := by decide +kernel
theorem dX1_write_25 : decode cX1_write 25 = .ok (.iconst 1, 1) := by decide +kernel
theorem dX1_write_26 : decode cX1_write 26 = .ok (.iadd, 1) := by decide +kernel
theorem dX1_write_27 : decode cX1_write 27 = .ok (.putfield 15, 3) := by decide +kernel
theorem dX1_write_30 : decode cX1_write 30 = .ok (.return_, 1) := by decide +kernel
theorem dX1_writeUnit_0 : decode cX1_writeUnit 0 = .ok (.aload_n 0, 1) := by decide +kernel
theorem dX1_writeUnit_1 : decode cX1_writeUnit 1 = .ok (.bipush 97, 2) := by decide +kernel
theorem dX1_writeUnit_3 : decode cX1_writeUnit 3 = .ok (.iload_n 1, 1) := by decide +kernel
theorem dX1_writeUnit_4 : decode cX1_writeUnit 4 = .ok (.iadd, 1) := by decide +kernel
theorem dX1_writeUnit_5 : decode cX1_writeUnit 5 = .ok (.invokevirtual 19, 3) := by decide +kernel
theorem dX1_writeUnit_8 : decode cX1_writeUnit 8 = .ok (.return_, 1) := by decide +kernel
theorem dX1_writeBetween_0 : decode cX1_writeBetween 0 = .ok (.aload_n 0, 1) := by decide +kernel
theorem dX1_writeBetween_1 : decode cX1_writeBetween 1 = .ok (.getfield 15, 3) := by decide +kernel
theorem dX1_writeBetween_4 : decode cX1_writeBetween 4 = .ok (.ifCond .le 8, 3) := by decide +kernel
theorem dX1_writeBetween_7 : decode cX1_writeBetween 7 = .ok (.aload_n 0, 1) := by decide +kernel
theorem dX1_writeBetween_8 : decode cX1_writeBetween 8 = .ok (.iload_n 1, 1) := by decide +kernel
theorem dX1_writeBetween_9 : decode cX1_writeBetween 9 = .ok (.invokevirtual 19, 3) := by decide +kernel
theorem dX1_writeBetween_12 : decode cX1_writeBetween 12 = .ok (.return_, 1) := by decide +kernel
theorem dX1_drawTies_0 : decode cX1_drawTies 0 = .ok (.aload_n 0, 1) := by decide +kernel
theorem dX1_drawTies_1 : decode cX1_drawTies 1 = .ok (.iconst 0, 1) := by decide +kernel
theorem dX1_drawTies_2 : decode cX1_drawTies 2 = .ok (.putfield 15, 3) := by decide +kernel
theorem dX1_drawTies_5 : decode cX1_drawTies 5 = .ok (.iconst 0, 1) := by decide +kernel
theorem dX1_drawTies_6 : decode cX1_drawTies 6 = .ok (.istore_n 2, 1) := by decide +kernel
theorem dX1_drawTies_7 : decode cX1_drawTies 7 = .ok (.iload_n 2, 1) := by decide +kernel
theorem dX1_drawTies_8 : decode cX1_drawTies 8 = .ok (.aload_n 1, 1) := by decide +kernel
theorem dX1_drawTies_9 : decode cX1_drawTies 9 = .ok (.getfield 23, 3) := by decide +kernel
theorem dX1_drawTies_12 : decode cX1_drawTies 12 = .ok (.if_icmp .ge 65, 3) := by decide +kernel
theorem dX1_drawTies_15 : decode cX1_drawTies 15 = .ok (.aload_n 1, 1) := by decide +kernel
theorem dX1_drawTies_16 : decode cX1_drawTies 16 = .ok (.iload_n 2, 1) := by decide +kernel
theorem dX1_drawTies_17 : decode cX1_drawTies 17 = .ok (.invokevirtual 28, 3) := by decide +kernel
theorem dX1_drawTies_20 : decode cX1_drawTies 20 = .ok (.istore_n 3, 1) := by decide +kernel
theorem dX1_drawTies_21 : decode cX1_drawTies 21 = .ok (.iconst 0, 1) := by decide +kernel
theorem dX1_drawTies_22 : decode cX1_drawTies 22 = .ok (.istore 4, 2) := by decide +kernel
theorem dX1_drawTies_24 : decode cX1_drawTies 24 = .ok (.iload 4, 2) := by decide +kernel
theorem dX1_drawTies_26 : decode cX1_drawTies 26 = .ok (.aload_n 1, 1) := by decide +kernel
theorem dX1_drawTies_27 : decode cX1_drawTies 27 = .ok (.getfield 23, 3) := by decide +kernel
theorem dX1_drawTies_30 : decode cX1_drawTies 30 = .ok (.if_icmp .ge 41, 3) := by decide +kernel
theorem dX1_drawTies_33 : decode cX1_drawTies 33 = .ok (.iload_n 3, 1) := by decide +kernel
theorem dX1_drawTies_34 : decode cX1_drawTies 34 = .ok (.iload 4, 2) := by decide +kernel
theorem dX1_drawTies_36 : decode cX1_drawTies 36 = .ok (.invokestatic 32, 3) := by decide +kernel
theorem dX1_drawTies_39 : decode cX1_drawTies 39 = .ok (.ifCond .eq 26, 3) := by decide +kernel
theorem dX1_drawTies_42 : decode cX1_drawTies 42 = .ok (.aload_n 0, 1) := by decide +kernel
theorem dX1_drawTies_43 : decode cX1_drawTies 43 = .ok (.bipush 59, 2) := by decide +kernel
theorem dX1_drawTies_45 : decode cX1_drawTies 45 = .ok (.invokevirtual 36, 3) := by decide +kernel
theorem dX1_drawTies_48 : decode cX1_drawTies 48 = .ok (.aload_n 0, 1) := by decide +kernel
theorem dX1_drawTies_49 : decode cX1_drawTies 49 = .ok (.iload_n 2, 1) := by decide +kernel
theorem dX1_drawTies_50 : decode cX1_drawTies 50 = .ok (.invokevirtual 39, 3) := by decide +kernel
theorem dX1_drawTies_53 : decode cX1_drawTies 53 = .ok (.aload_n 0, 1) := by decide +kernel
theorem dX1_drawTies_54 : decode cX1_drawTies 54 = .ok (.bipush 62, 2) := by decide +kernel
theorem dX1_drawTies_56 : decode cX1_drawTies 56 = .ok (.invokevirtual 19, 3) := by decide +kernel
theorem dX1_drawTies_59 : decode cX1_drawTies 59 = .ok (.aload_n 0, 1) := by decide +kernel
theorem dX1_drawTies_60 : decode cX1_drawTies 60 = .ok (.iload 4, 2) := by decide +kernel
theorem dX1_drawTies_62 : decode cX1_drawTies 62 = .ok (.invokevirtual 39, 3) := by decide +kernel
theorem dX1_drawTies_65 : decode cX1_drawTies 65 = .ok (.iinc 4 1, 3) := by decide +kernel
theorem dX1_drawTies_68 : decode cX1_drawTies 68 = .ok (.goto (-44), 3) := by decide +kernel
theorem dX1_drawTies_71 : decode cX1_drawTies 71 = .ok (.iinc 2 1, 3) := by decide +kernel
theorem dX1_drawTies_74 : decode cX1_drawTies 74 = .ok (.goto (-67), 3) := by decide +kernel
theorem dX1_drawTies_77 : decode cX1_drawTies 77 = .ok (.return_, 1) := by decide +kernel
theorem dX1_drawLevels_0 : decode cX1_drawLevels 0 = .ok (.aload_n 0, 1) := by decide +kernel
theorem dX1_drawLevels_1 : decode cX1_drawLevels 1 = .ok (.iconst 0, 1) := by decide +kernel
theorem dX1_drawLevels_2 : decode cX1_drawLevels 2 = .ok (.putfield 15, 3) := by decide +kernel
theorem dX1_drawLevels_5 : decode cX1_drawLevels 5 = .ok (.aload_n 1, 1) := by decide +kernel
theorem dX1_drawLevels_6 : decode cX1_drawLevels 6 = .ok (.invokevirtual 42, 3) := by decide +kernel
theorem dX1_drawLevels_9 : decode cX1_drawLevels 9 = .ok (.iconst 1, 1) := by decide +kernel
theorem dX1_drawLevels_10 : decode cX1_drawLevels 10 = .ok (.isub, 1) := by decide +kernel
theorem dX1_drawLevels_11 : decode cX1_drawLevels 11 = .ok (.istore_n 2, 1) := by decide +kernel
theorem dX1_drawLevels_12 : decode cX1_drawLevels 12 = .ok (.iload_n 2, 1) := by decide +kernel
theorem dX1_drawLevels_13 : decode cX1_drawLevels 13 = .ok (.ifCond .lt 46, 3) := by decide +kernel
theorem dX1_drawLevels_16 : decode cX1_drawLevels 16 = .ok (.aload_n 0, 1) := by decide +kernel
theorem dX1_drawLevels_17 : decode cX1_drawLevels 17 = .ok (.bipush 124, 2) := by decide +kernel
theorem dX1_drawLevels_19 : decode cX1_drawLevels 19 = .ok (.invokevirtual 36, 3) := by decide +kernel
theorem dX1_drawLevels_22 : decode cX1_drawLevels 22 = .ok (.iconst 0, 1) := by decide +kernel
theorem dX1_drawLevels_23 : decode cX1_drawLevels 23 = .ok (.istore_n 3, 1) := by decide +kernel
theorem dX1_drawLevels_24 : decode cX1_drawLevels 24 = .ok (.iload_n 3, 1) := by decide +kernel
theorem dX1_drawLevels_25 : decode cX1_drawLevels 25 = .ok (.aload_n 1, 1) := by decide +kernel
theorem dX1_drawLevels_26 : decode cX1_drawLevels 26 = .ok (.getfield 23, 3) := by decide +kernel
theorem dX1_drawLevels_29 : decode cX1_drawLevels 29 = .ok (.if_icmp .ge 24, 3) := by decide +kernel
theorem dX1_drawLevels_32 : decode cX1_drawLevels 32 = .ok (.aload_n 1, 1) := by decide +kernel
theorem dX1_drawLevels_33 : decode cX1_drawLevels 33 = .ok (.getfield 46, 3) := by decide +kernel
theorem dX1_drawLevels_36 : decode cX1_drawLevels 36 = .ok (.iload_n 3, 1) := by decide +kernel
theorem dX1_drawLevels_37 : decode cX1_drawLevels 37 = .ok (.iaload, 1) := by decide +kernel
theorem dX1_drawLevels_38 : decode cX1_drawLevels 38 = .ok (.iload_n 2, 1) := by decide +kernel
theorem dX1_drawLevels_39 : decode cX1_drawLevels 39 = .ok (.if_icmp .ne 8, 3) := by decide +kernel
theorem dX1_drawLevels_42 : decode cX1_drawLevels 42 = .ok (.aload_n 0, 1) := by decide +kernel
theorem dX1_drawLevels_43 : decode cX1_drawLevels 43 = .ok (.iload_n 3, 1) := by decide +kernel
theorem dX1_drawLevels_44 : decode cX1_drawLevels 44 = .ok (.invokevirtual 39, 3) := by decide +kernel
theorem dX1_drawLevels_47 : decode cX1_drawLevels 47 = .ok (.iinc 3 1, 3) := by decide +kernel
theorem dX1_drawLevels_50 : decode cX1_drawLevels 50 = .ok (.goto (-26), 3) := by decide +kernel
theorem dX1_drawLevels_53 : decode cX1_drawLevels 53 = .ok (.iinc 2 (-1), 3) := by decide +kernel
theorem dX1_drawLevels_56 : decode cX1_drawLevels 56 = .ok (.goto (-44), 3) := by decide +kernel
theorem dX1_drawLevels_59 : decode cX1_drawLevels 59 = .ok (.return_, 1) := by decide +kernel
theorem dX1_drawCycle_0 : decode cX1_drawCycle 0 = .ok (.aload_n 0, 1) := by decide +kernel
theorem dX1_drawCycle_1 : decode cX1_drawCycle 1 = .ok (.iconst 0, 1) := by decide +kernel
theorem dX1_drawCycle_2 : decode cX1_drawCycle 2 = .ok (.putfield 15, 3) := by decide +kernel
theorem dX1_drawCycle_5 : decode cX1_drawCycle 5 = .ok (.aload_n 1, 1) := by decide +kernel
theorem dX1_drawCycle_6 : decode cX1_drawCycle 6 = .ok (.invokevirtual 49, 3) := by decide +kernel
theorem dX1_drawCycle_9 : decode cX1_drawCycle 9 = .ok (.istore_n 2, 1) := by decide +kernel
theorem dX1_drawCycle_10 : decode cX1_drawCycle 10 = .ok (.iconst 0, 1) := by decide +kernel
theorem dX1_drawCycle_11 : decode cX1_drawCycle 11 = .ok (.istore_n 3, 1) := by decide +kernel
theorem dX1_drawCycle_12 : decode cX1_drawCycle 12 = .ok (.iload_n 3, 1) := by decide +kernel
theorem dX1_drawCycle_13 : decode cX1_drawCycle 13 = .ok (.iload_n 2, 1) := by decide +kernel
theorem dX1_drawCycle_14 : decode cX1_drawCycle 14 = .ok (.if_icmp .ge 25, 3) := by decide +kernel
theorem dX1_drawCycle_17 : decode cX1_drawCycle 17 = .ok (.aload_n 0, 1) := by decide +kernel
theorem dX1_drawCycle_18 : decode cX1_drawCycle 18 = .ok (.aload_n 1, 1) := by decide +kernel
theorem dX1_drawCycle_19 : decode cX1_drawCycle 19 = .ok (.getfield 52, 3) := by decide +kernel
theorem dX1_drawCycle_22 : decode cX1_drawCycle 22 = .ok (.iload_n 3, 1) := by decide +kernel
theorem dX1_drawCycle_23 : decode cX1_drawCycle 23 = .ok (.iaload, 1) := by decide +kernel
theorem dX1_drawCycle_24 : decode cX1_drawCycle 24 = .ok (.invokevirtual 39, 3) := by decide +kernel
theorem dX1_drawCycle_27 : decode cX1_drawCycle 27 = .ok (.aload_n 0, 1) := by decide +kernel
theorem dX1_drawCycle_28 : decode cX1_drawCycle 28 = .ok (.bipush 62, 2) := by decide +kernel
theorem dX1_drawCycle_30 : decode cX1_drawCycle 30 = .ok (.invokevirtual 19, 3) := by decide +kernel
theorem dX1_drawCycle_33 : decode cX1_drawCycle 33 = .ok (.iinc 3 1, 3) := by decide +kernel
theorem dX1_drawCycle_36 : decode cX1_drawCycle 36 = .ok (.goto (-24), 3) := by decide +kernel
theorem dX1_drawCycle_39 : decode cX1_drawCycle 39 = .ok (.aload_n 0, 1) := by decide +kernel
theorem dX1_drawCycle_40 : decode cX1_drawCycle 40 = .ok (.aload_n 1, 1) := by decide +kernel
theorem dX1_drawCycle_41 : decode cX1_drawCycle 41 = .ok (.getfield 52, 3) := by decide +kernel
theorem dX1_drawCycle_44 : decode cX1_drawCycle 44 = .ok (.iconst 0, 1) := by decide +kernel
theorem dX1_drawCycle_45 : decode cX1_drawCycle 45 = .ok (.iaload, 1) := by decide +kernel
theorem dX1_drawCycle_46 : decode cX1_drawCycle 46 = .ok (.invokevirtual 39, 3) := by decide +kernel
theorem dX1_drawCycle_49 : decode cX1_drawCycle 49 = .ok (.return_, 1) := by decide +kernel
theorem dX2_init_0 : decode cX2_init 0 = .ok (.aload_n 0, 1) := by decide +kernel
theorem dX2_init_1 : decode cX2_init 1 = .ok (.invokespecial 3, 3) := by decide +kernel
theorem dX2_init_4 : decode cX2_init 4 = .ok (.aload_n 0, 1) := by decide +kernel
theorem dX2_init_5 : decode cX2_init 5 = .ok (.iconst 0, 1) := by decide +kernel
theorem dX2_init_6 : decode cX2_init 6 = .ok (.putfield 9, 3) := by decide +kernel
theorem dX2_init_9 : decode cX2_init 9 = .ok (.aload_n 0, 1) := by decide +kernel
theorem dX2_init_10 : decode cX2_init 10 = .ok (.iconst 0, 1) := by decide +kernel
theorem dX2_init_11 : decode cX2_init 11 = .ok (.putfield 15, 3) := by decide +kernel
theorem dX2_init_14 : decode cX2_init 14 = .ok (.aload_n 0, 1) := by decide +kernel
theorem dX2_init_15 : decode cX2_init 15 = .ok (.iconst 0, 1) := by decide +kernel
theorem dX2_init_16 : decode cX2_init 16 = .ok (.putfield 18, 3) := by decide +kernel
theorem dX2_init_19 : decode cX2_init 19 = .ok (.aload_n 0, 1) := by decide +kernel
theorem dX2_init_20 : decode cX2_init 20 = .ok (.iconst 0, 1) := by decide +kernel
theorem dX2_init_21 : decode cX2_init 21 = .ok (.putfield 21, 3) := by decide +kernel
theorem dX2_init_24 : decode cX2_init 24 = .ok (.aload_n 0, 1) := by decide +kernel
theorem dX2_init_25 : decode cX2_init 25 = .ok (.iconst 0, 1) := by decide +kernel
theorem dX2_init_26 : decode cX2_init 26 = .ok (.putfield 24, 3) := by decide +kernel
theorem dX2_init_29 : decode cX2_init 29 = .ok (.aload_n 0, 1) := by decide +kernel
theorem dX2_init_30 : decode cX2_init 30 = .ok (.bipush 60, 2) := by decide +kernel
theorem dX2_init_32 : decode cX2_init 32 = .ok (.newarray .int, 2) := by decide +kernel
theorem dX2_init_34 : decode cX2_init 34 = .ok (.putfield 27, 3) := by decide +kernel
theorem dX2_init_37 : decode cX2_init 37 = .ok (.aload_n 0, 1) := by decide +kernel
theorem dX2_init_38 : decode cX2_init 38 = .ok (.bipush 40, 2) := by decide +kernel
theorem dX2_init_40 : decode cX2_init 40 = .ok (.newarray .int, 2) := by decide +kernel
theorem dX2_init_42 : decode cX2_init 42 = .ok (.putfield 31, 3) := by decide +kernel
theorem dX2_init_45 : decode cX2_init 45 = .ok (.aload_n 0, 1) := by decide +kernel
theorem dX2_init_46 : decode cX2_init 46 = .ok (.bipush 40, 2) := by decide +kernel
theorem dX2_init_48 : decode cX2_init 48 = .ok (.newarray .int, 2) := by decide +kernel
theorem dX2_init_50 : decode cX2_init 50 = .ok (.putfield 34, 3) := by decide +kernel
theorem dX2_init_53 : decode cX2_init 53 = .ok (.aload_n 0, 1) := by decide +kernel
theorem dX2_init_54 : decode cX2_init 54 = .ok (.bipush 12, 2) := by decide +kernel
theorem dX2_init_56 : decode cX2_init 56 = .ok (.newarray .int, 2) := by decide +kernel
theorem dX2_init_58 : decode cX2_init 58 = .ok (.putfield 37, 3) := by decide +kernel
theorem dX2_init_61 : decode cX2_init 61 = .ok (.aload_n 0, 1) := by decide +kernel
theorem dX2_init_62 : decode cX2_init 62 = .ok (.bipush 12, 2) := by decide +kernel
theorem dX2_init_64 : decode cX2_init 64 = .ok (.newarray .int, 2) := by decide +kernel
theorem dX2_init_66 : decode cX2_init 66 = .ok (.putfield 40, 3) := by decide +kernel
theorem dX2_init_69 : decode cX2_init 69 = .ok (.aload_n 0, 1) := by decide +kernel
theorem dX2_init_70 : decode cX2_init 70 = .ok (.bipush 12, 2) := by decide +kernel
theorem dX2_init_72 : decode cX2_init 72 = .ok (.newarray .int, 2) := by decide +kernel
theorem dX2_init_74 : decode cX2_init 74 = .ok (.putfield 43, 3) := by decide +kernel
theorem dX2_init_77 : decode cX2_init 77 = .ok (.aload_n 0, 1) := by decide +kernel
theorem dX2_init_78 : decode cX2_init 78 = .ok (.iconst 5, 1) := by decide +kernel
theorem dX2_init_79 : decode cX2_init 79 = .ok (.newarray .int, 2) := by decide +kernel
theorem dX2_init_81 : decode cX2_init 81 = .ok (.putfield 46, 3) := by decide +kernel
theorem dX2_init_84 : decode cX2_init 84 = .ok (.aload_n 0, 1) := by decide +kernel
theorem dX2_init_85 : decode cX2_init 85 = .ok (.iconst 5, 1) := by decide +kernel
theorem dX2_init_86 : decode cX2_init 86 = .ok (.newarray .int, 2) := by decide +kernel
theorem dX2_init_88 : decode cX2_init 88 = .ok (.putfield 49, 3) := by decide +kernel
theorem dX2_init_91 : decode cX2_init 91 = .ok (.aload_n 0, 1) := by decide +kernel
theorem dX2_init_92 : decode cX2_init 92 = .ok (.iconst 5, 1) := by decide +kernel
theorem dX2_init_93 : decode cX2_init 93 = .ok (.newarray .boolean, 2) := by decide +kernel
theorem dX2_init_95 : decode cX2_init 95 = .ok (.putfield 52, 3) := by decide +kernel
theorem dX2_init_98 : decode cX2_init 98 = .ok (.aload_n 0, 1) := by decide +kernel
theorem dX2_init_99 : decode cX2_init 99 = .ok (.bipush 8, 2) := by decide +kernel
theorem dX2_init_101 : decode cX2_init 101 = .ok (.newarray .int, 2) := by decide +kernel
theorem dX2_init_103 : decode cX2_init 103 = .ok (.putfield 56, 3) := by decide +kernel
theorem dX2_init_106 : decode cX2_init 106 = .ok (.aload_n 0, 1) := by decide +kernel
theorem dX2_init_107 : decode cX2_init 107 = .ok (.bipush 8, 2) := by decide +kernel
theorem dX2_init_109 : decode cX2_init 109 = .ok (.newarray .int, 2) := by decide +kernel
theorem dX2_init_111 : decode cX2_init 111 = .ok (.putfield 59, 3) := by decide +kernel
theorem dX2_init_114 : decode cX2_init 114 = .ok (.iconst 0, 1) := by decide +kernel
theorem dX2_init_115 : decode cX2_init 115 = .ok (.istore_n 1, 1) := by decide +kernel
theorem dX2_init_116 : decode cX2_init 116 = .ok (.iload_n 1, 1) := by decide +kernel
theorem dX2_init_117 : decode cX2_init 117 = .ok (.bipush 12, 2) := by decide +kernel
theorem dX2_init_119 : decode cX2_init 119 = .ok (.if_icmp .ge 23, 3) := by decide +kernel
theorem dX2_init_122 : decode cX2_init 122 = .ok (.aload_n 0, 1) := by decide +kernel
theorem dX2_init_123 : decode cX2_init 123 = .ok (.getfield 40, 3) := by decide +kernel
theorem dX2_init_126 : decode cX2_init 126 = .ok (.iload_n 1, 1) := by decide +kernel
theorem dX2_init_127 : decode cX2_init 127 = .ok (.iconst (-1), 1) := by decide +kernel
theorem dX2_init_128 : decode cX2_init 128 = .ok (.iastore, 1) := by decide +kernel
theorem dX2_init_129 : decode cX2_init 129 = .ok (.aload_n 0, 1) := by decide +kernel
theorem dX2_init_130 : decode cX2_init 130 = .ok (.getfield 43, 3) := by decide +kernel
theorem dX2_init_133 : decode cX2_init 133 = .ok (.iload_n 1, 1) := by decide +kernel
theorem dX2_init_134 : decode cX2_init 134 = .ok (.iconst (-1), 1) := by decide +kernel
theorem dX2_init_135 : decode cX2_init 135 = .ok (.iastore, 1) := by decide +kernel
theorem dX2_init_136 : decode cX2_init 136 = .ok (.iinc 1 1, 3) := by decide +kernel
theorem dX2_init_139 : decode cX2_init 139 = .ok (.goto (-23), 3) := by decide +kernel
theorem dX2_init_142 : decode cX2_init 142 = .ok (.return_, 1) := by decide +kernel
theorem dX2_isUnit_0 : decode cX2_isUnit 0 = .ok (.iload_n 1, 1) := by decide +kernel
theorem dX2_isUnit_1 : decode cX2_isUnit 1 = .ok (.ifCond .lt 15, 3) := by decide +kernel
theorem dX2_isUnit_4 : decode cX2_isUnit 4 = .ok (.iload_n 1, 1) := by decide +kernel
theorem dX2_isUnit_5 : decode cX2_isUnit 5 = .ok (.aload_n 0, 1) := by decide +kernel
theorem dX2_isUnit_6 : decode cX2_isUnit 6 = .ok (.getfield 9, 3) := by decide +kernel
theorem dX2_isUnit_9 : decode cX2_isUnit 9 = .ok (.if_icmp .ge 7, 3) := by decide +kernel
theorem dX2_isUnit_12 : decode cX2_isUnit 12 = .ok (.iconst 1, 1) := by decide +kernel
theorem dX2_isUnit_13 : decode cX2_isUnit 13 = .ok (.goto 4, 3) := by decide +kernel
theorem dX2_isUnit_16 : decode cX2_isUnit 16 = .ok (.iconst 0, 1) := by decide +kernel
theorem dX2_isUnit_17 : decode cX2_isUnit 17 = .ok (.ireturn, 1) := by decide +kernel
theorem dX2_allUnits_0 : decode cX2_allUnits 0 = .ok (.iconst 1, 1) := by decide +kernel
theorem dX2_allUnits_1 : decode cX2_allUnits 1 = .ok (.aload_n 0, 1) := by decide +kernel
theorem dX2_allUnits_2 : decode cX2_allUnits 2 = .ok (.getfield 9, 3) := by decide +kernel
theorem dX2_allUnits_5 : decode cX2_allUnits 5 = .ok (.ishl, 1) := by decide +kernel
theorem dX2_allUnits_6 : decode cX2_allUnits 6 = .ok (.iconst 1, 1) := by decide +kernel
theorem dX2_allUnits_7 : decode cX2_allUnits 7 = .ok (.isub, 1) := by decide +kernel
theorem dX2_allUnits_8 : decode cX2_allUnits 8 = .ok (.ireturn, 1) := by decide +kernel
theorem dX2_trait_0 : decode cX2_trait 0 = .ok (.aload_n 0, 1) := by decide +kernel
theorem dX2_trait_1 : decode cX2_trait 1 = .ok (.getfield 27, 3) := by decide +kernel
theorem dX2_trait_4 : decode cX2_trait 4 = .ok (.iload_n 1, 1) := by decide +kernel
theorem dX2_trait_5 : decode cX2_trait 5 = .ok (.bipush 12, 2) := by decide +kernel
theorem dX2_trait_7 : decode cX2_trait 7 = .ok (.imul, 1) := by decide +kernel
theorem dX2_trait_8 : decode cX2_trait 8 = .ok (.iload_n 2, 1) := by decide +kernel
theorem dX2_trait_9 : decode cX2_trait 9 = .ok (.iadd, 1) := by decide +kernel
theorem dX2_trait_10 : decode cX2_trait 10 = .ok (.iaload, 1) := by decide +kernel
theorem dX2_trait_11 : decode cX2_trait 11 = .ok (.ireturn, 1) := by decide +kernel
theorem dX2_putTrait_0 : decode cX2_putTrait 0 = .ok (.aload_n 0, 1) := by decide +kernel
theorem dX2_putTrait_1 : decode cX2_putTrait 1 = .ok (.getfield 27, 3) := by decide +kernel
theorem dX2_putTrait_4 : decode cX2_putTrait 4 = .ok (.iload_n 1, 1) := by decide +kernel
theorem dX2_putTrait_5 : decode cX2_putTrait 5 = .ok (.bipush 12, 2) := by decide +kernel
theorem dX2_putTrait_7 : decode cX2_putTrait 7 = .ok (.imul, 1) := by decide +kernel
theorem dX2_putTrait_8 : decode cX2_putTrait 8 = .ok (.iload_n 2, 1) := by decide +kernel
theorem dX2_putTrait_9 : decode cX2_putTrait 9 = .ok (.iadd, 1) := by decide +kernel
theorem dX2_putTrait_10 : decode cX2_putTrait 10 = .ok (.iload_n 3, 1) := by decide +kernel
theorem dX2_putTrait_11 : decode cX2_putTrait 11 = .ok (.iastore, 1) := by decide +kernel
theorem dX2_putTrait_12 : decode cX2_putTrait 12 = .ok (.return_, 1) := by decide +kernel
theorem dX2_addUnit_0 : decode cX2_addUnit 0 = .ok (.aload_n 0, 1) := by decide +kernel
theorem dX2_addUnit_1 : decode cX2_addUnit 1 = .ok (.getfield 9, 3) := by decide +kernel
theorem dX2_addUnit_4 : decode cX2_addUnit 4 = .ok (.istore_n 2, 1) := by decide +kernel
theorem dX2_addUnit_5 : decode cX2_addUnit 5 = .ok (.aload_n 0, 1) := by decide +kernel
theorem dX2_addUnit_6 : decode cX2_addUnit 6 = .ok (.dup, 1) := by decide +kernel
theorem dX2_addUnit_7 : decode cX2_addUnit 7 = .ok (.getfield 9, 3) := by decide +kernel
theorem dX2_addUnit_10 : decode cX2_addUnit 10 = .ok (.iconst 1, 1) := by decide +kernel
theorem dX2_addUnit_11 : decode cX2_addUnit 11 = .ok (.iadd, 1) := by decide +kernel
theorem dX2_addUnit_12 : decode cX2_addUnit 12 = .ok (.putfield 9, 3) := by decide +kernel
theorem dX2_addUnit_15 : decode cX2_addUnit 15 = .ok (.aload_n 0, 1) := by decide +kernel
theorem dX2_addUnit_16 : decode cX2_addUnit 16 = .ok (.iconst 0, 1) := by decide +kernel
theorem dX2_addUnit_17 : decode cX2_addUnit 17 = .ok (.iload_n 2, 1) := by decide +kernel
theorem dX2_addUnit_18 : decode cX2_addUnit 18 = .ok (.iload_n 1, 1) := by decide +kernel
theorem dX2_addUnit_19 : decode cX2_addUnit 19 = .ok (.invokevirtual 62, 3) := by decide +kernel
theorem dX2_addUnit_22 : decode cX2_addUnit 22 = .ok (.aload_n 0, 1) := by decide +kernel
theorem dX2_addUnit_23 : decode cX2_addUnit 23 = .ok (.iconst 1, 1) := by decide +kernel
theorem dX2_addUnit_24 : decode cX2_addUnit 24 = .ok (.iload_n 2, 1) := by decide +kernel
theorem dX2_addUnit_25 : decode cX2_addUnit 25 = .ok (.iconst 1, 1) := by decide +kernel
theorem dX2_addUnit_26 : decode cX2_addUnit 26 = .ok (.invokevirtual 62, 3) := by decide +kernel
theorem dX2_addUnit_29 : decode cX2_addUnit 29 = .ok (.aload_n 0, 1) := by decide +kernel
theorem dX2_addUnit_30 : decode cX2_addUnit 30 = .ok (.iconst 2, 1) := by decide +kernel
theorem dX2_addUnit_31 : decode cX2_addUnit 31 = .ok (.iload_n 2, 1) := by decide +kernel
theorem dX2_addUnit_32 : decode cX2_addUnit 32 = .ok (.getstatic 66, 3) := by decide +kernel
theorem dX2_addUnit_35 : decode cX2_addUnit 35 = .ok (.iconst 2, 1) := by decide +kernel
theorem dX2_addUnit_36 : decode cX2_addUnit 36 = .ok (.iaload, 1) := by decide +kernel
theorem dX2_addUnit_37 : decode cX2_addUnit 37 = .ok (.invokevirtual 62, 3) := by decide +kernel
theorem dX2_addUnit_40 : decode cX2_addUnit 40 = .ok (.aload_n 0, 1) := by decide +kernel
theorem dX2_addUnit_41 : decode cX2_addUnit 41 = .ok (.iconst 3, 1) := by decide +kernel
theorem dX2_addUnit_42 : decode cX2_addUnit 42 = .ok (.iload_n 2, 1) := by decide +kernel
theorem dX2_addUnit_43 : decode cX2_addUnit 43 = .ok (.getstatic 69, 3) := by decide +kernel
theorem dX2_addUnit_46 : decode cX2_addUnit 46 = .ok (.iconst 3, 1) := by decide +kernel
theorem dX2_addUnit_47 : decode cX2_addUnit 47 = .ok (.iaload, 1) := by decide +kernel
theorem dX2_addUnit_48 : decode cX2_addUnit 48 = .ok (.invokevirtual 62, 3) := by decide +kernel
theorem dX2_addUnit_51 : decode cX2_addUnit 51 = .ok (.aload_n 0, 1) := by decide +kernel
theorem dX2_addUnit_52 : decode cX2_addUnit 52 = .ok (.iconst 4, 1) := by decide +kernel
theorem dX2_addUnit_53 : decode cX2_addUnit 53 = .ok (.iload_n 2, 1) := by decide +kernel
theorem dX2_addUnit_54 : decode cX2_addUnit 54 = .ok (.iconst (-1), 1) := by decide +kernel
theorem dX2_addUnit_55 : decode cX2_addUnit 55 = .ok (.invokevirtual 62, 3) := by decide +kernel
theorem dX2_addUnit_58 : decode cX2_addUnit 58 = .ok (.iload_n 2, 1) := by decide +kernel
theorem dX2_addUnit_59 : decode cX2_addUnit 59 = .ok (.ireturn, 1) := by decide +kernel
theorem dX2_unitsOfPhase_0 : decode cX2_unitsOfPhase 0 = .ok (.iconst 0, 1) := by decide +kernel
theorem dX2_unitsOfPhase_1 : decode cX2_unitsOfPhase 1 = .ok (.istore_n 2, 1) := by decide +kernel
theorem dX2_unitsOfPhase_2 : decode cX2_unitsOfPhase 2 = .ok (.iconst 0, 1) := by decide +kernel
theorem dX2_unitsOfPhase_3 : decode cX2_unitsOfPhase 3 = .ok (.istore_n 3, 1) := by decide +kernel
theorem dX2_unitsOfPhase_4 : decode cX2_unitsOfPhase 4 = .ok (.iload_n 3, 1) := by decide +kernel
theorem dX2_unitsOfPhase_5 : decode cX2_unitsOfPhase 5 = .ok (.aload_n 0, 1) := by decide +kernel
theorem dX2_unitsOfPhase_6 : decode cX2_unitsOfPhase 6 = .ok (.getfield 9, 3) := by decide +kernel
theorem dX2_unitsOfPhase_9 : decode cX2_unitsOfPhase 9 = .ok (.if_icmp .ge 25, 3) := by decide +kernel
theorem dX2_unitsOfPhase_12 : decode cX2_unitsOfPhase 12 = .ok (.aload_n 0, 1) := by decide +kernel
theorem dX2_unitsOfPhase_13 : decode cX2_unitsOfPhase 13 = .ok (.iconst 4, 1) := by decide +kernel
theorem dX2_unitsOfPhase_14 : decode cX2_unitsOfPhase 14 = .ok (.iload_n 3, 1) := by decide +kernel
theorem dX2_unitsOfPhase_15 : decode cX2_unitsOfPhase 15 = .ok (.invokevirtual 72, 3) := by decide +kernel
theorem dX2_unitsOfPhase_18 : decode cX2_unitsOfPhase 18 = .ok (.iload_n 1, 1) := by decide +kernel
theorem dX2_unitsOfPhase_19 : decode cX2_unitsOfPhase 19 = .ok (.if_icmp .ne 9, 3) := by decide +kernel
theorem dX2_unitsOfPhase_22 : decode cX2_unitsOfPhase 22 = .ok (.iload_n 2, 1) := by decide +kernel
theorem dX2_unitsOfPhase_23 : decode cX2_unitsOfPhase 23 = .ok (.iconst 1, 1) := by decide +kernel
theorem dX2_unitsOfPhase_24 : decode cX2_unitsOfPhase 24 = .ok (.iload_n 3, 1) := by decide +kernel
theorem dX2_unitsOfPhase_25 : decode cX2_unitsOfPhase 25 = .ok (.ishl, 1) := by decide +kernel
theorem dX2_unitsOfPhase_26 : decode cX2_unitsOfPhase 26 = .ok (.ior, 1) := by decide +kernel
theorem dX2_unitsOfPhase_27 : decode cX2_unitsOfPhase 27 = .ok (.istore_n 2, 1) := by decide +kernel
theorem dX2_unitsOfPhase_28 : decode cX2_unitsOfPhase 28 = .ok (.iinc 3 1, 3) := by decide +kernel
theorem dX2_unitsOfPhase_31 : decode cX2_unitsOfPhase 31 = .ok (.goto (-27), 3) := by decide +kernel
theorem dX2_unitsOfPhase_34 : decode cX2_unitsOfPhase 34 = .ok (.iload_n 2, 1) := by decide +kernel
theorem dX2_unitsOfPhase_35 : decode cX2_unitsOfPhase 35 = .ok (.ireturn, 1) := by decide +kernel
theorem dX2_tieNumber_0 : decode cX2_tieNumber 0 = .ok (.iconst 0, 1) := by decide +kernel
theorem dX2_tieNumber_1 : decode cX2_tieNumber 1 = .ok (.istore_n 3, 1) := by decide +kernel
theorem dX2_tieNumber_2 : decode cX2_tieNumber 2 = .ok (.iload_n 3, 1) := by decide +kernel
theorem dX2_tieNumber_3 : decode cX2_tieNumber 3 = .ok (.aload_n 0, 1) := by decide +kernel
theorem dX2_tieNumber_4 : decode cX2_tieNumber 4 = .ok (.getfield 15, 3) := by decide +kernel
theorem dX2_tieNumber_7 : decode cX2_tieNumber 7 = .ok (.if_icmp .ge 31, 3) := by decide +kernel
theorem dX2_tieNumber_10 : decode cX2_tieNumber 10 = .ok (.aload_n 0, 1) := by decide +kernel
theorem dX2_tieNumber_11 : decode cX2_tieNumber 11 = .ok (.getfield 31, 3) := by decide +kernel
theorem dX2_tieNumber_14 : decode cX2_tieNumber 14 = .ok (.iload_n 3, 1) := by decide +kernel
theorem dX2_tieNumber_15 : decode cX2_tieNumber 15 = .ok (.iaload, 1) := by decide +kernel
theorem dX2_tieNumber_16 : decode cX2_tieNumber 16 = .ok (.iload_n 1, 1) := by decide +kernel
theorem dX2_tieNumber_17 : decode cX2_tieNumber 17 = .ok (.if_icmp .ne 15, 3) := by decide +kernel
theorem dX2_tieNumber_20 : decode cX2_tieNumber 20 = .ok (.aload_n 0, 1) := by decide +kernel
theorem dX2_tieNumber_21 : decode cX2_tieNumber 21 = .ok (.getfield 34, 3) := by decide +kernel
theorem dX2_tieNumber_24 : decode cX2_tieNumber 24 = .ok (.iload_n 3, 1) := by decide +kernel
theorem dX2_tieNumber_25 : decode cX2_tieNumber 25 = .ok (.iaload, 1) := by decide +kernel
theorem dX2_tieNumber_26 : decode cX2_tieNumber 26 = .ok (.iload_n 2, 1) := by decide +kernel
theorem dX2_tieNumber_27 : decode cX2_tieNumber 27 = .ok (.if_icmp .ne 5, 3) := by decide +kernel
theorem dX2_tieNumber_30 : decode cX2_tieNumber 30 = .ok (.iload_n 3, 1) := by decide +kernel
theorem dX2_tieNumber_31 : decode cX2_tieNumber 31 = .ok (.ireturn, 1) := by decide +kernel
theorem dX2_tieNumber_32 : decode cX2_tieNumber 32 = .ok (.iinc 3 1, 3) := by decide +kernel
theorem dX2_tieNumber_35 : decode cX2_tieNumber 35 = .ok (.goto (-33), 3) := by decide +kernel
theorem dX2_tieNumber_38 : decode cX2_tieNumber 38 = .ok (.iconst (-1), 1) := by decide +kernel
theorem dX2_tieNumber_39 : decode cX2_tieNumber 39 = .ok (.ireturn, 1) := by decide +kernel
theorem dX2_tieTold_0 : decode cX2_tieTold 0 = .ok (.bipush 100, 2) := by decide +kernel
theorem dX2_tieTold_2 : decode cX2_tieTold 2 = .ok (.aload_n 0, 1) := by decide +kernel
theorem dX2_tieTold_3 : decode cX2_tieTold 3 = .ok (.getfield 31, 3) := by decide +kernel
theorem dX2_tieTold_6 : decode cX2_tieTold 6 = .ok (.iload_n 1, 1) := by decide +kernel
theorem dX2_tieTold_7 : decode cX2_tieTold 7 = .ok (.iaload, 1) := by decide +kernel
theorem dX2_tieTold_8 : decode cX2_tieTold 8 = .ok (.imul, 1) := by decide +kernel
theorem dX2_tieTold_9 : decode cX2_tieTold 9 = .ok (.aload_n 0, 1) := by decide +kernel
theorem dX2_tieTold_10 : decode cX2_tieTold 10 = .ok (.getfield 34, 3) := by decide +kernel
theorem dX2_tieTold_13 : decode cX2_tieTold 13 = .ok (.iload_n 1, 1) := by decide +kernel
theorem dX2_tieTold_14 : decode cX2_tieTold 14 = .ok (.iaload, 1) := by decide +kernel
theorem dX2_tieTold_15 : decode cX2_tieTold 15 = .ok (.iadd, 1) := by decide +kernel
theorem dX2_tieTold_16 : decode cX2_tieTold 16 = .ok (.ireturn, 1) := by decide +kernel
theorem dX2_addTie_0 : decode cX2_addTie 0 = .ok (.aload_n 0, 1) := by decide +kernel
theorem dX2_addTie_1 : decode cX2_addTie 1 = .ok (.getfield 31, 3) := by decide +kernel
theorem dX2_addTie_4 : decode cX2_addTie 4 = .ok (.aload_n 0, 1) := by decide +kernel
theorem dX2_addTie_5 : decode cX2_addTie 5 = .ok (.getfield 15, 3) := by decide +kernel
theorem dX2_addTie_8 : decode cX2_addTie 8 = .ok (.iload_n 1, 1) := by decide +kernel
theorem dX2_addTie_9 : decode cX2_addTie 9 = .ok (.iastore, 1) := by decide +kernel
theorem dX2_addTie_10 : decode cX2_addTie 10 = .ok (.aload_n 0, 1) := by decide +kernel
theorem dX2_addTie_11 : decode cX2_addTie 11 = .ok (.getfield 34, 3) := by decide +kernel
theorem dX2_addTie_14 : decode cX2_addTie 14 = .ok (.aload_n 0, 1) := by decide +kernel
theorem dX2_addTie_15 : decode cX2_addTie 15 = .ok (.getfield 15, 3) := by decide +kernel
theorem dX2_addTie_18 : decode cX2_addTie 18 = .ok (.iload_n 2, 1) := by decide +kernel
theorem dX2_addTie_19 : decode cX2_addTie 19 = .ok (.iastore, 1) := by decide +kernel
theorem dX2_addTie_20 : decode cX2_addTie 20 = .ok (.aload_n 0, 1) := by decide +kernel
theorem dX2_addTie_21 : decode cX2_addTie 21 = .ok (.dup, 1) := by decide +kernel
theorem dX2_addTie_22 : decode cX2_addTie 22 = .ok (.getfield 15, 3) := by decide +kernel
theorem dX2_addTie_25 : decode cX2_addTie 25 = .ok (.iconst 1, 1) := by decide +kernel
theorem dX2_addTie_26 : decode cX2_addTie 26 = .ok (.iadd, 1) := by decide +kernel
theorem dX2_addTie_27 : decode cX2_addTie 27 = .ok (.putfield 15, 3) := by decide +kernel
theorem dX2_addTie_30 : decode cX2_addTie 30 = .ok (.return_, 1) := by decide +kernel
theorem dX2_dropTie_0 : decode cX2_dropTie 0 = .ok (.aload_n 0, 1) := by decide +kernel
theorem dX2_dropTie_1 : decode cX2_dropTie 1 = .ok (.dup, 1) := by decide +kernel
theorem dX2_dropTie_2 : decode cX2_dropTie 2 = .ok (.getfield 15, 3) := by decide +kernel
theorem dX2_dropTie_5 : decode cX2_dropTie 5 = .ok (.iconst 1, 1) := by decide +kernel
theorem dX2_dropTie_6 : decode cX2_dropTie 6 = .ok (.isub, 1) := by decide +kernel
theorem dX2_dropTie_7 : decode cX2_dropTie 7 = .ok (.putfield 15, 3) := by decide +kernel
theorem dX2_dropTie_10 : decode cX2_dropTie 10 = .ok (.iload_n 1, 1) := by decide +kernel
theorem dX2_dropTie_11 : decode cX2_dropTie 11 = .ok (.istore_n 2, 1) := by decide +kernel
theorem dX2_dropTie_12 : decode cX2_dropTie 12 = .ok (.iload_n 2, 1) := by decide +kernel
theorem dX2_dropTie_13 : decode cX2_dropTie 13 = .ok (.aload_n 0, 1) := by decide +kernel
theorem dX2_dropTie_14 : decode cX2_dropTie 14 = .ok (.getfield 15, 3) := by decide +kernel
theorem dX2_dropTie_17 : decode cX2_dropTie 17 = .ok (.if_icmp .ge 37, 3) := by decide +kernel
theorem dX2_dropTie_20 : decode cX2_dropTie 20 = .ok (.aload_n 0, 1) := by decide +kernel
theorem dX2_dropTie_21 : decode cX2_dropTie 21 = .ok (.getfield 31, 3) := by decide +kernel
theorem dX2_dropTie_24 : decode cX2_dropTie 24 = .ok (.iload_n 2, 1) := by decide +kernel
theorem dX2_dropTie_25 : decode cX2_dropTie 25 = .ok (.aload_n 0, 1) := by decide +kernel
theorem dX2_dropTie_26 : decode cX2_dropTie 26 = .ok (.getfield 31, 3) := by decide +kernel
theorem dX2_dropTie_29 : decode cX2_dropTie 29 = .ok (.iload_n 2, 1) := by decide +kernel
theorem dX2_dropTie_30 : decode cX2_dropTie 30 = .ok (.iconst 1, 1) := by decide +kernel
theorem dX2_dropTie_31 : decode cX2_dropTie 31 = .ok (.iadd, 1) := by decide +kernel
theorem dX2_dropTie_32 : decode cX2_dropTie 32 = .ok (.iaload, 1) := by decide +kernel
theorem dX2_dropTie_33 : decode cX2_dropTie 33 = .ok (.iastore, 1) := by decide +kernel
theorem dX2_dropTie_34 : decode cX2_dropTie 34 = .ok (.aload_n 0, 1) := by decide +kernel
theorem dX2_dropTie_35 : decode cX2_dropTie 35 = .ok (.getfield 34, 3) := by decide +kernel
theorem dX2_dropTie_38 : decode cX2_dropTie 38 = .ok (.iload_n 2, 1) := by decide +kernel
theorem dX2_dropTie_39 : decode cX2_dropTie 39 = .ok (.aload_n 0, 1) := by decide +kernel
theorem dX2_dropTie_40 : decode cX2_dropTie 40 = .ok (.getfield 34, 3) := by decide +kernel
theorem dX2_dropTie_43 : decode cX2_dropTie 43 = .ok (.iload_n 2, 1) := by decide +kernel
theorem dX2_dropTie_44 : decode cX2_dropTie 44 = .ok (.iconst 1, 1) := by decide +kernel
theorem dX2_dropTie_45 : decode cX2_dropTie 45 = .ok (.iadd, 1) := by decide +kernel
theorem dX2_dropTie_46 : decode cX2_dropTie 46 = .ok (.iaload, 1) := by decide +kernel
theorem dX2_dropTie_47 : decode cX2_dropTie 47 = .ok (.iastore, 1) := by decide +kernel
theorem dX2_dropTie_48 : decode cX2_dropTie 48 = .ok (.iinc 2 1, 3) := by decide +kernel
theorem dX2_dropTie_51 : decode cX2_dropTie 51 = .ok (.goto (-39), 3) := by decide +kernel
theorem dX2_dropTie_54 : decode cX2_dropTie 54 = .ok (.return_, 1) := by decide +kernel
theorem dX2_dropTiesFrom_0 : decode cX2_dropTiesFrom 0 = .ok (.aload_n 0, 1) := by decide +kernel
theorem dX2_dropTiesFrom_1 : decode cX2_dropTiesFrom 1 = .ok (.getfield 15, 3) := by decide +kernel
theorem dX2_dropTiesFrom_4 : decode cX2_dropTiesFrom 4 = .ok (.iconst 1, 1) := by decide +kernel
theorem dX2_dropTiesFrom_5 : decode cX2_dropTiesFrom 5 = .ok (.isub, 1) := by decide +kernel
theorem dX2_dropTiesFrom_6 : decode cX2_dropTiesFrom 6 = .ok (.istore_n 2, 1) := by decide +kernel
theorem dX2_dropTiesFrom_7 : decode cX2_dropTiesFrom 7 = .ok (.iload_n 2, 1) := by decide +kernel
theorem dX2_dropTiesFrom_8 : decode cX2_dropTiesFrom 8 = .ok (.ifCond .lt 24, 3) := by decide +kernel
theorem dX2_dropTiesFrom_11 : decode cX2_dropTiesFrom 11 = .ok (.aload_n 0, 1) := by decide +kernel
theorem dX2_dropTiesFrom_12 : decode cX2_dropTiesFrom 12 = .ok (.getfield 31, 3) := by decide +kernel
theorem dX2_dropTiesFrom_15 : decode cX2_dropTiesFrom 15 = .ok (.iload_n 2, 1) := by decide +kernel
theorem dX2_dropTiesFrom_16 : decode cX2_dropTiesFrom 16 = .ok (.iaload, 1) := by decide +kernel
theorem dX2_dropTiesFrom_17 : decode cX2_dropTiesFrom 17 = .ok (.iload_n 1, 1) := by decide +kernel
theorem dX2_dropTiesFrom_18 : decode cX2_dropTiesFrom 18 = .ok (.if_icmp .ne 8, 3) := by decide +kernel
theorem dX2_dropTiesFrom_21 : decode cX2_dropTiesFrom 21 = .ok (.aload_n 0, 1) := by decide +kernel
theorem dX2_dropTiesFrom_22 : decode cX2_dropTiesFrom 22 = .ok (.iload_n 2, 1) := by decide +kernel
theorem dX2_dropTiesFrom_23 : decode cX2_dropTiesFrom 23 = .ok (.invokevirtual 76, 3) := by decide +kernel
theorem dX2_dropTiesFrom_26 : decode cX2_dropTiesFrom 26 = .ok (.iinc 2 (-1), 3) := by decide +kernel
theorem dX2_dropTiesFrom_29 : decode cX2_dropTiesFrom 29 = .ok (.goto (-22), 3) := by decide +kernel
theorem dX2_dropTiesFrom_32 : decode cX2_dropTiesFrom 32 = .ok (.return_, 1) := by decide +kernel
theorem dX2_dugUnits_0 : decode cX2_dugUnits 0 = .ok (.iconst 0, 1) := by decide +kernel
theorem dX2_dugUnits_1 : decode cX2_dugUnits 1 = .ok (.istore_n 1, 1) := by decide +kernel
theorem dX2_dugUnits_2 : decode cX2_dugUnits 2 = .ok (.iconst 0, 1) := by decide +kernel
theorem dX2_dugUnits_3 : decode cX2_dugUnits 3 = .ok (.istore_n 2, 1) := by decide +kernel
theorem dX2_dugUnits_4 : decode cX2_dugUnits 4 = .ok (.iload_n 2, 1) := by decide +kernel
theorem dX2_dugUnits_5 : decode cX2_dugUnits 5 = .ok (.aload_n 0, 1) := by decide +kernel
theorem dX2_dugUnits_6 : decode cX2_dugUnits 6 = .ok (.getfield 18, 3) := by decide +kernel
theorem dX2_dugUnits_9 : decode cX2_dugUnits 9 = .ok (.if_icmp .ge 20, 3) := by decide +kernel
theorem dX2_dugUnits_12 : decode cX2_dugUnits 12 = .ok (.iload_n 1, 1) := by decide +kernel
theorem dX2_dugUnits_13 : decode cX2_dugUnits 13 = .ok (.iconst 1, 1) := by decide +kernel
theorem dX2_dugUnits_14 : decode cX2_dugUnits 14 = .ok (.aload_n 0, 1) := by decide +kernel
theorem dX2_dugUnits_15 : decode cX2_dugUnits 15 = .ok (.getfield 37, 3) := by decide +kernel
theorem dX2_dugUnits_18 : decode cX2_dugUnits 18 = .ok (.iload_n 2, 1) := by decide +kernel
theorem dX2_dugUnits_19 : decode cX2_dugUnits 19 = .ok (.iaload, 1) := by decide +kernel
theorem dX2_dugUnits_20 : decode cX2_dugUnits 20 = .ok (.ishl, 1) := by decide +kernel
theorem dX2_dugUnits_21 : decode cX2_dugUnits 21 = .ok (.ior, 1) := by decide +kernel
theorem dX2_dugUnits_22 : decode cX2_dugUnits 22 = .ok (.istore_n 1, 1) := by decide +kernel
theorem dX2_dugUnits_23 : decode cX2_dugUnits 23 = .ok (.iinc 2 1, 3) := by decide +kernel
theorem dX2_dugUnits_26 : decode cX2_dugUnits 26 = .ok (.goto (-22), 3) := by decide +kernel
theorem dX2_dugUnits_29 : decode cX2_dugUnits 29 = .ok (.iload_n 1, 1) := by decide +kernel
theorem dX2_dugUnits_30 : decode cX2_dugUnits 30 = .ok (.ireturn, 1) := by decide +kernel
theorem dX2_isDug_0 : decode cX2_isDug 0 = .ok (.aload_n 0, 1) := by decide +kernel
theorem dX2_isDug_1 : decode cX2_isDug 1 = .ok (.invokevirtual 80, 3) := by decide +kernel
theorem dX2_isDug_4 : decode cX2_isDug 4 = .ok (.iload_n 1, 1) := by decide +kernel
theorem dX2_isDug_5 : decode cX2_isDug 5 = .ok (.invokestatic 84, 3) := by decide +kernel
theorem dX2_isDug_8 : decode cX2_isDug 8 = .ok (.ireturn, 1) := by decide +kernel
theorem dX2_addDug_0 : decode cX2_addDug 0 = .ok (.aload_n 0, 1) := by decide +kernel
theorem dX2_addDug_1 : decode cX2_addDug 1 = .ok (.getfield 18, 3) := by decide +kernel
theorem dX2_addDug_4 : decode cX2_addDug 4 = .ok (.bipush 12, 2) := by decide +kernel
theorem dX2_addDug_6 : decode cX2_addDug 6 = .ok (.if_icmp .ge 31, 3) := by decide +kernel
theorem dX2_addDug_9 : decode cX2_addDug 9 = .ok (.aload_n 0, 1) := by decide +kernel
theorem dX2_addDug_10 : decode cX2_addDug 10 = .ok (.iload_n 1, 1) := by decide +kernel
theorem dX2_addDug_11 : decode cX2_addDug 11 = .ok (.invokevirtual 88, 3) := by decide +kernel
theorem dX2_addDug_14 : decode cX2_addDug 14 = .ok (.ifCond .ne 23, 3) := by decide +kernel
theorem dX2_addDug_17 : decode cX2_addDug 17 = .ok (.aload_n 0, 1) := by decide +kernel
theorem dX2_addDug_18 : decode cX2_addDug 18 = .ok (.getfield 37, 3) := by decide +kernel
theorem dX2_addDug_21 : decode cX2_addDug 21 = .ok (.aload_n 0, 1) := by decide +kernel
theorem dX2_addDug_22 : decode cX2_addDug 22 = .ok (.getfield 18, 3) := by decide +kernel
theorem dX2_addDug_25 : decode cX2_addDug 25 = .ok (.iload_n 1, 1) := by decide +kernel
theorem dX2_addDug_26 : decode cX2_addDug 26 = .ok (.iastore, 1) := by decide +kernel
theorem dX2_addDug_27 : decode cX2_addDug 27 = .ok (.aload_n 0, 1) := by decide +kernel
theorem dX2_addDug_28 : decode cX2_addDug 28 = .ok (.dup, 1) := by decide +kernel
theorem dX2_addDug_29 : decode cX2_addDug 29 = .ok (.getfield 18, 3) := by decide +kernel
theorem dX2_addDug_32 : decode cX2_addDug 32 = .ok (.iconst 1, 1) := by decide +kernel
theorem dX2_addDug_33 : decode cX2_addDug 33 = .ok (.iadd, 1) := by decide +kernel
theorem dX2_addDug_34 : decode cX2_addDug 34 = .ok (.putfield 18, 3) := by decide +kernel
theorem dX2_addDug_37 : decode cX2_addDug 37 = .ok (.return_, 1) := by decide +kernel
theorem dX2_addSeen_0 : decode cX2_addSeen 0 = .ok (.aload_n 0, 1) := by decide +kernel
theorem dX2_addSeen_1 : decode cX2_addSeen 1 = .ok (.getfield 46, 3) := by decide +kernel
theorem dX2_addSeen_4 : decode cX2_addSeen 4 = .ok (.aload_n 0, 1) := by decide +kernel
theorem dX2_addSeen_5 : decode cX2_addSeen 5 = .ok (.getfield 21, 3) := by decide +kernel
theorem dX2_addSeen_8 : decode cX2_addSeen 8 = .ok (.iload_n 1, 1) := by decide +kernel
theorem dX2_addSeen_9 : decode cX2_addSeen 9 = .ok (.iastore, 1) := by decide +kernel
theorem dX2_addSeen_10 : decode cX2_addSeen 10 = .ok (.aload_n 0, 1) := by decide +kernel
theorem dX2_addSeen_11 : decode cX2_addSeen 11 = .ok (.getfield 49, 3) := by decide +kernel
theorem dX2_addSeen_14 : decode cX2_addSeen 14 = .ok (.aload_n 0, 1) := by decide +kernel
theorem dX2_addSeen_15 : decode cX2_addSeen 15 = .ok (.getfield 21, 3) := by decide +kernel
theorem dX2_addSeen_18 : decode cX2_addSeen 18 = .ok (.iload_n 2, 1) := by decide +kernel
theorem dX2_addSeen_19 : decode cX2_addSeen 19 = .ok (.iastore, 1) := by decide +kernel
theorem dX2_addSeen_20 : decode cX2_addSeen 20 = .ok (.aload_n 0, 1) := by decide +kernel
theorem dX2_addSeen_21 : decode cX2_addSeen 21 = .ok (.getfield 52, 3) := by decide +kernel
theorem dX2_addSeen_24 : decode cX2_addSeen 24 = .ok (.aload_n 0, 1) := by decide +kernel
theorem dX2_addSeen_25 : decode cX2_addSeen 25 = .ok (.getfield 21, 3) := by decide +kernel
theorem dX2_addSeen_28 : decode cX2_addSeen 28 = .ok (.iload_n 3, 1) := by decide +kernel
theorem dX2_addSeen_29 : decode cX2_addSeen 29 = .ok (.bastore, 1) := by decide +kernel
theorem dX2_addSeen_30 : decode cX2_addSeen 30 = .ok (.aload_n 0, 1) := by decide +kernel
theorem dX2_addSeen_31 : decode cX2_addSeen 31 = .ok (.dup, 1) := by decide +kernel
theorem dX2_addSeen_32 : decode cX2_addSeen 32 = .ok (.getfield 21, 3) := by decide +kernel
theorem dX2_addSeen_35 : decode cX2_addSeen 35 = .ok (.iconst 1, 1) := by decide +kernel
theorem dX2_addSeen_36 : decode cX2_addSeen 36 = .ok (.iadd, 1) := by decide +kernel
theorem dX2_addSeen_37 : decode cX2_addSeen 37 = .ok (.putfield 21, 3) := by decide +kernel
theorem dX2_addSeen_40 : decode cX2_addSeen 40 = .ok (.return_, 1) := by decide +kernel
theorem dX2_addEvent_0 : decode cX2_addEvent 0 = .ok (.aload_n 0, 1) := by decide +kernel
theorem dX2_addEvent_1 : decode cX2_addEvent 1 = .ok (.getfield 56, 3) := by decide +kernel
theorem dX2_addEvent_4 : decode cX2_addEvent 4 = .ok (.aload_n 0, 1) := by decide +kernel
theorem dX2_addEvent_5 : decode cX2_addEvent 5 = .ok (.getfield 24, 3) := by decide +kernel
theorem dX2_addEvent_8 : decode cX2_addEvent 8 = .ok (.iload_n 1, 1) := by decide +kernel
theorem dX2_addEvent_9 : decode cX2_addEvent 9 = .ok (.iastore, 1) := by decide +kernel
theorem dX2_addEvent_10 : decode cX2_addEvent 10 = .ok (.aload_n 0, 1) := by decide +kernel
theorem dX2_addEvent_11 : decode cX2_addEvent 11 = .ok (.getfield 59, 3) := by decide +kernel
theorem dX2_addEvent_14 : decode cX2_addEvent 14 = .ok (.aload_n 0, 1) := by decide +kernel
theorem dX2_addEvent_15 : decode cX2_addEvent 15 = .ok (.getfield 24, 3) := by decide +kernel
theorem dX2_addEvent_18 : decode cX2_addEvent 18 = .ok (.iload_n 2, 1) := by decide +kernel
theorem dX2_addEvent_19 : decode cX2_addEvent 19 = .ok (.iastore, 1) := by decide +kernel
theorem dX2_addEvent_20 : decode cX2_addEvent 20 = .ok (.aload_n 0, 1) := by decide +kernel
theorem dX2_addEvent_21 : decode cX2_addEvent 21 = .ok (.dup, 1) := by decide +kernel
theorem dX2_addEvent_22 : decode cX2_addEvent 22 = .ok (.getfield 24, 3) := by decide +kernel
theorem dX2_addEvent_25 : decode cX2_addEvent 25 = .ok (.iconst 1, 1) := by decide +kernel
theorem dX2_addEvent_26 : decode cX2_addEvent 26 = .ok (.iadd, 1) := by decide +kernel
theorem dX2_addEvent_27 : decode cX2_addEvent 27 = .ok (.putfield 24, 3) := by decide +kernel
theorem dX2_addEvent_30 : decode cX2_addEvent 30 = .ok (.return_, 1) := by decide +kernel
theorem dX2_happen_0 : decode cX2_happen 0 = .ok (.iconst 0, 1) := by decide +kernel
theorem dX2_happen_1 : decode cX2_happen 1 = .ok (.istore_n 1, 1) := by decide +kernel
theorem dX2_happen_2 : decode cX2_happen 2 = .ok (.iload_n 1, 1) := by decide +kernel
theorem dX2_happen_3 : decode cX2_happen 3 = .ok (.aload_n 0, 1) := by decide +kernel
theorem dX2_happen_4 : decode cX2_happen 4 = .ok (.getfield 24, 3) := by decide +kernel
theorem dX2_happen_7 : decode cX2_happen 7 = .ok (.if_icmp .ge 84, 3) := by decide +kernel
theorem dX2_happen_10 : decode cX2_happen 10 = .ok (.aload_n 0, 1) := by decide +kernel
theorem dX2_happen_11 : decode cX2_happen 11 = .ok (.getfield 59, 3) := by decide +kernel
theorem dX2_happen_14 : decode cX2_happen 14 = .ok (.iload_n 1, 1) := by decide +kernel
theorem dX2_happen_15 : decode cX2_happen 15 = .ok (.iaload, 1) := by decide +kernel
theorem dX2_happen_16 : decode cX2_happen 16 = .ok (.istore_n 2, 1) := by decide +kernel
theorem dX2_happen_17 : decode cX2_happen 17 = .ok (.aload_n 0, 1) := by decide +kernel
theorem dX2_happen_18 : decode cX2_happen 18 = .ok (.getfield 56, 3) := by decide +kernel
theorem dX2_happen_21 : decode cX2_happen 21 = .ok (.iload_n 1, 1) := by decide +kernel
theorem dX2_happen_22 : decode cX2_happen 22 = .ok (.iaload, 1) := by decide +kernel
theorem dX2_happen_23 : decode cX2_happen 23 = .ok (.tableswitch 53 0 2 #[25, 33, 41], 25) := by decide +kernel
theorem dX2_happen_48 : decode cX2_happen 48 = .ok (.aload_n 0, 1) := by decide +kernel
theorem dX2_happen_49 : decode cX2_happen 49 = .ok (.iload_n 2, 1) := by decide +kernel
theorem dX2_happen_50 : decode cX2_happen 50 = .ok (.invokevirtual 92, 3) := by decide +kernel
theorem dX2_happen_53 : decode cX2_happen 53 = .ok (.goto 32, 3) := by decide +kernel
theorem dX2_happen_56 : decode cX2_happen 56 = .ok (.aload_n 0, 1) := by decide +kernel
theorem dX2_happen_57 : decode cX2_happen 57 = .ok (.iload_n 2, 1) := by decide +kernel
theorem dX2_happen_58 : decode cX2_happen 58 = .ok (.invokevirtual 95, 3) := by decide +kernel
theorem dX2_happen_61 : decode cX2_happen 61 = .ok (.goto 24, 3) := by decide +kernel
theorem dX2_happen_64 : decode cX2_happen 64 = .ok (.aload_n 0, 1) := by decide +kernel
theorem dX2_happen_65 : decode cX2_happen 65 = .ok (.iconst 2, 1) := by decide +kernel
theorem dX2_happen_66 : decode cX2_happen 66 = .ok (.iload_n 2, 1) := by decide +kernel
theorem dX2_happen_67 : decode cX2_happen 67 = .ok (.sipush 1000, 3) := by decide +kernel
theorem dX2_happen_70 : decode cX2_happen 70 = .ok (.invokevirtual 62, 3) := by decide +kernel
theorem dX2_happen_73 : decode cX2_happen 73 = .ok (.goto 12, 3) := by decide +kernel
theorem dX2_happen_76 : decode cX2_happen 76 = .ok (.aload_n 0, 1) := by decide +kernel
theorem dX2_happen_77 : decode cX2_happen 77 = .ok (.iconst 3, 1) := by decide +kernel
theorem dX2_happen_78 : decode cX2_happen 78 = .ok (.iload_n 2, 1) := by decide +kernel
theorem dX2_happen_79 : decode cX2_happen 79 = .ok (.sipush 1000, 3) := by decide +kernel
theorem dX2_happen_82 : decode cX2_happen 82 = .ok (.invokevirtual 62, 3) := by decide +kernel
theorem dX2_happen_85 : decode cX2_happen 85 = .ok (.iinc 1 1, 3) := by decide +kernel
theorem dX2_happen_88 : decode cX2_happen 88 = .ok (.goto (-86), 3) := by decide +kernel
theorem dX2_happen_91 : decode cX2_happen 91 = .ok (.return_, 1) := by decide +kernel
theorem dX2_become_0 : decode cX2_become 0 = .ok (.aload_n 0, 1) := by decide +kernel
theorem dX2_become_1 : decode cX2_become 1 = .ok (.aload_n 1, 1) := by decide +kernel
theorem dX2_become_2 : decode cX2_become 2 = .ok (.getfield 9, 3) := by decide +kernel
theorem dX2_become_5 : decode cX2_become 5 = .ok (.putfield 9, 3) := by decide +kernel
theorem dX2_become_8 : decode cX2_become 8 = .ok (.aload_n 0, 1) := by decide +kernel
theorem dX2_become_9 : decode cX2_become 9 = .ok (.aload_n 1, 1) := by decide +kernel
theorem dX2_become_10 : decode cX2_become 10 = .ok (.getfield 15, 3) := by decide +kernel
theorem dX2_become_13 : decode cX2_become 13 = .ok (.putfield 15, 3) := by decide +kernel
theorem dX2_become_16 : decode cX2_become 16 = .ok (.aload_n 0, 1) := by decide +kernel
theorem dX2_become_17 : decode cX2_become 17 = .ok (.aload_n 1, 1) := by decide +kernel
theorem dX2_become_18 : decode cX2_become 18 = .ok (.getfield 18, 3) := by decide +kernel
theorem dX2_become_21 : decode cX2_become 21 = .ok (.putfield 18, 3) := by decide +kernel
theorem dX2_become_24 : decode cX2_become 24 = .ok (.aload_n 0, 1) := by decide +kernel
theorem dX2_become_25 : decode cX2_become 25 = .ok (.aload_n 1, 1) := by decide +kernel
theorem dX2_become_26 : decode cX2_become 26 = .ok (.getfield 21, 3) := by decide +kernel
theorem dX2_become_29 : decode cX2_become 29 = .ok (.putfield 21, 3) := by decide +kernel
theorem dX2_become_32 : decode cX2_become 32 = .ok (.aload_n 0, 1) := by decide +kernel
theorem dX2_become_33 : decode cX2_become 33 = .ok (.aload_n 1, 1) := by decide +kernel
theorem dX2_become_34 : decode cX2_become 34 = .ok (.getfield 24, 3) := by decide +kernel
theorem dX2_become_37 : decode cX2_become 37 = .ok (.putfield 24, 3) := by decide +kernel
theorem dX2_become_40 : decode cX2_become 40 = .ok (.aload_n 1, 1) := by decide +kernel
theorem dX2_become_41 : decode cX2_become 41 = .ok (.getfield 27, 3) := by decide +kernel
theorem dX2_become_44 : decode cX2_become 44 = .ok (.aload_n 0, 1) := by decide +kernel
theorem dX2_become_45 : decode cX2_become 45 = .ok (.getfield 27, 3) := by decide +kernel
theorem dX2_become_48 : decode cX2_become 48 = .ok (.invokestatic 98, 3) := by decide +kernel
theorem dX2_become_51 : decode cX2_become 51 = .ok (.aload_n 1, 1) := by decide +kernel
theorem dX2_become_52 : decode cX2_become 52 = .ok (.getfield 31, 3) := by decide +kernel
theorem dX2_become_55 : decode cX2_become 55 = .ok (.aload_n 0, 1) := by decide +kernel
theorem dX2_become_56 : decode cX2_become 56 = .ok (.getfield 31, 3) := by decide +kernel
theorem dX2_become_59 : decode cX2_become 59 = .ok (.invokestatic 98, 3) := by decide +kernel
theorem dX2_become_62 : decode cX2_become 62 = .ok (.aload_n 1, 1) := by decide +kernel
theorem dX2_become_63 : decode cX2_become 63 = .ok (.getfield 34, 3) := by decide +kernel
theorem dX2_become_66 : decode cX2_become 66 = .ok (.aload_n 0, 1) := by decide +kernel
theorem dX2_become_67 : decode cX2_become 67 = .ok (.getfield 34, 3) := by decide +kernel
theorem dX2_become_70 : decode cX2_become 70 = .ok (.invokestatic 98, 3) := by decide +kernel
theorem dX2_become_73 : decode cX2_become 73 = .ok (.aload_n 1, 1) := by decide +kernel
theorem dX2_become_74 : decode cX2_become 74 = .ok (.getfield 37, 3) := by decide +kernel
theorem dX2_become_77 : decode cX2_become 77 = .ok (.aload_n 0, 1) := by decide +kernel
theorem dX2_become_78 : decode cX2_become 78 = .ok (.getfield 37, 3) := by decide +kernel
theorem dX2_become_81 : decode cX2_become 81 = .ok (.invokestatic 98, 3) := by decide +kernel
theorem dX2_become_84 : decode cX2_become 84 = .ok (.aload_n 1, 1) := by decide +kernel
theorem dX2_become_85 : decode cX2_become 85 = .ok (.getfield 40, 3) := by decide +kernel
theorem dX2_become_88 : decode cX2_become 88 = .ok (.aload_n 0, 1) := by decide +kernel
theorem dX2_become_89 : decode cX2_become 89 = .ok (.getfield 40, 3) := by decide +kernel
theorem dX2_become_92 : decode cX2_become 92 = .ok (.invokestatic 98, 3) := by decide +kernel
theorem dX2_become_95 : decode cX2_become 95 = .ok (.aload_n 1, 1) := by decide +kernel
theorem dX2_become_96 : decode cX2_become 96 = .ok (.getfield 43, 3) := by decide +kernel
theorem dX2_become_99 : decode cX2_become 99 = .ok (.aload_n 0, 1) := by decide +kernel
theorem dX2_become_100 : decode cX2_become 100 = .ok (.getfield 43, 3) := by decide +kernel
theorem dX2_become_103 : decode cX2_become 103 = .ok (.invokestatic 98, 3) := by decide +kernel
theorem dX2_become_106 : decode cX2_become 106 = .ok (.aload_n 1, 1) := by decide +kernel
theorem dX2_become_107 : decode cX2_become 107 = .ok (.getfield 46, 3) := by decide +kernel
theorem dX2_become_110 : decode cX2_become 110 = .ok (.aload_n 0, 1) := by decide +kernel
theorem dX2_become_111 : decode cX2_become 111 = .ok (.getfield 46, 3) := by decide +kernel
theorem dX2_become_114 : decode cX2_become 114 = .ok (.invokestatic 98, 3) := by decide +kernel
theorem dX2_become_117 : decode cX2_become 117 = .ok (.aload_n 1, 1) := by decide +kernel
theorem dX2_become_118 : decode cX2_become 118 = .ok (.getfield 49, 3) := by decide +kernel
theorem dX2_become_121 : decode cX2_become 121 = .ok (.aload_n 0, 1) := by decide +kernel
theorem dX2_become_122 : decode cX2_become 122 = .ok (.getfield 49, 3) := by decide +kernel
theorem dX2_become_125 : decode cX2_become 125 = .ok (.invokestatic 98, 3) := by decide +kernel
theorem dX2_become_128 : decode cX2_become 128 = .ok (.aload_n 1, 1) := by decide +kernel
theorem dX2_become_129 : decode cX2_become 129 = .ok (.getfield 52, 3) := by decide +kernel
theorem dX2_become_132 : decode cX2_become 132 = .ok (.iconst 0, 1) := by decide +kernel
theorem dX2_become_133 : decode cX2_become 133 = .ok (.aload_n 0, 1) := by decide +kernel
theorem dX2_become_134 : decode cX2_become 134 = .ok (.getfield 52, 3) := by decide +kernel
theorem dX2_become_137 : decode cX2_become 137 = .ok (.iconst 0, 1) := by decide +kernel
theorem dX2_become_138 : decode cX2_become 138 = .ok (.iconst 5, 1) := by decide +kernel
theorem dX2_become_139 : decode cX2_become 139 = .ok (.invokestatic 102, 3) := by decide +kernel
theorem dX2_become_142 : decode cX2_become 142 = .ok (.aload_n 1, 1) := by decide +kernel
theorem dX2_become_143 : decode cX2_become 143 = .ok (.getfield 56, 3) := by decide +kernel
theorem dX2_become_146 : decode cX2_become 146 = .ok (.aload_n 0, 1) := by decide +kernel
theorem dX2_become_147 : decode cX2_become 147 = .ok (.getfield 56, 3) := by decide +kernel
theorem dX2_become_150 : decode cX2_become 150 = .ok (.invokestatic 98, 3) := by decide +kernel
theorem dX2_become_153 : decode cX2_become 153 = .ok (.aload_n 1, 1) := by decide +kernel
theorem dX2_become_154 : decode cX2_become 154 = .ok (.getfield 59, 3) := by decide +kernel
theorem dX2_become_157 : decode cX2_become 157 = .ok (.aload_n 0, 1) := by decide +kernel
theorem dX2_become_158 : decode cX2_become 158 = .ok (.getfield 59, 3) := by decide +kernel
theorem dX2_become_161 : decode cX2_become 161 = .ok (.invokestatic 98, 3) := by decide +kernel
theorem dX2_become_164 : decode cX2_become 164 = .ok (.return_, 1) := by decide +kernel
theorem dX2_copyRow_0 : decode cX2_copyRow 0 = .ok (.aload_n 0, 1) := by decide +kernel
theorem dX2_copyRow_1 : decode cX2_copyRow 1 = .ok (.iconst 0, 1) := by decide +kernel
theorem dX2_copyRow_2 : decode cX2_copyRow 2 = .ok (.aload_n 1, 1) := by decide +kernel
theorem dX2_copyRow_3 : decode cX2_copyRow 3 = .ok (.iconst 0, 1) := by decide +kernel
theorem dX2_copyRow_4 : decode cX2_copyRow 4 = .ok (.aload_n 0, 1) := by decide +kernel
theorem dX2_copyRow_5 : decode cX2_copyRow 5 = .ok (.arraylength, 1) := by decide +kernel
theorem dX2_copyRow_6 : decode cX2_copyRow 6 = .ok (.aload_n 1, 1) := by decide +kernel
theorem dX2_copyRow_7 : decode cX2_copyRow 7 = .ok (.arraylength, 1) := by decide +kernel
theorem dX2_copyRow_8 : decode cX2_copyRow 8 = .ok (.invokestatic 108, 3) := by decide +kernel
theorem dX2_copyRow_11 : decode cX2_copyRow 11 = .ok (.invokestatic 102, 3) := by decide +kernel
theorem dX2_copyRow_14 : decode cX2_copyRow 14 = .ok (.return_, 1) := by decide +kernel
theorem dX3_init_0 : decode cX3_init 0 = .ok (.aload_n 0, 1) := by decide +kernel
theorem dX3_init_1 : decode cX3_init 1 = .ok (.invokespecial 3, 3) := by decide +kernel
theorem dX3_init_4 : decode cX3_init 4 = .ok (.aload_n 0, 1) := by decide +kernel
theorem dX3_init_5 : decode cX3_init 5 = .ok (.iconst 3, 1) := by decide +kernel
theorem dX3_init_6 : decode cX3_init 6 = .ok (.newarray .int, 2) := by decide +kernel
theorem dX3_init_8 : decode cX3_init 8 = .ok (.putfield 9, 3) := by decide +kernel
theorem dX3_init_11 : decode cX3_init 11 = .ok (.aload_n 0, 1) := by decide +kernel
theorem dX3_init_12 : decode cX3_init 12 = .ok (.iconst 0, 1) := by decide +kernel
theorem dX3_init_13 : decode cX3_init 13 = .ok (.putfield 15, 3) := by decide +kernel
theorem dX3_init_16 : decode cX3_init 16 = .ok (.return_, 1) := by decide +kernel
theorem dX3_examine_0 : decode cX3_examine 0 = .ok (.aload_n 0, 1) := by decide +kernel
theorem dX3_examine_1 : decode cX3_examine 1 = .ok (.iconst 0, 1) := by decide +kernel
theorem dX3_examine_2 : decode cX3_examine 2 = .ok (.putfield 15, 3) := by decide +kernel
theorem dX3_examine_5 : decode cX3_examine 5 = .ok (.aload_n 2, 1) := by decide +kernel
theorem dX3_examine_6 : decode cX3_examine 6 = .ok (.invokevirtual 19, 3) := by decide +kernel
theorem dX3_examine_9 : decode cX3_examine 9 = .ok (.ifCond .eq 21, 3) := by decide +kernel
theorem dX3_examine_12 : decode cX3_examine 12 = .ok (.aload_n 2, 1) := by decide +kernel
theorem dX3_examine_13 : decode cX3_examine 13 = .ok (.invokevirtual 25, 3) := by decide +kernel
theorem dX3_examine_16 : decode cX3_examine 16 = .ok (.istore_n 3, 1) := by decide +kernel
theorem dX3_examine_17 : decode cX3_examine 17 = .ok (.aload_n 0, 1) := by decide +kernel
theorem dX3_examine_18 : decode cX3_examine 18 = .ok (.iconst 1, 1) := by decide +kernel
theorem dX3_examine_19 : decode cX3_examine 19 = .ok (.aload_n 2, 1) := by decide +kernel
theorem dX3_examine_20 : decode cX3_examine 20 = .ok (.getfield 29, 3) := by decide +kernel
theorem dX3_examine_23 : decode cX3_examine 23 = .ok (.iconst 0, 1) := by decide +kernel
theorem dX3_examine_24 : decode cX3_examine 24 = .ok (.iaload, 1) := by decide +kernel
theorem dX3_examine_25 : decode cX3_examine 25 = .ok (.iload_n 3, 1) := by decide +kernel
theorem dX3_examine_26 : decode cX3_examine 26 = .ok (.invokevirtual 32, 3) := by decide +kernel
theorem dX3_examine_29 : decode cX3_examine 29 = .ok (.return_, 1) := by decide +kernel
theorem dX3_examine_30 : decode cX3_examine 30 = .ok (.aload_n 0, 1) := by decide +kernel
theorem dX3_examine_31 : decode cX3_examine 31 = .ok (.aload_n 1, 1) := by decide +kernel
theorem dX3_examine_32 : decode cX3_examine 32 = .ok (.aload_n 2, 1) := by decide +kernel
theorem dX3_examine_33 : decode cX3_examine 33 = .ok (.invokevirtual 36, 3) := by decide +kernel
theorem dX3_examine_36 : decode cX3_examine 36 = .ok (.ifCond .ne 21, 3) := by decide +kernel
theorem dX3_examine_39 : decode cX3_examine 39 = .ok (.aload_n 0, 1) := by decide +kernel
theorem dX3_examine_40 : decode cX3_examine 40 = .ok (.aload_n 1, 1) := by decide +kernel
theorem dX3_examine_41 : decode cX3_examine 41 = .ok (.aload_n 2, 1) := by decide +kernel
theorem dX3_examine_42 : decode cX3_examine 42 = .ok (.invokevirtual 40, 3) := by decide +kernel
theorem dX3_examine_45 : decode cX3_examine 45 = .ok (.ifCond .ne 12, 3) := by decide +kernel
theorem dX3_examine_48 : decode cX3_examine 48 = .ok (.aload_n 0, 1) := by decide +kernel
theorem dX3_examine_49 : decode cX3_examine 49 = .ok (.aload_n 1, 1) := by decide +kernel
theorem dX3_examine_50 : decode cX3_examine 50 = .ok (.aload_n 2, 1) := by decide +kernel
theorem dX3_examine_51 : decode cX3_examine 51 = .ok (.invokevirtual 43, 3) := by decide +kernel
theorem dX3_examine_54 : decode cX3_examine 54 = .ok (.ifCond .eq 4, 3) := by decide +kernel
theorem dX3_examine_57 : decode cX3_examine 57 = .ok (.return_, 1) := by decide +kernel
theorem dX3_examine_58 : decode cX3_examine 58 = .ok (.aload_n 0, 1) := by decide +kernel
theorem dX3_examine_59 : decode cX3_examine 59 = .ok (.getfield 9, 3) := by decide +kernel
theorem dX3_examine_62 : decode cX3_examine 62 = .ok (.iconst 0, 1) := by decide +kernel
theorem dX3_examine_63 : decode cX3_examine 63 = .ok (.iconst 0, 1) := by decide +kernel
theorem dX3_examine_64 : decode cX3_examine 64 = .ok (.iastore, 1) := by decide +kernel
theorem dX3_examine_65 : decode cX3_examine 65 = .ok (.aload_n 0, 1) := by decide +kernel
theorem dX3_examine_66 : decode cX3_examine 66 = .ok (.iconst 1, 1) := by decide +kernel
theorem dX3_examine_67 : decode cX3_examine 67 = .ok (.putfield 15, 3) := by decide +kernel
theorem dX3_examine_70 : decode cX3_examine 70 = .ok (.return_, 1) := by decide +kernel
theorem dX3_write_0 : decode cX3_write 0 = .ok (.aload_n 0, 1) := by decide +kernel
theorem dX3_write_1 : decode cX3_write 1 = .ok (.getfield 9, 3) := by decide +kernel
theorem dX3_write_4 : decode cX3_write 4 = .ok (.iconst 0, 1) := by decide +kernel
theorem dX3_write_5 : decode cX3_write 5 = .ok (.iload_n 1, 1) := by decide +kernel
theorem dX3_write_6 : decode cX3_write 6 = .ok (.iastore, 1) := by decide +kernel
theorem dX3_write_7 : decode cX3_write 7 = .ok (.aload_n 0, 1) := by decide +kernel
theorem dX3_write_8 : decode cX3_write 8 = .ok (.getfield 9, 3) := by decide +kernel
theorem dX3_write_11 : decode cX3_write 11 = .ok (.iconst 1, 1) := by decide +kernel
theorem dX3_write_12 : decode cX3_write 12 = .ok (.iload_n 2, 1) := by decide +kernel
theorem dX3_write_13 : decode cX3_write 13 = .ok (.iastore, 1) := by decide +kernel
theorem dX3_write_14 : decode cX3_write 14 = .ok (.aload_n 0, 1) := by decide +kernel
theorem dX3_write_15 : decode cX3_write 15 = .ok (.getfield 9, 3) := by decide +kernel
theorem dX3_write_18 : decode cX3_write 18 = .ok (.iconst 2, 1) := by decide +kernel
theorem dX3_write_19 : decode cX3_write 19 = .ok (.iload_n 3, 1) := by decide +kernel
theorem dX3_write_20 : decode cX3_write 20 = .ok (.iastore, 1) := by decide +kernel
theorem dX3_write_21 : decode cX3_write 21 = .ok (.aload_n 0, 1) := by decide +kernel
theorem dX3_write_22 : decode cX3_write 22 = .ok (.iconst 3, 1) := by decide +kernel
theorem dX3_write_23 : decode cX3_write 23 = .ok (.putfield 15, 3) := by decide +kernel
theorem dX3_write_26 : decode cX3_write 26 = .ok (.return_, 1) := by decide +kernel
theorem dX3_findsBareFill_0 : decode cX3_findsBareFill 0 = .ok (.iconst 0, 1) := by decide +kernel
theorem dX3_findsBareFill_1 : decode cX3_findsBareFill 1 = .ok (.istore_n 3, 1) := by decide +kernel
theorem dX3_findsBareFill_2 : decode cX3_findsBareFill 2 = .ok (.iconst 0, 1) := by decide +kernel
theorem dX3_findsBareFill_3 : decode cX3_findsBareFill 3 = .ok (.istore 4, 2) := by decide +kernel
theorem dX3_findsBareFill_5 : decode cX3_findsBareFill 5 = .ok (.iload 4, 2) := by decide +kernel
theorem dX3_findsBareFill_7 : decode cX3_findsBareFill 7 = .ok (.aload_n 1, 1) := by decide +kernel
theorem dX3_findsBareFill_8 : decode cX3_findsBareFill 8 = .ok (.getfield 46, 3) := by decide +kernel
theorem dX3_findsBareFill_11 : decode cX3_findsBareFill 11 = .ok (.if_icmp .ge 29, 3) := by decide +kernel
theorem dX3_findsBareFill_14 : decode cX3_findsBareFill 14 = .ok (.aload_n 1, 1) := by decide +kernel
theorem dX3_findsBareFill_15 : decode cX3_findsBareFill 15 = .ok (.iconst 0, 1) := by decide +kernel
theorem dX3_findsBareFill_16 : decode cX3_findsBareFill 16 = .ok (.iload 4, 2) := by decide +kernel
theorem dX3_findsBareFill_18 : decode cX3_findsBareFill 18 = .ok (.invokevirtual 51, 3) := by decide +kernel
theorem dX3_findsBareFill_21 : decode cX3_findsBareFill 21 = .ok (.invokestatic 55, 3) := by decide +kernel
theorem dX3_findsBareFill_24 : decode cX3_findsBareFill 24 = .ok (.ifCond .eq 10, 3) := by decide +kernel
theorem dX3_findsBareFill_27 : decode cX3_findsBareFill 27 = .ok (.iload_n 3, 1) := by decide +kernel
theorem dX3_findsBareFill_28 : decode cX3_findsBareFill 28 = .ok (.iconst 1, 1) := by decide +kernel
theorem dX3_findsBareFill_29 : decode cX3_findsBareFill 29 = .ok (.iload 4, 2) := by decide +kernel
theorem dX3_findsBareFill_31 : decode cX3_findsBareFill 31 = .ok (.ishl, 1) := by decide +kernel
theorem dX3_findsBareFill_32 : decode cX3_findsBareFill 32 = .ok (.ior, 1) := by decide +kernel
theorem dX3_findsBareFill_33 : decode cX3_findsBareFill 33 = .ok (.istore_n 3, 1) := by decide +kernel
theorem dX3_findsBareFill_34 : decode cX3_findsBareFill 34 = .ok (.iinc 4 1, 3) := by decide +kernel
theorem dX3_findsBareFill_37 : decode cX3_findsBareFill 37 = .ok (.goto (-32), 3) := by decide +kernel
theorem dX3_findsBareFill_40 : decode cX3_findsBareFill 40 = .ok (.iconst 0, 1) := by decide +kernel
theorem dX3_findsBareFill_41 : decode cX3_findsBareFill 41 = .ok (.istore 4, 2) := by decide +kernel
theorem dX3_findsBareFill_43 : decode cX3_findsBareFill 43 = .ok (.iload 4, 2) := by decide +kernel
theorem dX3_findsBareFill_45 : decode cX3_findsBareFill 45 = .ok (.aload_n 1, 1) := by decide +kernel
theorem dX3_findsBareFill_46 : decode cX3_findsBareFill 46 = .ok (.getfield 46, 3) := by decide +kernel
theorem dX3_findsBareFill_49 : decode cX3_findsBareFill 49 = .ok (.if_icmp .ge 48, 3) := by decide +kernel
theorem dX3_findsBareFill_52 : decode cX3_findsBareFill 52 = .ok (.aload_n 1, 1) := by decide +kernel
theorem dX3_findsBareFill_53 : decode cX3_findsBareFill 53 = .ok (.iconst 0, 1) := by decide +kernel
theorem dX3_findsBareFill_54 : decode cX3_findsBareFill 54 = .ok (.iload 4, 2) := by decide +kernel
theorem dX3_findsBareFill_56 : decode cX3_findsBareFill 56 = .ok (.invokevirtual 51, 3) := by decide +kernel
theorem dX3_findsBareFill_59 : decode cX3_findsBareFill 59 = .ok (.invokestatic 59, 3) := by decide +kernel
theorem dX3_findsBareFill_62 : decode cX3_findsBareFill 62 = .ok (.ifCond .eq 29, 3) := by decide +kernel
theorem dX3_findsBareFill_65 : decode cX3_findsBareFill 65 = .ok (.aload_n 2, 1) := by decide +kernel
theorem dX3_findsBareFill_66 : decode cX3_findsBareFill 66 = .ok (.iload 4, 2) := by decide +kernel
theorem dX3_findsBareFill_68 : decode cX3_findsBareFill 68 = .ok (.invokevirtual 62, 3) := by decide +kernel
theorem dX3_findsBareFill_71 : decode cX3_findsBareFill 71 = .ok (.iload_n 3, 1) := by decide +kernel
theorem dX3_findsBareFill_72 : decode cX3_findsBareFill 72 = .ok (.iand, 1) := by decide +kernel
theorem dX3_findsBareFill_73 : decode cX3_findsBareFill 73 = .ok (.ifCond .ne 18, 3) := by decide +kernel
theorem dX3_findsBareFill_76 : decode cX3_findsBareFill 76 = .ok (.aload_n 0, 1) := by decide +kernel
theorem dX3_findsBareFill_77 : decode cX3_findsBareFill 77 = .ok (.iconst 2, 1) := by decide +kernel
theorem dX3_findsBareFill_78 : decode cX3_findsBareFill 78 = .ok (.iload 4, 2) := by decide +kernel
theorem dX3_findsBareFill_80 : decode cX3_findsBareFill 80 = .ok (.iconst 0, 1) := by decide +kernel
theorem dX3_findsBareFill_81 : decode cX3_findsBareFill 81 = .ok (.invokevirtual 32, 3) := by decide +kernel
theorem dX3_findsBareFill_84 : decode cX3_findsBareFill 84 = .ok (.aload_n 0, 1) := by decide +kernel
theorem dX3_findsBareFill_85 : decode cX3_findsBareFill 85 = .ok (.iconst 2, 1) := by decide +kernel
theorem dX3_findsBareFill_86 : decode cX3_findsBareFill 86 = .ok (.putfield 15, 3) := by decide +kernel
theorem dX3_findsBareFill_89 : decode cX3_findsBareFill 89 = .ok (.iconst 1, 1) := by decide +kernel
theorem dX3_findsBareFill_90 : decode cX3_findsBareFill 90 = .ok (.ireturn, 1) := by decide +kernel
theorem dX3_findsBareFill_91 : decode cX3_findsBareFill 91 = .ok (.iinc 4 1, 3) := by decide +kernel
theorem dX3_findsBareFill_94 : decode cX3_findsBareFill 94 = .ok (.goto (-51), 3) := by decide +kernel
theorem dX3_findsBareFill_97 : decode cX3_findsBareFill 97 = .ok (.iconst 0, 1) := by decide +kernel
theorem dX3_findsBareFill_98 : decode cX3_findsBareFill 98 = .ok (.ireturn, 1) := by decide +kernel
theorem dX3_findsMixedPhases_0 : decode cX3_findsMixedPhases 0 = .ok (.iconst 0, 1) := by decide +kernel
theorem dX3_findsMixedPhases_1 : decode cX3_findsMixedPhases 1 = .ok (.istore_n 3, 1) := by decide +kernel
theorem dX3_findsMixedPhases_2 : decode cX3_findsMixedPhases 2 = .ok (.iload_n 3, 1) := by decide +kernel
theorem dX3_findsMixedPhases_3 : decode cX3_findsMixedPhases 3 = .ok (.bipush 6, 2) := by decide +kernel
theorem dX3_findsMixedPhases_5 : decode cX3_findsMixedPhases 5 = .ok (.if_icmp .ge 94, 3) := by decide +kernel
theorem dX3_findsMixedPhases_8 : decode cX3_findsMixedPhases 8 = .ok (.iload_n 3, 1) := by decide +kernel
theorem dX3_findsMixedPhases_9 : decode cX3_findsMixedPhases 9 = .ok (.iconst 1, 1) := by decide +kernel
theorem dX3_findsMixedPhases_10 : decode cX3_findsMixedPhases 10 = .ok (.iadd, 1) := by decide +kernel
theorem dX3_findsMixedPhases_11 : decode cX3_findsMixedPhases 11 = .ok (.istore 4, 2) := by decide +kernel
theorem dX3_findsMixedPhases_13 : decode cX3_findsMixedPhases 13 = .ok (.iload 4, 2) := by decide +kernel
theorem dX3_findsMixedPhases_15 : decode cX3_findsMixedPhases 15 = .ok (.bipush 6, 2) := by decide +kernel
theorem dX3_findsMixedPhases_17 : decode cX3_findsMixedPhases 17 = .ok (.if_icmp .ge 76, 3) := by decide +kernel
theorem dX3_findsMixedPhases_20 : decode cX3_findsMixedPhases 20 = .ok (.aload_n 2, 1) := by decide +kernel
theorem dX3_findsMixedPhases_21 : decode cX3_findsMixedPhases 21 = .ok (.aload_n 1, 1) := by decide +kernel
theorem dX3_findsMixedPhases_22 : decode cX3_findsMixedPhases 22 = .ok (.iload_n 3, 1) := by decide +kernel
theorem dX3_findsMixedPhases_23 : decode cX3_findsMixedPhases 23 = .ok (.iload 4, 2) := by decide +kernel
theorem dX3_findsMixedPhases_25 : decode cX3_findsMixedPhases 25 = .ok (.invokevirtual 66, 3) := by decide +kernel
theorem dX3_findsMixedPhases_28 : decode cX3_findsMixedPhases 28 = .ok (.istore 5, 2) := by decide +kernel
theorem dX3_findsMixedPhases_30 : decode cX3_findsMixedPhases 30 = .ok (.iload 5, 2) := by decide +kernel
theorem dX3_findsMixedPhases_32 : decode cX3_findsMixedPhases 32 = .ok (.ifCond .lt 55, 3) := by decide +kernel
theorem dX3_findsMixedPhases_35 : decode cX3_findsMixedPhases 35 = .ok (.aload_n 2, 1) := by decide +kernel
theorem dX3_findsMixedPhases_36 : decode cX3_findsMixedPhases 36 = .ok (.aload_n 1, 1) := by decide +kernel
theorem dX3_findsMixedPhases_37 : decode cX3_findsMixedPhases 37 = .ok (.iload 4, 2) := by decide +kernel
theorem dX3_findsMixedPhases_39 : decode cX3_findsMixedPhases 39 = .ok (.iload_n 3, 1) := by decide +kernel
theorem dX3_findsMixedPhases_40 : decode cX3_findsMixedPhases 40 = .ok (.invokevirtual 70, 3) := by decide +kernel
theorem dX3_findsMixedPhases_43 : decode cX3_findsMixedPhases 43 = .ok (.ifCond .eq 44, 3) := by decide +kernel
theorem dX3_findsMixedPhases_46 : decode cX3_findsMixedPhases 46 = .ok (.aload_n 2, 1) := by decide +kernel
theorem dX3_findsMixedPhases_47 : decode cX3_findsMixedPhases 47 = .ok (.getfield 74, 3) := by decide +kernel
theorem dX3_findsMixedPhases_50 : decode cX3_findsMixedPhases 50 = .ok (.iload 5, 2) := by decide +kernel
theorem dX3_findsMixedPhases_52 : decode cX3_findsMixedPhases 52 = .ok (.iaload, 1) := by decide +kernel
theorem dX3_findsMixedPhases_53 : decode cX3_findsMixedPhases 53 = .ok (.aload_n 1, 1) := by decide +kernel
theorem dX3_findsMixedPhases_54 : decode cX3_findsMixedPhases 54 = .ok (.iload 4, 2) := by decide +kernel
theorem dX3_findsMixedPhases_56 : decode cX3_findsMixedPhases 56 = .ok (.invokevirtual 77, 3) := by decide +kernel
theorem dX3_findsMixedPhases_59 : decode cX3_findsMixedPhases 59 = .ok (.iand, 1) := by decide +kernel
theorem dX3_findsMixedPhases_60 : decode cX3_findsMixedPhases 60 = .ok (.invokestatic 80, 3) := by decide +kernel
theorem dX3_findsMixedPhases_63 : decode cX3_findsMixedPhases 63 = .ok (.istore 6, 2) := by decide +kernel
theorem dX3_findsMixedPhases_65 : decode cX3_findsMixedPhases 65 = .ok (.aload_n 0, 1) := by decide +kernel
theorem dX3_findsMixedPhases_66 : decode cX3_findsMixedPhases 66 = .ok (.iconst 3, 1) := by decide +kernel
theorem dX3_findsMixedPhases_67 : decode cX3_findsMixedPhases 67 = .ok (.bipush 10, 2) := by decide +kernel
theorem dX3_findsMixedPhases_69 : decode cX3_findsMixedPhases 69 = .ok (.iload_n 3, 1) := by decide +kernel
theorem dX3_findsMixedPhases_70 : decode cX3_findsMixedPhases 70 = .ok (.imul, 1) := by decide +kernel
theorem dX3_findsMixedPhases_71 : decode cX3_findsMixedPhases 71 = .ok (.iload 4, 2) := by decide +kernel
theorem dX3_findsMixedPhases_73 : decode cX3_findsMixedPhases 73 = .ok (.iadd, 1) := by decide +kernel
theorem dX3_findsMixedPhases_74 : decode cX3_findsMixedPhases 74 = .ok (.bipush 100, 2) := by decide +kernel
theorem dX3_findsMixedPhases_76 : decode cX3_findsMixedPhases 76 = .ok (.iload 5, 2) := by decide +kernel
theorem dX3_findsMixedPhases_78 : decode cX3_findsMixedPhases 78 = .ok (.imul, 1) := by decide +kernel
theorem dX3_findsMixedPhases_79 : decode cX3_findsMixedPhases 79 = .ok (.iload 6, 2) := by decide +kernel
theorem dX3_findsMixedPhases_81 : decode cX3_findsMixedPhases 81 = .ok (.iadd, 1) := by decide +kernel
theorem dX3_findsMixedPhases_82 : decode cX3_findsMixedPhases 82 = .ok (.invokevirtual 32, 3) := by decide +kernel
theorem dX3_findsMixedPhases_85 : decode cX3_findsMixedPhases 85 = .ok (.iconst 1, 1) := by decide +kernel
theorem dX3_findsMixedPhases_86 : decode cX3_findsMixedPhases 86 = .ok (.ireturn, 1) := by decide +kernel
theorem dX3_findsMixedPhases_87 : decode cX3_findsMixedPhases 87 = .ok (.iinc 4 1, 3) := by decide +kernel
theorem dX3_findsMixedPhases_90 : decode cX3_findsMixedPhases 90 = .ok (.goto (-77), 3) := by decide +kernel
theorem dX3_findsMixedPhases_93 : decode cX3_findsMixedPhases 93 = .ok (.iinc 3 1, 3) := by decide +kernel
theorem dX3_findsMixedPhases_96 : decode cX3_findsMixedPhases 96 = .ok (.goto (-94), 3) := by decide +kernel
theorem dX3_findsMixedPhases_99 : decode cX3_findsMixedPhases 99 = .ok (.iconst 0, 1) := by decide +kernel
theorem dX3_findsMixedPhases_100 : decode cX3_findsMixedPhases 100 = .ok (.ireturn, 1) := by decide +kernel
theorem dX3_findsCrossing_0 : decode cX3_findsCrossing 0 = .ok (.aload_n 2, 1) := by decide +kernel
theorem dX3_findsCrossing_1 : decode cX3_findsCrossing 1 = .ok (.aload_n 1, 1) := by decide +kernel
theorem dX3_findsCrossing_2 : decode cX3_findsCrossing 2 = .ok (.invokevirtual 83, 3) := by decide +kernel
theorem dX3_findsCrossing_5 : decode cX3_findsCrossing 5 = .ok (.istore_n 3, 1) := by decide +kernel
theorem dX3_findsCrossing_6 : decode cX3_findsCrossing 6 = .ok (.iload_n 3, 1) := by decide +kernel
theorem dX3_findsCrossing_7 : decode cX3_findsCrossing 7 = .ok (.ifCond .ne 5, 3) := by decide +kernel
theorem dX3_findsCrossing_10 : decode cX3_findsCrossing 10 = .ok (.iconst 0, 1) := by decide +kernel
theorem dX3_findsCrossing_11 : decode cX3_findsCrossing 11 = .ok (.ireturn, 1) := by decide +kernel
theorem dX3_findsCrossing_12 : decode cX3_findsCrossing 12 = .ok (.iload_n 3, 1) := by decide +kernel
theorem dX3_findsCrossing_13 : decode cX3_findsCrossing 13 = .ok (.invokestatic 80, 3) := by decide +kernel
theorem dX3_findsCrossing_16 : decode cX3_findsCrossing 16 = .ok (.istore 4, 2) := by decide +kernel
theorem dX3_findsCrossing_18 : decode cX3_findsCrossing 18 = .ok (.aload_n 0, 1) := by decide +kernel
theorem dX3_findsCrossing_19 : decode cX3_findsCrossing 19 = .ok (.iconst 4, 1) := by decide +kernel
theorem dX3_findsCrossing_20 : decode cX3_findsCrossing 20 = .ok (.iload 4, 2) := by decide +kernel
theorem dX3_findsCrossing_22 : decode cX3_findsCrossing 22 = .ok (.aload_n 2, 1) := by decide +kernel
theorem dX3_findsCrossing_23 : decode cX3_findsCrossing 23 = .ok (.aload_n 1, 1) := by decide +kernel
theorem dX3_findsCrossing_24 : decode cX3_findsCrossing 24 = .ok (.iload 4, 2) := by decide +kernel
theorem dX3_findsCrossing_26 : decode cX3_findsCrossing 26 = .ok (.invokevirtual 87, 3) := by decide +kernel
theorem dX3_findsCrossing_29 : decode cX3_findsCrossing 29 = .ok (.aload_n 2, 1) := by decide +kernel
theorem dX3_findsCrossing_30 : decode cX3_findsCrossing 30 = .ok (.aload_n 1, 1) := by decide +kernel
theorem dX3_findsCrossing_31 : decode cX3_findsCrossing 31 = .ok (.iload 4, 2) := by decide +kernel
theorem dX3_findsCrossing_33 : decode cX3_findsCrossing 33 = .ok (.invokevirtual 91, 3) := by decide +kernel
theorem dX3_findsCrossing_36 : decode cX3_findsCrossing 36 = .ok (.isub, 1) := by decide +kernel
theorem dX3_findsCrossing_37 : decode cX3_findsCrossing 37 = .ok (.invokevirtual 32, 3) := by decide +kernel
theorem dX3_findsCrossing_40 : decode cX3_findsCrossing 40 = .ok (.iconst 1, 1) := by decide +kernel
theorem dX3_findsCrossing_41 : decode cX3_findsCrossing 41 = .ok (.ireturn, 1) := by decide +kernel
theorem dX4_init_0 : decode cX4_init 0 = .ok (.aload_n 0, 1) := by decide +kernel
theorem dX4_init_1 : decode cX4_init 1 = .ok (.invokespecial 3, 3) := by decide +kernel
theorem dX4_init_4 : decode cX4_init 4 = .ok (.aload_n 0, 1) := by decide +kernel
theorem dX4_init_5 : decode cX4_init 5 = .ok (.sipush 4096, 3) := by decide +kernel
theorem dX4_init_8 : decode cX4_init 8 = .ok (.newarray .long, 2) := by decide +kernel
theorem dX4_init_10 : decode cX4_init 10 = .ok (.putfield 9, 3) := by decide +kernel
theorem dX4_init_13 : decode cX4_init 13 = .ok (.aload_n 0, 1) := by decide +kernel
theorem dX4_init_14 : decode cX4_init 14 = .ok (.bipush 12, 2) := by decide +kernel
theorem dX4_init_16 : decode cX4_init 16 = .ok (.newarray .int, 2) := by decide +kernel
theorem dX4_init_18 : decode cX4_init 18 = .ok (.putfield 15, 3) := by decide +kernel
theorem dX4_init_21 : decode cX4_init 21 = .ok (.aload_n 0, 1) := by decide +kernel
theorem dX4_init_22 : decode cX4_init 22 = .ok (.iconst (-1), 1) := by decide +kernel
theorem dX4_init_23 : decode cX4_init 23 = .ok (.putfield 19, 3) := by decide +kernel
theorem dX4_init_26 : decode cX4_init 26 = .ok (.return_, 1) := by decide +kernel
theorem dX4_number_0 : decode cX4_number 0 = .ok (.aload_n 0, 1) := by decide +kernel
theorem dX4_number_1 : decode cX4_number 1 = .ok (.getfield 19, 3) := by decide +kernel
theorem dX4_number_4 : decode cX4_number 4 = .ok (.iload_n 2, 1) := by decide +kernel
theorem dX4_number_5 : decode cX4_number 5 = .ok (.if_icmp .ne 7, 3) := by decide +kernel
theorem dX4_number_8 : decode cX4_number 8 = .ok (.iconst 1, 1) := by decide +kernel
theorem dX4_number_9 : decode cX4_number 9 = .ok (.goto 4, 3) := by decide +kernel
theorem dX4_number_12 : decode cX4_number 12 = .ok (.iconst 0, 1) := by decide +kernel
theorem dX4_number_13 : decode cX4_number 13 = .ok (.istore_n 3, 1) := by decide +kernel
theorem dX4_number_14 : decode cX4_number 14 = .ok (.aload_n 0, 1) := by decide +kernel
theorem dX4_number_15 : decode cX4_number 15 = .ok (.iload_n 2, 1) := by decide +kernel
theorem dX4_number_16 : decode cX4_number 16 = .ok (.putfield 19, 3) := by decide +kernel
theorem dX4_number_19 : decode cX4_number 19 = .ok (.iconst 0, 1) := by decide +kernel
theorem dX4_number_20 : decode cX4_number 20 = .ok (.istore 4, 2) := by decide +kernel
theorem dX4_number_22 : decode cX4_number 22 = .ok (.iload 4, 2) := by decide +kernel
theorem dX4_number_24 : decode cX4_number 24 = .ok (.bipush 12, 2) := by decide +kernel
theorem dX4_number_26 : decode cX4_number 26 = .ok (.if_icmp .ge 61, 3) := by decide +kernel
theorem dX4_number_29 : decode cX4_number 29 = .ok (.iload_n 2, 1) := by decide +kernel
theorem dX4_number_30 : decode cX4_number 30 = .ok (.iload 4, 2) := by decide +kernel
theorem dX4_number_32 : decode cX4_number 32 = .ok (.invokestatic 23, 3) := by decide +kernel
theorem dX4_number_35 : decode cX4_number 35 = .ok (.ifCond .eq 12, 3) := by decide +kernel
theorem dX4_number_38 : decode cX4_number 38 = .ok (.aload_n 1, 1) := by decide +kernel
theorem dX4_number_39 : decode cX4_number 39 = .ok (.iload 4, 2) := by decide +kernel
theorem dX4_number_41 : decode cX4_number 41 = .ok (.iaload, 1) := by decide +kernel
theorem dX4_number_42 : decode cX4_number 42 = .ok (.iload_n 2, 1) := by decide +kernel
theorem dX4_number_43 : decode cX4_number 43 = .ok (.iand, 1) := by decide +kernel
theorem dX4_number_44 : decode cX4_number 44 = .ok (.goto 4, 3) := by decide +kernel
theorem dX4_number_47 : decode cX4_number 47 = .ok (.iconst 0, 1) := by decide +kernel
theorem dX4_number_48 : decode cX4_number 48 = .ok (.istore 5, 2) := by decide +kernel
theorem dX4_number_50 : decode cX4_number 50 = .ok (.iload_n 3, 1) := by decide +kernel
theorem dX4_number_51 : decode cX4_number 51 = .ok (.ifCond .eq 19, 3) := by decide +kernel
theorem dX4_number_54 : decode cX4_number 54 = .ok (.aload_n 0, 1) := by decide +kernel
theorem dX4_number_55 : decode cX4_number 55 = .ok (.getfield 15, 3) := by decide +kernel
theorem dX4_number_58 : decode cX4_number 58 = .ok (.iload 4, 2) := by decide +kernel
theorem dX4_number_60 : decode cX4_number 60 = .ok (.iaload, 1) := by decide +kernel
theorem dX4_number_61 : decode cX4_number 61 = .ok (.iload 5, 2) := by decide +kernel
theorem dX4_number_63 : decode cX4_number 63 = .ok (.if_icmp .ne 7, 3) := by decide +kernel
theorem dX4_number_66 : decode cX4_number 66 = .ok (.iconst 1, 1) := by decide +kernel
theorem dX4_number_67 : decode cX4_number 67 = .ok (.goto 4, 3) := by decide +kernel
theorem dX4_number_70 : decode cX4_number 70 = .ok (.iconst 0, 1) := by decide +kernel
theorem dX4_number_71 : decode cX4_number 71 = .ok (.istore_n 3, 1) := by decide +kernel
theorem dX4_number_72 : decode cX4_number 72 = .ok (.aload_n 0, 1) := by decide +kernel
theorem dX4_number_73 : decode cX4_number 73 = .ok (.getfield 15, 3) := by decide +kernel
theorem dX4_number_76 : decode cX4_number 76 = .ok (.iload 4, 2) := by decide +kernel
theorem dX4_number_78 : decode cX4_number 78 = .ok (.iload 5, 2) := by decide +kernel
theorem dX4_number_80 : decode cX4_number 80 = .ok (.iastore, 1) := by decide +kernel
theorem dX4_number_81 : decode cX4_number 81 = .ok (.iinc 4 1, 3) := by decide +kernel
theorem dX4_number_84 : decode cX4_number 84 = .ok (.goto (-62), 3) := by decide +kernel
theorem dX4_number_87 : decode cX4_number 87 = .ok (.iload_n 3, 1) := by decide +kernel
theorem dX4_number_88 : decode cX4_number 88 = .ok (.ifCond .ne 7, 3) := by decide +kernel
theorem dX4_number_91 : decode cX4_number 91 = .ok (.aload_n 0, 1) := by decide +kernel
theorem dX4_number_92 : decode cX4_number 92 = .ok (.invokevirtual 27, 3) := by decide +kernel
theorem dX4_number_95 : decode cX4_number 95 = .ok (.aload_n 0, 1) := by decide +kernel
theorem dX4_number_96 : decode cX4_number 96 = .ok (.getfield 9, 3) := by decide +kernel
theorem dX4_number_99 : decode cX4_number 99 = .ok (.aload_n 0, 1) := by decide +kernel
theorem dX4_number_100 : decode cX4_number 100 = .ok (.getfield 19, 3) := by decide +kernel
theorem dX4_number_103 : decode cX4_number 103 = .ok (.laload, 1) := by decide +kernel
theorem dX4_number_104 : decode cX4_number 104 = .ok (.lreturn, 1) := by decide +kernel
theorem dX4_fillTable_0 : decode cX4_fillTable 0 = .ok (.aload_n 0, 1) := by decide +kernel
theorem dX4_fillTable_1 : decode cX4_fillTable 1 = .ok (.getfield 9, 3) := by decide +kernel
theorem dX4_fillTable_4 : decode cX4_fillTable 4 = .ok (.iconst 0, 1) := by decide +kernel
theorem dX4_fillTable_5 : decode cX4_fillTable 5 = .ok (.lconst 1, 1) := by decide +kernel
theorem dX4_fillTable_6 : decode cX4_fillTable 6 = .ok (.lastore, 1) := by decide +kernel
theorem dX4_fillTable_7 : decode cX4_fillTable 7 = .ok (.iconst 0, 1) := by decide +kernel
theorem dX4_fillTable_8 : decode cX4_fillTable 8 = .ok (.istore_n 1, 1) := by decide +kernel
theorem dX4_fillTable_9 : decode cX4_fillTable 9 = .ok (.iconst 0, 1) := by decide +kernel
theorem dX4_fillTable_10 : decode cX4_fillTable 10 = .ok (.istore_n 2, 1) := by decide +kernel
theorem dX4_fillTable_11 : decode cX4_fillTable 11 = .ok (.iload_n 2, 1) := by decide +kernel
theorem dX4_fillTable_12 : decode cX4_fillTable 12 = .ok (.aload_n 0, 1) := by decide +kernel
theorem dX4_fillTable_13 : decode cX4_fillTable 13 = .ok (.getfield 9, 3) := by decide +kernel
theorem dX4_fillTable_16 : decode cX4_fillTable 16 = .ok (.arraylength, 1) := by decide +kernel
theorem dX4_fillTable_17 : decode cX4_fillTable 17 = .ok (.if_icmp .ge 40, 3) := by decide +kernel
theorem dX4_fillTable_20 : decode cX4_fillTable 20 = .ok (.iload_n 1, 1) := by decide +kernel
theorem dX4_fillTable_21 : decode cX4_fillTable 21 = .ok (.aload_n 0, 1) := by decide +kernel
theorem dX4_fillTable_22 : decode cX4_fillTable 22 = .ok (.getfield 19, 3) := by decide +kernel
theorem dX4_fillTable_25 : decode cX4_fillTable 25 = .ok (.if_icmp .eq 32, 3) := by decide +kernel
theorem dX4_fillTable_28 : decode cX4_fillTable 28 = .ok (.iload_n 1, 1) := by decide +kernel
theorem dX4_fillTable_29 : decode cX4_fillTable 29 = .ok (.aload_n 0, 1) := by decide +kernel
theorem dX4_fillTable_30 : decode cX4_fillTable 30 = .ok (.getfield 19, 3) := by decide +kernel
theorem dX4_fillTable_33 : decode cX4_fillTable 33 = .ok (.isub, 1) := by decide +kernel
theorem dX4_fillTable_34 : decode cX4_fillTable 34 = .ok (.aload_n 0, 1) := by decide +kernel
theorem dX4_fillTable_35 : decode cX4_fillTable 35 = .ok (.getfield 19, 3) := by decide +kernel
theorem dX4_fillTable_38 : decode cX4_fillTable 38 = .ok (.iand, 1) := by decide +kernel
theorem dX4_fillTable_39 : decode cX4_fillTable 39 = .ok (.istore_n 1, 1) := by decide +kernel
theorem dX4_fillTable_40 : decode cX4_fillTable 40 = .ok (.aload_n 0, 1) := by decide +kernel
theorem dX4_fillTable_41 : decode cX4_fillTable 41 = .ok (.getfield 9, 3) := by decide +kernel
theorem dX4_fillTable_44 : decode cX4_fillTable 44 = .ok (.iload_n 1, 1) := by decide +kernel
theorem dX4_fillTable_45 : decode cX4_fillTable 45 = .ok (.aload_n 0, 1) := by decide +kernel
theorem dX4_fillTable_46 : decode cX4_fillTable 46 = .ok (.iload_n 1, 1) := by decide +kernel
theorem dX4_fillTable_47 : decode cX4_fillTable 47 = .ok (.invokevirtual 30, 3) := by decide +kernel
theorem dX4_fillTable_50 : decode cX4_fillTable 50 = .ok (.lastore, 1) := by decide +kernel
theorem dX4_fillTable_51 : decode cX4_fillTable 51 = .ok (.iinc 2 1, 3) := by decide +kernel
theorem dX4_fillTable_54 : decode cX4_fillTable 54 = .ok (.goto (-43), 3) := by decide +kernel
theorem dX4_fillTable_57 : decode cX4_fillTable 57 = .ok (.return_, 1) := by decide +kernel
theorem dX4_sumOver_0 : decode cX4_sumOver 0 = .ok (.lconst 0, 1) := by decide +kernel
theorem dX4_sumOver_1 : decode cX4_sumOver 1 = .ok (.lstore_n 2, 1) := by decide +kernel
theorem dX4_sumOver_2 : decode cX4_sumOver 2 = .ok (.iload_n 1, 1) := by decide +kernel
theorem dX4_sumOver_3 : decode cX4_sumOver 3 = .ok (.istore 4, 2) := by decide +kernel
theorem dX4_sumOver_5 : decode cX4_sumOver 5 = .ok (.iconst 0, 1) := by decide +kernel
theorem dX4_sumOver_6 : decode cX4_sumOver 6 = .ok (.istore 5, 2) := by decide +kernel
theorem dX4_sumOver_8 : decode cX4_sumOver 8 = .ok (.iload 5, 2) := by decide +kernel
theorem dX4_sumOver_10 : decode cX4_sumOver 10 = .ok (.bipush 12, 2) := by decide +kernel
theorem dX4_sumOver_12 : decode cX4_sumOver 12 = .ok (.if_icmp .ge 56, 3) := by decide +kernel
theorem dX4_sumOver_15 : decode cX4_sumOver 15 = .ok (.iload 4, 2) := by decide +kernel
theorem dX4_sumOver_17 : decode cX4_sumOver 17 = .ok (.ifCond .eq 51, 3) := by decide +kernel
theorem dX4_sumOver_20 : decode cX4_sumOver 20 = .ok (.iload 4, 2) := by decide +kernel
theorem dX4_sumOver_22 : decode cX4_sumOver 22 = .ok (.iconst 1, 1) := by decide +kernel
theorem dX4_sumOver_23 : decode cX4_sumOver 23 = .ok (.iand, 1) := by decide +kernel
theorem dX4_sumOver_24 : decode cX4_sumOver 24 = .ok (.iconst 1, 1) := by decide +kernel
theorem dX4_sumOver_25 : decode cX4_sumOver 25 = .ok (.if_icmp .ne 31, 3) := by decide +kernel
theorem dX4_sumOver_28 : decode cX4_sumOver 28 = .ok (.aload_n 0, 1) := by decide +kernel
theorem dX4_sumOver_29 : decode cX4_sumOver 29 = .ok (.getfield 15, 3) := by decide +kernel
theorem dX4_sumOver_32 : decode cX4_sumOver 32 = .ok (.iload 5, 2) := by decide +kernel
theorem dX4_sumOver_34 : decode cX4_sumOver 34 = .ok (.iaload, 1) := by decide +kernel
theorem dX4_sumOver_35 : decode cX4_sumOver 35 = .ok (.iload_n 1, 1) := by decide +kernel
theorem dX4_sumOver_36 : decode cX4_sumOver 36 = .ok (.iand, 1) := by decide +kernel
theorem dX4_sumOver_37 : decode cX4_sumOver 37 = .ok (.ifCond .ne 19, 3) := by decide +kernel
theorem dX4_sumOver_40 : decode cX4_sumOver 40 = .ok (.lload_n 2, 1) := by decide +kernel
theorem dX4_sumOver_41 : decode cX4_sumOver 41 = .ok (.aload_n 0, 1) := by decide +kernel
theorem dX4_sumOver_42 : decode cX4_sumOver 42 = .ok (.getfield 9, 3) := by decide +kernel
theorem dX4_sumOver_45 : decode cX4_sumOver 45 = .ok (.iload_n 1, 1) := by decide +kernel
theorem dX4_sumOver_46 : decode cX4_sumOver 46 = .ok (.iconst 1, 1) := by decide +kernel
theorem dX4_sumOver_47 : decode cX4_sumOver 47 = .ok (.iload 5, 2) := by decide +kernel
theorem dX4_sumOver_49 : decode cX4_sumOver 49 = .ok (.ishl, 1) := by decide +kernel
theorem dX4_sumOver_50 : decode cX4_sumOver 50 = .ok (.iconst (-1), 1) := by decide +kernel
theorem dX4_sumOver_51 : decode cX4_sumOver 51 = .ok (.ixor, 1) := by decide +kernel
theorem dX4_sumOver_52 : decode cX4_sumOver 52 = .ok (.iand, 1) := by decide +kernel
theorem dX4_sumOver_53 : decode cX4_sumOver 53 = .ok (.laload, 1) := by decide +kernel
theorem dX4_sumOver_54 : decode cX4_sumOver 54 = .ok (.ladd, 1) := by decide +kernel
theorem dX4_sumOver_55 : decode cX4_sumOver 55 = .ok (.lstore_n 2, 1) := by decide +kernel
theorem dX4_sumOver_56 : decode cX4_sumOver 56 = .ok (.iload 4, 2) := by decide +kernel
theorem dX4_sumOver_58 : decode cX4_sumOver 58 = .ok (.iconst 1, 1) := by decide +kernel
theorem dX4_sumOver_59 : decode cX4_sumOver 59 = .ok (.ishr, 1) := by decide +kernel
theorem dX4_sumOver_60 : decode cX4_sumOver 60 = .ok (.istore 4, 2) := by decide +kernel
theorem dX4_sumOver_62 : decode cX4_sumOver 62 = .ok (.iinc 5 1, 3) := by decide +kernel
theorem dX4_sumOver_65 : decode cX4_sumOver 65 = .ok (.goto (-57), 3) := by decide +kernel
theorem dX4_sumOver_68 : decode cX4_sumOver 68 = .ok (.lload_n 2, 1) := by decide +kernel
theorem dX4_sumOver_69 : decode cX4_sumOver 69 = .ok (.lreturn, 1) := by decide +kernel
theorem dX4_isFree_0 : decode cX4_isFree 0 = .ok (.iload_n 1, 1) := by decide +kernel
theorem dX4_isFree_1 : decode cX4_isFree 1 = .ok (.iload_n 2, 1) := by decide +kernel
theorem dX4_isFree_2 : decode cX4_isFree 2 = .ok (.invokestatic 23, 3) := by decide +kernel
theorem dX4_isFree_5 : decode cX4_isFree 5 = .ok (.ifCond .eq 18, 3) := by decide +kernel
theorem dX4_isFree_8 : decode cX4_isFree 8 = .ok (.aload_n 0, 1) := by decide +kernel
theorem dX4_isFree_9 : decode cX4_isFree 9 = .ok (.getfield 15, 3) := by decide +kernel
theorem dX4_isFree_12 : decode cX4_isFree 12 = .ok (.iload_n 2, 1) := by decide +kernel
theorem dX4_isFree_13 : decode cX4_isFree 13 = .ok (.iaload, 1) := by decide +kernel
theorem dX4_isFree_14 : decode cX4_isFree 14 = .ok (.iload_n 1, 1) := by decide +kernel
theorem dX4_isFree_15 : decode cX4_isFree 15 = .ok (.iand, 1) := by decide +kernel
theorem dX4_isFree_16 : decode cX4_isFree 16 = .ok (.ifCond .ne 7, 3) := by decide +kernel
theorem dX4_isFree_19 : decode cX4_isFree 19 = .ok (.iconst 1, 1) := by decide +kernel
theorem dX4_isFree_20 : decode cX4_isFree 20 = .ok (.goto 4, 3) := by decide +kernel
theorem dX4_isFree_23 : decode cX4_isFree 23 = .ok (.iconst 0, 1) := by decide +kernel
theorem dX4_isFree_24 : decode cX4_isFree 24 = .ok (.ireturn, 1) := by decide +kernel
theorem dX4_unitOfOrder_0 : decode cX4_unitOfOrder 0 = .ok (.lload_n 1, 1) := by decide +kernel
theorem dX4_unitOfOrder_1 : decode cX4_unitOfOrder 1 = .ok (.lstore 4, 2) := by decide +kernel
theorem dX4_unitOfOrder_3 : decode cX4_unitOfOrder 3 = .ok (.aload_n 0, 1) := by decide +kernel
theorem dX4_unitOfOrder_4 : decode cX4_unitOfOrder 4 = .ok (.getfield 19, 3) := by decide +kernel
theorem dX4_unitOfOrder_7 : decode cX4_unitOfOrder 7 = .ok (.istore 6, 2) := by decide +kernel
theorem dX4_unitOfOrder_9 : decode cX4_unitOfOrder 9 = .ok (.iconst (-1), 1) := by decide +kernel
theorem dX4_unitOfOrder_10 : decode cX4_unitOfOrder 10 = .ok (.istore 7, 2) := by decide +kernel
theorem dX4_unitOfOrder_12 : decode cX4_unitOfOrder 12 = .ok (.iconst 0, 1) := by decide +kernel
theorem dX4_unitOfOrder_13 : decode cX4_unitOfOrder 13 = .ok (.istore 8, 2) := by decide +kernel
theorem dX4_unitOfOrder_15 : decode cX4_unitOfOrder 15 = .ok (.iload 8, 2) := by decide +kernel
theorem dX4_unitOfOrder_17 : decode cX4_unitOfOrder 17 = .ok (.iload_n 3, 1) := by decide +kernel
theorem dX4_unitOfOrder_18 : decode cX4_unitOfOrder 18 = .ok (.if_icmp .gt 102, 3) := by decide +kernel
theorem dX4_unitOfOrder_21 : decode cX4_unitOfOrder 21 = .ok (.iconst (-1), 1) := by decide +kernel
theorem dX4_unitOfOrder_22 : decode cX4_unitOfOrder 22 = .ok (.istore 7, 2) := by decide +kernel
theorem dX4_unitOfOrder_24 : decode cX4_unitOfOrder 24 = .ok (.iconst 0, 1) := by decide +kernel
theorem dX4_unitOfOrder_25 : decode cX4_unitOfOrder 25 = .ok (.istore 9, 2) := by decide +kernel
theorem dX4_unitOfOrder_27 : decode cX4_unitOfOrder 27 = .ok (.iload 9, 2) := by decide +kernel
theorem dX4_unitOfOrder_29 : decode cX4_unitOfOrder 29 = .ok (.bipush 12, 2) := by decide +kernel
theorem dX4_unitOfOrder_31 : decode cX4_unitOfOrder 31 = .ok (.if_icmp .ge 64, 3) := by decide +kernel
theorem dX4_unitOfOrder_34 : decode cX4_unitOfOrder 34 = .ok (.iload 7, 2) := by decide +kernel
theorem dX4_unitOfOrder_36 : decode cX4_unitOfOrder 36 = .ok (.iconst (-1), 1) := by decide +kernel
theorem dX4_unitOfOrder_37 : decode cX4_unitOfOrder 37 = .ok (.if_icmp .ne 58, 3) := by decide +kernel
theorem dX4_unitOfOrder_40 : decode cX4_unitOfOrder 40 = .ok (.aload_n 0, 1) := by decide +kernel
theorem dX4_unitOfOrder_41 : decode cX4_unitOfOrder 41 = .ok (.iload 6, 2) := by decide +kernel
theorem dX4_unitOfOrder_43 : decode cX4_unitOfOrder 43 = .ok (.iload 9, 2) := by decide +kernel
theorem dX4_unitOfOrder_45 : decode cX4_unitOfOrder 45 = .ok (.invokevirtual 34, 3) := by decide +kernel
theorem dX4_unitOfOrder_48 : decode cX4_unitOfOrder 48 = .ok (.ifCond .eq 41, 3) := by decide +kernel
theorem dX4_unitOfOrder_51 : decode cX4_unitOfOrder 51 = .ok (.aload_n 0, 1) := by decide +kernel
theorem dX4_unitOfOrder_52 : decode cX4_unitOfOrder 52 = .ok (.getfield 9, 3) := by decide +kernel
theorem dX4_unitOfOrder_55 : decode cX4_unitOfOrder 55 = .ok (.iload 6, 2) := by decide +kernel
theorem dX4_unitOfOrder_57 : decode cX4_unitOfOrder 57 = .ok (.iconst 1, 1) := by decide +kernel
theorem dX4_unitOfOrder_58 : decode cX4_unitOfOrder 58 = .ok (.iload 9, 2) := by decide +kernel
theorem dX4_unitOfOrder_60 : decode cX4_unitOfOrder 60 = .ok (.ishl, 1) := by decide +kernel
theorem dX4_unitOfOrder_61 : decode cX4_unitOfOrder 61 = .ok (.iconst (-1), 1) := by decide +kernel
theorem dX4_unitOfOrder_62 : decode cX4_unitOfOrder 62 = .ok (.ixor, 1) := by decide +kernel
theorem dX4_unitOfOrder_63 : decode cX4_unitOfOrder 63 = .ok (.iand, 1) := by decide +kernel
theorem dX4_unitOfOrder_64 : decode cX4_unitOfOrder 64 = .ok (.laload, 1) := by decide +kernel
theorem dX4_unitOfOrder_65 : decode cX4_unitOfOrder 65 = .ok (.lstore 10, 2) := by decide +kernel
theorem dX4_unitOfOrder_67 : decode cX4_unitOfOrder 67 = .ok (.lload 4, 2) := by decide +kernel
theorem dX4_unitOfOrder_69 : decode cX4_unitOfOrder 69 = .ok (.lload 10, 2) := by decide +kernel
theorem dX4_unitOfOrder_71 : decode cX4_unitOfOrder 71 = .ok (.lcmp, 1) := by decide +kernel
theorem dX4_unitOfOrder_72 : decode cX4_unitOfOrder 72 = .ok (.ifCond .ge 10, 3) := by decide +kernel
theorem dX4_unitOfOrder_75 : decode cX4_unitOfOrder 75 = .ok (.iload 9, 2) := by decide +kernel
theorem dX4_unitOfOrder_77 : decode cX4_unitOfOrder 77 = .ok (.istore 7, 2) := by decide +kernel
theorem dX4_unitOfOrder_79 : decode cX4_unitOfOrder 79 = .ok (.goto 10, 3) := by decide +kernel
theorem dX4_unitOfOrder_82 : decode cX4_unitOfOrder 82 = .ok (.lload 4, 2) := by decide +kernel
theorem dX4_unitOfOrder_84 : decode cX4_unitOfOrder 84 = .ok (.lload 10, 2) := by decide +kernel
theorem dX4_unitOfOrder_86 : decode cX4_unitOfOrder 86 = .ok (.lsub, 1) := by decide +kernel
theorem dX4_unitOfOrder_87 : decode cX4_unitOfOrder 87 = .ok (.lstore 4, 2) := by decide +kernel
theorem dX4_unitOfOrder_89 : decode cX4_unitOfOrder 89 = .ok (.iinc 9 1, 3) := by decide +kernel
theorem dX4_unitOfOrder_92 : decode cX4_unitOfOrder 92 = .ok (.goto (-65), 3) := by decide +kernel
theorem dX4_unitOfOrder_95 : decode cX4_unitOfOrder 95 = .ok (.iload 7, 2) := by decide +kernel
theorem dX4_unitOfOrder_97 : decode cX4_unitOfOrder 97 = .ok (.iconst (-1), 1) := by decide +kernel
theorem dX4_unitOfOrder_98 : decode cX4_unitOfOrder 98 = .ok (.if_icmp .ne 5, 3) := by decide +kernel
theorem dX4_unitOfOrder_101 : decode cX4_unitOfOrder 101 = .ok (.iconst (-1), 1) := by decide +kernel
theorem dX4_unitOfOrder_102 : decode cX4_unitOfOrder 102 = .ok (.ireturn, 1) := by decide +kernel
theorem dX4_unitOfOrder_103 : decode cX4_unitOfOrder 103 = .ok (.iload 6, 2) := by decide +kernel
theorem dX4_unitOfOrder_105 : decode cX4_unitOfOrder 105 = .ok (.iconst 1, 1) := by decide +kernel
theorem dX4_unitOfOrder_106 : decode cX4_unitOfOrder 106 = .ok (.iload 7, 2) := by decide +kernel
theorem dX4_unitOfOrder_108 : decode cX4_unitOfOrder 108 = .ok (.ishl, 1) := by decide +kernel
theorem dX4_unitOfOrder_109 : decode cX4_unitOfOrder 109 = .ok (.iconst (-1), 1) := by decide +kernel
theorem dX4_unitOfOrder_110 : decode cX4_unitOfOrder 110 = .ok (.ixor, 1) := by decide +kernel
theorem dX4_unitOfOrder_111 : decode cX4_unitOfOrder 111 = .ok (.iand, 1) := by decide +kernel
theorem dX4_unitOfOrder_112 : decode cX4_unitOfOrder 112 = .ok (.istore 6, 2) := by decide +kernel
theorem dX4_unitOfOrder_114 : decode cX4_unitOfOrder 114 = .ok (.iinc 8 1, 3) := by decide +kernel
theorem dX4_unitOfOrder_117 : decode cX4_unitOfOrder 117 = .ok (.goto (-102), 3) := by decide +kernel
theorem dX4_unitOfOrder_120 : decode cX4_unitOfOrder 120 = .ok (.iload 7, 2) := by decide +kernel
theorem dX4_unitOfOrder_122 : decode cX4_unitOfOrder 122 = .ok (.ireturn, 1) := by decide +kernel
theorem dX5_init_0 : decode cX5_init 0 = .ok (.aload_n 0, 1) := by decide +kernel
theorem dX5_init_1 : decode cX5_init 1 = .ok (.invokespecial 3, 3) := by decide +kernel
theorem dX5_init_4 : decode cX5_init 4 = .ok (.aload_n 0, 1) := by decide +kernel
theorem dX5_init_5 : decode cX5_init 5 = .ok (.iconst 0, 1) := by decide +kernel
theorem dX5_init_6 : decode cX5_init 6 = .ok (.putfield 9, 3) := by decide +kernel
theorem dX5_init_9 : decode cX5_init 9 = .ok (.aload_n 0, 1) := by decide +kernel
theorem dX5_init_10 : decode cX5_init 10 = .ok (.bipush 12, 2) := by decide +kernel
theorem dX5_init_12 : decode cX5_init 12 = .ok (.newarray .int, 2) := by decide +kernel
theorem dX5_init_14 : decode cX5_init 14 = .ok (.putfield 15, 3) := by decide +kernel
theorem dX5_init_17 : decode cX5_init 17 = .ok (.aload_n 0, 1) := by decide +kernel
theorem dX5_init_18 : decode cX5_init 18 = .ok (.bipush 12, 2) := by decide +kernel
theorem dX5_init_20 : decode cX5_init 20 = .ok (.newarray .int, 2) := by decide +kernel
theorem dX5_init_22 : decode cX5_init 22 = .ok (.putfield 19, 3) := by decide +kernel
theorem dX5_init_25 : decode cX5_init 25 = .ok (.aload_n 0, 1) := by decide +kernel
theorem dX5_init_26 : decode cX5_init 26 = .ok (.bipush 12, 2) := by decide +kernel
theorem dX5_init_28 : decode cX5_init 28 = .ok (.newarray .int, 2) := by decide +kernel
theorem dX5_init_30 : decode cX5_init 30 = .ok (.putfield 22, 3) := by decide +kernel
theorem dX5_init_33 : decode cX5_init 33 = .ok (.aload_n 0, 1) := by decide +kernel
theorem dX5_init_34 : decode cX5_init 34 = .ok (.bipush 12, 2) := by decide +kernel
theorem dX5_init_36 : decode cX5_init 36 = .ok (.newarray .int, 2) := by decide +kernel
theorem dX5_init_38 : decode cX5_init 38 = .ok (.putfield 25, 3) := by decide +kernel
theorem dX5_init_41 : decode cX5_init 41 = .ok (.aload_n 0, 1) := by decide +kernel
theorem dX5_init_42 : decode cX5_init 42 = .ok (.bipush 12, 2) := by decide +kernel
theorem dX5_init_44 : decode cX5_init 44 = .ok (.newarray .int, 2) := by decide +kernel
theorem dX5_init_46 : decode cX5_init 46 = .ok (.putfield 28, 3) := by decide +kernel
theorem dX5_init_49 : decode cX5_init 49 = .ok (.aload_n 0, 1) := by decide +kernel
theorem dX5_init_50 : decode cX5_init 50 = .ok (.bipush 13, 2) := by decide +kernel
theorem dX5_init_52 : decode cX5_init 52 = .ok (.newarray .int, 2) := by decide +kernel
theorem dX5_init_54 : decode cX5_init 54 = .ok (.putfield 31, 3) := by decide +kernel
theorem dX5_init_57 : decode cX5_init 57 = .ok (.return_, 1) := by decide +kernel
theorem dX5_weave_0 : decode cX5_weave 0 = .ok (.aload_n 0, 1) := by decide +kernel
theorem dX5_weave_1 : decode cX5_weave 1 = .ok (.aload_n 1, 1) := by decide +kernel
theorem dX5_weave_2 : decode cX5_weave 2 = .ok (.getfield 34, 3) := by decide +kernel
theorem dX5_weave_5 : decode cX5_weave 5 = .ok (.putfield 9, 3) := by decide +kernel
theorem dX5_weave_8 : decode cX5_weave 8 = .ok (.iconst 0, 1) := by decide +kernel
theorem dX5_weave_9 : decode cX5_weave 9 = .ok (.istore_n 3, 1) := by decide +kernel
theorem dX5_weave_10 : decode cX5_weave 10 = .ok (.iload_n 3, 1) := by decide +kernel
theorem dX5_weave_11 : decode cX5_weave 11 = .ok (.bipush 12, 2) := by decide +kernel
theorem dX5_weave_13 : decode cX5_weave 13 = .ok (.if_icmp .ge 23, 3) := by decide +kernel
theorem dX5_weave_16 : decode cX5_weave 16 = .ok (.aload_n 0, 1) := by decide +kernel
theorem dX5_weave_17 : decode cX5_weave 17 = .ok (.getfield 15, 3) := by decide +kernel
theorem dX5_weave_20 : decode cX5_weave 20 = .ok (.iload_n 3, 1) := by decide +kernel
theorem dX5_weave_21 : decode cX5_weave 21 = .ok (.iconst 0, 1) := by decide +kernel
theorem dX5_weave_22 : decode cX5_weave 22 = .ok (.iastore, 1) := by decide +kernel
theorem dX5_weave_23 : decode cX5_weave 23 = .ok (.aload_n 0, 1) := by decide +kernel
theorem dX5_weave_24 : decode cX5_weave 24 = .ok (.getfield 19, 3) := by decide +kernel
theorem dX5_weave_27 : decode cX5_weave 27 = .ok (.iload_n 3, 1) := by decide +kernel
theorem dX5_weave_28 : decode cX5_weave 28 = .ok (.iconst 0, 1) := by decide +kernel
theorem dX5_weave_29 : decode cX5_weave 29 = .ok (.iastore, 1) := by decide +kernel
theorem dX5_weave_30 : decode cX5_weave 30 = .ok (.iinc 3 1, 3) := by decide +kernel
theorem dX5_weave_33 : decode cX5_weave 33 = .ok (.goto (-23), 3) := by decide +kernel
theorem dX5_weave_36 : decode cX5_weave 36 = .ok (.iconst 0, 1) := by decide +kernel
theorem dX5_weave_37 : decode cX5_weave 37 = .ok (.istore_n 3, 1) := by decide +kernel
theorem dX5_weave_38 : decode cX5_weave 38 = .ok (.iload_n 3, 1) := by decide +kernel
theorem dX5_weave_39 : decode cX5_weave 39 = .ok (.aload_n 1, 1) := by decide +kernel
theorem dX5_weave_40 : decode cX5_weave 40 = .ok (.getfield 37, 3) := by decide +kernel
theorem dX5_weave_43 : decode cX5_weave 43 = .ok (.if_icmp .ge 58, 3) := by decide +kernel
theorem dX5_weave_46 : decode cX5_weave 46 = .ok (.iload_n 3, 1) := by decide +kernel
theorem dX5_weave_47 : decode cX5_weave 47 = .ok (.iload_n 2, 1) := by decide +kernel
theorem dX5_weave_48 : decode cX5_weave 48 = .ok (.if_icmp .eq 47, 3) := by decide +kernel
theorem dX5_weave_51 : decode cX5_weave 51 = .ok (.aload_n 0, 1) := by decide +kernel
theorem dX5_weave_52 : decode cX5_weave 52 = .ok (.getfield 15, 3) := by decide +kernel
theorem dX5_weave_55 : decode cX5_weave 55 = .ok (.aload_n 1, 1) := by decide +kernel
theorem dX5_weave_56 : decode cX5_weave 56 = .ok (.getfield 40, 3) := by decide +kernel
theorem dX5_weave_59 : decode cX5_weave 59 = .ok (.iload_n 3, 1) := by decide +kernel
theorem dX5_weave_60 : decode cX5_weave 60 = .ok (.iaload, 1) := by decide +kernel
theorem dX5_weave_61 : decode cX5_weave 61 = .ok (.dup2, 1) := by decide +kernel
theorem dX5_weave_62 : decode cX5_weave 62 = .ok (.iaload, 1) := by decide +kernel
theorem dX5_weave_63 : decode cX5_weave 63 = .ok (.iconst 1, 1) := by decide +kernel
theorem dX5_weave_64 : decode cX5_weave 64 = .ok (.aload_n 1, 1) := by decide +kernel
theorem dX5_weave_65 : decode cX5_weave 65 = .ok (.getfield 43, 3) := by decide +kernel
theorem dX5_weave_68 : decode cX5_weave 68 = .ok (.iload_n 3, 1) := by decide +kernel
theorem dX5_weave_69 : decode cX5_weave 69 = .ok (.iaload, 1) := by decide +kernel
theorem dX5_weave_70 : decode cX5_weave 70 = .ok (.ishl, 1) := by decide +kernel
theorem dX5_weave_71 : decode cX5_weave 71 = .ok (.ior, 1) := by decide +kernel
theorem dX5_weave_72 : decode cX5_weave 72 = .ok (.iastore, 1) := by decide +kernel
theorem dX5_weave_73 : decode cX5_weave 73 = .ok (.aload_n 0, 1) := by decide +kernel
theorem dX5_weave_74 : decode cX5_weave 74 = .ok (.getfield 19, 3) := by decide +kernel
theorem dX5_weave_77 : decode cX5_weave 77 = .ok (.aload_n 1, 1) := by decide +kernel
theorem dX5_weave_78 : decode cX5_weave 78 = .ok (.getfield 43, 3) := by decide +kernel
theorem dX5_weave_81 : decode cX5_weave 81 = .ok (.iload_n 3, 1) := by decide +kernel
theorem dX5_weave_82 : decode cX5_weave 82 = .ok (.iaload, 1) := by decide +kernel
theorem dX5_weave_83 : decode cX5_weave 83 = .ok (.dup2, 1) := by decide +kernel
theorem dX5_weave_84 : decode cX5_weave 84 = .ok (.iaload, 1) := by decide +kernel
theorem dX5_weave_85 : decode cX5_weave 85 = .ok (.iconst 1, 1) := by decide +kernel
theorem dX5_weave_86 : decode cX5_weave 86 = .ok (.aload_n 1, 1) := by decide +kernel
theorem dX5_weave_87 : decode cX5_weave 87 = .ok (.getfield 40, 3) := by decide +kernel
theorem dX5_weave_90 : decode cX5_weave 90 = .ok (.iload_n 3, 1) := by decide +kernel
theorem dX5_weave_91 : decode cX5_weave 91 = .ok (.iaload, 1) := by decide +kernel
theorem dX5_weave_92 : decode cX5_weave 92 = .ok (.ishl, 1) := by decide +kernel
theorem dX5_weave_93 : decode cX5_weave 93 = .ok (.ior, 1) := by decide +kernel
theorem dX5_weave_94 : decode cX5_weave 94 = .ok (.iastore, 1) := by decide +kernel
theorem dX5_weave_95 : decode cX5_weave 95 = .ok (.iinc 3 1, 3) := by decide +kernel
theorem dX5_weave_98 : decode cX5_weave 98 = .ok (.goto (-60), 3) := by decide +kernel
theorem dX5_weave_101 : decode cX5_weave 101 = .ok (.aload_n 0, 1) := by decide +kernel
theorem dX5_weave_102 : decode cX5_weave 102 = .ok (.invokevirtual 46, 3) := by decide +kernel
theorem dX5_weave_105 : decode cX5_weave 105 = .ok (.return_, 1) := by decide +kernel
theorem dX5_closeChains_0 : decode cX5_closeChains 0 = .ok (.iconst 0, 1) := by decide +kernel
theorem dX5_closeChains_1 : decode cX5_closeChains 1 = .ok (.istore_n 1, 1) := by decide +kernel
theorem dX5_closeChains_2 : decode cX5_closeChains 2 = .ok (.iload_n 1, 1) := by decide +kernel
theorem dX5_closeChains_3 : decode cX5_closeChains 3 = .ok (.aload_n 0, 1) := by decide +kernel
theorem dX5_closeChains_4 : decode cX5_closeChains 4 = .ok (.getfield 9, 3) := by decide +kernel
theorem dX5_closeChains_7 : decode cX5_closeChains 7 = .ok (.if_icmp .ge 21, 3) := by decide +kernel
theorem dX5_closeChains_10 : decode cX5_closeChains 10 = .ok (.aload_n 0, 1) := by decide +kernel
theorem dX5_closeChains_11 : decode cX5_closeChains 11 = .ok (.getfield 22, 3) := by decide +kernel
theorem dX5_closeChains_14 : decode cX5_closeChains 14 = .ok (.iload_n 1, 1) := by decide +kernel
theorem dX5_closeChains_15 : decode cX5_closeChains 15 = .ok (.aload_n 0, 1) := by decide +kernel
theorem dX5_closeChains_16 : decode cX5_closeChains 16 = .ok (.getfield 15, 3) := by decide +kernel
theorem dX5_closeChains_19 : decode cX5_closeChains 19 = .ok (.iload_n 1, 1) := by decide +kernel
theorem dX5_closeChains_20 : decode cX5_closeChains 20 = .ok (.iaload, 1) := by decide +kernel
theorem dX5_closeChains_21 : decode cX5_closeChains 21 = .ok (.iastore, 1) := by decide +kernel
theorem dX5_closeChains_22 : decode cX5_closeChains 22 = .ok (.iinc 1 1, 3) := by decide +kernel
theorem dX5_closeChains_25 : decode cX5_closeChains 25 = .ok (.goto (-23), 3) := by decide +kernel
theorem dX5_closeChains_28 : decode cX5_closeChains 28 = .ok (.iconst 0, 1) := by decide +kernel
theorem dX5_closeChains_29 : decode cX5_closeChains 29 = .ok (.istore_n 1, 1) := by decide +kernel
theorem dX5_closeChains_30 : decode cX5_closeChains 30 = .ok (.iload_n 1, 1) := by decide +kernel
theorem dX5_closeChains_31 : decode cX5_closeChains 31 = .ok (.aload_n 0, 1) := by decide +kernel
theorem dX5_closeChains_32 : decode cX5_closeChains 32 = .ok (.getfield 9, 3) := by decide +kernel
theorem dX5_closeChains_35 : decode cX5_closeChains 35 = .ok (.if_icmp .ge 53, 3) := by decide +kernel
theorem dX5_closeChains_38 : decode cX5_closeChains 38 = .ok (.iconst 0, 1) := by decide +kernel
theorem dX5_closeChains_39 : decode cX5_closeChains 39 = .ok (.istore_n 2, 1) := by decide +kernel
theorem dX5_closeChains_40 : decode cX5_closeChains 40 = .ok (.iload_n 2, 1) := by decide +kernel
theorem dX5_closeChains_41 : decode cX5_closeChains 41 = .ok (.aload_n 0, 1) := by decide +kernel
theorem dX5_closeChains_42 : decode cX5_closeChains 42 = .ok (.getfield 9, 3) := by decide +kernel
theorem dX5_closeChains_45 : decode cX5_closeChains 45 = .ok (.if_icmp .ge 37, 3) := by decide +kernel
theorem dX5_closeChains_48 : decode cX5_closeChains 48 = .ok (.aload_n 0, 1) := by decide +kernel
theorem dX5_closeChains_49 : decode cX5_closeChains 49 = .ok (.getfield 22, 3) := by decide +kernel
theorem dX5_closeChains_52 : decode cX5_closeChains 52 = .ok (.iload_n 2, 1) := by decide +kernel
theorem dX5_closeChains_53 : decode cX5_closeChains 53 = .ok (.iaload, 1) := by decide +kernel
theorem dX5_closeChains_54 : decode cX5_closeChains 54 = .ok (.iload_n 1, 1) := by decide +kernel
theorem dX5_closeChains_55 : decode cX5_closeChains 55 = .ok (.invokestatic 49, 3) := by decide +kernel
theorem dX5_closeChains_58 : decode cX5_closeChains 58 = .ok (.ifCond .eq 18, 3) := by decide +kernel
theorem dX5_closeChains_61 : decode cX5_closeChains 61 = .ok (.aload_n 0, 1) := by decide +kernel
theorem dX5_closeChains_62 : decode cX5_closeChains 62 = .ok (.getfield 22, 3) := by decide +kernel
theorem dX5_closeChains_65 : decode cX5_closeChains 65 = .ok (.iload_n 2, 1) := by decide +kernel
theorem dX5_closeChains_66 : decode cX5_closeChains 66 = .ok (.dup2, 1) := by decide +kernel
theorem dX5_closeChains_67 : decode cX5_closeChains 67 = .ok (.iaload, 1) := by decide +kernel
theorem dX5_closeChains_68 : decode cX5_closeChains 68 = .ok (.aload_n 0, 1) := by decide +kernel
theorem dX5_closeChains_69 : decode cX5_closeChains 69 = .ok (.getfield 22, 3) := by decide +kernel
theorem dX5_closeChains_72 : decode cX5_closeChains 72 = .ok (.iload_n 1, 1) := by decide +kernel
theorem dX5_closeChains_73 : decode cX5_closeChains 73 = .ok (.iaload, 1) := by decide +kernel
theorem dX5_closeChains_74 : decode cX5_closeChains 74 = .ok (.ior, 1) := by decide +kernel
theorem dX5_closeChains_75 : decode cX5_closeChains 75 = .ok (.iastore, 1) := by decide +kernel
theorem dX5_closeChains_76 : decode cX5_closeChains 76 = .ok (.iinc 2 1, 3) := by decide +kernel
theorem dX5_closeChains_79 : decode cX5_closeChains 79 = .ok (.goto (-39), 3) := by decide +kernel
theorem dX5_closeChains_82 : decode cX5_closeChains 82 = .ok (.iinc 1 1, 3) := by decide +kernel
theorem dX5_closeChains_85 : decode cX5_closeChains 85 = .ok (.goto (-55), 3) := by decide +kernel
theorem dX5_closeChains_88 : decode cX5_closeChains 88 = .ok (.return_, 1) := by decide +kernel
theorem dX5_selfReachers_0 : decode cX5_selfReachers 0 = .ok (.iconst 0, 1) := by decide +kernel
theorem dX5_selfReachers_1 : decode cX5_selfReachers 1 = .ok (.istore_n 1, 1) := by decide +kernel
theorem dX5_selfReachers_2 : decode cX5_selfReachers 2 = .ok (.iconst 0, 1) := by decide +kernel
theorem dX5_selfReachers_3 : decode cX5_selfReachers 3 = .ok (.istore_n 2, 1) := by decide +kernel
theorem dX5_selfReachers_4 : decode cX5_selfReachers 4 = .ok (.iload_n 2, 1) := by decide +kernel
theorem dX5_selfReachers_5 : decode cX5_selfReachers 5 = .ok (.aload_n 0, 1) := by decide +kernel
theorem dX5_selfReachers_6 : decode cX5_selfReachers 6 = .ok (.getfield 9, 3) := by decide +kernel
theorem dX5_selfReachers_9 : decode cX5_selfReachers 9 = .ok (.if_icmp .ge 22, 3) := by decide +kernel
theorem dX5_selfReachers_12 : decode cX5_selfReachers 12 = .ok (.iload_n 1, 1) := by decide +kernel
theorem dX5_selfReachers_13 : decode cX5_selfReachers 13 = .ok (.aload_n 0, 1) := by decide +kernel
theorem dX5_selfReachers_14 : decode cX5_selfReachers 14 = .ok (.getfield 22, 3) := by decide +kernel
theorem dX5_selfReachers_17 : decode cX5_selfReachers 17 = .ok (.iload_n 2, 1) := by decide +kernel
theorem dX5_selfReachers_18 : decode cX5_selfReachers 18 = .ok (.iaload, 1) := by decide +kernel
theorem dX5_selfReachers_19 : decode cX5_selfReachers 19 = .ok (.iconst 1, 1) := by decide +kernel
theorem dX5_selfReachers_20 : decode cX5_selfReachers 20 = .ok (.iload_n 2, 1) := by decide +kernel
theorem dX5_selfReachers_21 : decode cX5_selfReachers 21 = .ok (.ishl, 1) := by decide +kernel
theorem dX5_selfReachers_22 : decode cX5_selfReachers 22 = .ok (.iand, 1) := by decide +kernel
theorem dX5_selfReachers_23 : decode cX5_selfReachers 23 = .ok (.ior, 1) := by decide +kernel
theorem dX5_selfReachers_24 : decode cX5_selfReachers 24 = .ok (.istore_n 1, 1) := by decide +kernel
theorem dX5_selfReachers_25 : decode cX5_selfReachers 25 = .ok (.iinc 2 1, 3) := by decide +kernel
theorem dX5_selfReachers_28 : decode cX5_selfReachers 28 = .ok (.goto (-24), 3) := by decide +kernel
theorem dX5_selfReachers_31 : decode cX5_selfReachers 31 = .ok (.iload_n 1, 1) := by decide +kernel
theorem dX5_selfReachers_32 : decode cX5_selfReachers 32 = .ok (.ireturn, 1) := by decide +kernel
theorem dX5_hasCycle_0 : decode cX5_hasCycle 0 = .ok (.aload_n 0, 1) := by decide +kernel
theorem dX5_hasCycle_1 : decode cX5_hasCycle 1 = .ok (.invokevirtual 53, 3) := by decide +kernel
theorem dX5_hasCycle_4 : decode cX5_hasCycle 4 = .ok (.ifCond .eq 7, 3) := by decide +kernel
theorem dX5_hasCycle_7 : decode cX5_hasCycle 7 = .ok (.iconst 1, 1) := by decide +kernel
theorem dX5_hasCycle_8 : decode cX5_hasCycle 8 = .ok (.goto 4, 3) := by decide +kernel
theorem dX5_hasCycle_11 : decode cX5_hasCycle 11 = .ok (.iconst 0, 1) := by decide +kernel
theorem dX5_hasCycle_12 : decode cX5_hasCycle 12 = .ok (.ireturn, 1) := by decide +kernel
theorem dX5_reachersOf_0 : decode cX5_reachersOf 0 = .ok (.iconst 0, 1) := by decide +kernel
theorem dX5_reachersOf_1 : decode cX5_reachersOf 1 = .ok (.istore_n 2, 1) := by decide +kernel
theorem dX5_reachersOf_2 : decode cX5_reachersOf 2 = .ok (.iconst 0, 1) := by decide +kernel
theorem dX5_reachersOf_3 : decode cX5_reachersOf 3 = .ok (.istore_n 3, 1) := by decide +kernel
theorem dX5_reachersOf_4 : decode cX5_reachersOf 4 = .ok (.iload_n 3, 1) := by decide +kernel
theorem dX5_reachersOf_5 : decode cX5_reachersOf 5 = .ok (.aload_n 0, 1) := by decide +kernel
theorem dX5_reachersOf_6 : decode cX5_reachersOf 6 = .ok (.getfield 9, 3) := by decide +kernel
theorem dX5_reachersOf_9 : decode cX5_reachersOf 9 = .ok (.if_icmp .ge 28, 3) := by decide +kernel
theorem dX5_reachersOf_12 : decode cX5_reachersOf 12 = .ok (.aload_n 0, 1) := by decide +kernel
theorem dX5_reachersOf_13 : decode cX5_reachersOf 13 = .ok (.getfield 22, 3) := by decide +kernel
theorem dX5_reachersOf_16 : decode cX5_reachersOf 16 = .ok (.iload_n 3, 1) := by decide +kernel
theorem dX5_reachersOf_17 : decode cX5_reachersOf 17 = .ok (.iaload, 1) := by decide +kernel
theorem dX5_reachersOf_18 : decode cX5_reachersOf 18 = .ok (.iload_n 1, 1) := by decide +kernel
theorem dX5_reachersOf_19 : decode cX5_reachersOf 19 = .ok (.invokestatic 49, 3) := by decide +kernel
theorem dX5_reachersOf_22 : decode cX5_reachersOf 22 = .ok (.ifCond .eq 9, 3) := by decide +kernel
theorem dX5_reachersOf_25 : decode cX5_reachersOf 25 = .ok (.iload_n 2, 1) := by decide +kernel
theorem dX5_reachersOf_26 : decode cX5_reachersOf 26 = .ok (.iconst 1, 1) := by decide +kernel
theorem dX5_reachersOf_27 : decode cX5_reachersOf 27 = .ok (.iload_n 3, 1) := by decide +kernel
theorem dX5_reachersOf_28 : decode cX5_reachersOf 28 = .ok (.ishl, 1) := by decide +kernel
theorem dX5_reachersOf_29 : decode cX5_reachersOf 29 = .ok (.ior, 1) := by decide +kernel
theorem dX5_reachersOf_30 : decode cX5_reachersOf 30 = .ok (.istore_n 2, 1) := by decide +kernel
theorem dX5_reachersOf_31 : decode cX5_reachersOf 31 = .ok (.iinc 3 1, 3) := by decide +kernel
theorem dX5_reachersOf_34 : decode cX5_reachersOf 34 = .ok (.goto (-30), 3) := by decide +kernel
theorem dX5_reachersOf_37 : decode cX5_reachersOf 37 = .ok (.iload_n 2, 1) := by decide +kernel
theorem dX5_reachersOf_38 : decode cX5_reachersOf 38 = .ok (.ireturn, 1) := by decide +kernel
theorem dX5_reducedUnder_0 : decode cX5_reducedUnder 0 = .ok (.aload_n 0, 1) := by decide +kernel
theorem dX5_reducedUnder_1 : decode cX5_reducedUnder 1 = .ok (.invokevirtual 57, 3) := by decide +kernel
theorem dX5_reducedUnder_4 : decode cX5_reducedUnder 4 = .ok (.ifCond .eq 10, 3) := by decide +kernel
theorem dX5_reducedUnder_7 : decode cX5_reducedUnder 7 = .ok (.aload_n 0, 1) := by decide +kernel
theorem dX5_reducedUnder_8 : decode cX5_reducedUnder 8 = .ok (.getfield 15, 3) := by decide +kernel
theorem dX5_reducedUnder_11 : decode cX5_reducedUnder 11 = .ok (.iload_n 1, 1) := by decide +kernel
theorem dX5_reducedUnder_12 : decode cX5_reducedUnder 12 = .ok (.iaload, 1) := by decide +kernel
theorem dX5_reducedUnder_13 : decode cX5_reducedUnder 13 = .ok (.ireturn, 1) := by decide +kernel
theorem dX5_reducedUnder_14 : decode cX5_reducedUnder 14 = .ok (.iconst 0, 1) := by decide +kernel
theorem dX5_reducedUnder_15 : decode cX5_reducedUnder 15 = .ok (.istore_n 2, 1) := by decide +kernel
theorem dX5_reducedUnder_16 : decode cX5_reducedUnder 16 = .ok (.iconst 0, 1) := by decide +kernel
theorem dX5_reducedUnder_17 : decode cX5_reducedUnder 17 = .ok (.istore_n 3, 1) := by decide +kernel
theorem dX5_reducedUnder_18 : decode cX5_reducedUnder 18 = .ok (.iload_n 3, 1) := by decide +kernel
theorem dX5_reducedUnder_19 : decode cX5_reducedUnder 19 = .ok (.aload_n 0, 1) := by decide +kernel
theorem dX5_reducedUnder_20 : decode cX5_reducedUnder 20 = .ok (.getfield 9, 3) := by decide +kernel
theorem dX5_reducedUnder_23 : decode cX5_reducedUnder 23 = .ok (.if_icmp .ge 31, 3) := by decide +kernel
theorem dX5_reducedUnder_26 : decode cX5_reducedUnder 26 = .ok (.aload_n 0, 1) := by decide +kernel
theorem dX5_reducedUnder_27 : decode cX5_reducedUnder 27 = .ok (.getfield 15, 3) := by decide +kernel
theorem dX5_reducedUnder_30 : decode cX5_reducedUnder 30 = .ok (.iload_n 1, 1) := by decide +kernel
theorem dX5_reducedUnder_31 : decode cX5_reducedUnder 31 = .ok (.iaload, 1) := by decide +kernel
theorem dX5_reducedUnder_32 : decode cX5_reducedUnder 32 = .ok (.iload_n 3, 1) := by decide +kernel
theorem dX5_reducedUnder_33 : decode cX5_reducedUnder 33 = .ok (.invokestatic 49, 3) := by decide +kernel
theorem dX5_reducedUnder_36 : decode cX5_reducedUnder 36 = .ok (.ifCond .eq 12, 3) := by decide +kernel
theorem dX5_reducedUnder_39 : decode cX5_reducedUnder 39 = .ok (.iload_n 2, 1) := by decide +kernel
theorem dX5_reducedUnder_40 : decode cX5_reducedUnder 40 = .ok (.aload_n 0, 1) := by decide +kernel
theorem dX5_reducedUnder_41 : decode cX5_reducedUnder 41 = .ok (.getfield 22, 3) := by decide +kernel
theorem dX5_reducedUnder_44 : decode cX5_reducedUnder 44 = .ok (.iload_n 3, 1) := by decide +kernel
theorem dX5_reducedUnder_45 : decode cX5_reducedUnder 45 = .ok (.iaload, 1) := by decide +kernel
theorem dX5_reducedUnder_46 : decode cX5_reducedUnder 46 = .ok (.ior, 1) := by decide +kernel
theorem dX5_reducedUnder_47 : decode cX5_reducedUnder 47 = .ok (.istore_n 2, 1) := by decide +kernel
theorem dX5_reducedUnder_48 : decode cX5_reducedUnder 48 = .ok (.iinc 3 1, 3) := by decide +kernel
theorem dX5_reducedUnder_51 : decode cX5_reducedUnder 51 = .ok (.goto (-33), 3) := by decide +kernel
theorem dX5_reducedUnder_54 : decode cX5_reducedUnder 54 = .ok (.aload_n 0, 1) := by decide +kernel
theorem dX5_reducedUnder_55 : decode cX5_reducedUnder 55 = .ok (.getfield 15, 3) := by decide +kernel
theorem dX5_reducedUnder_58 : decode cX5_reducedUnder 58 = .ok (.iload_n 1, 1) := by decide +kernel
theorem dX5_reducedUnder_59 : decode cX5_reducedUnder 59 = .ok (.iaload, 1) := by decide +kernel
theorem dX5_reducedUnder_60 : decode cX5_reducedUnder 60 = .ok (.iload_n 2, 1) := by decide +kernel
theorem dX5_reducedUnder_61 : decode cX5_reducedUnder 61 = .ok (.iconst (-1), 1) := by decide +kernel
theorem dX5_reducedUnder_62 : decode cX5_reducedUnder 62 = .ok (.ixor, 1) := by decide +kernel
theorem dX5_reducedUnder_63 : decode cX5_reducedUnder 63 = .ok (.iand, 1) := by decide +kernel
theorem dX5_reducedUnder_64 : decode cX5_reducedUnder 64 = .ok (.ireturn, 1) := by decide +kernel
theorem dX5_isReduced_0 : decode cX5_isReduced 0 = .ok (.aload_n 0, 1) := by decide +kernel
theorem dX5_isReduced_1 : decode cX5_isReduced 1 = .ok (.iload_n 1, 1) := by decide +kernel
theorem dX5_isReduced_2 : decode cX5_isReduced 2 = .ok (.invokevirtual 61, 3) := by decide +kernel
theorem dX5_isReduced_5 : decode cX5_isReduced 5 = .ok (.iload_n 2, 1) := by decide +kernel
theorem dX5_isReduced_6 : decode cX5_isReduced 6 = .ok (.invokestatic 49, 3) := by decide +kernel
theorem dX5_isReduced_9 : decode cX5_isReduced 9 = .ok (.ireturn, 1) := by decide +kernel
theorem dX5_reducedTies_0 : decode cX5_reducedTies 0 = .ok (.iconst 0, 1) := by decide +kernel
theorem dX5_reducedTies_1 : decode cX5_reducedTies 1 = .ok (.istore_n 1, 1) := by decide +kernel
theorem dX5_reducedTies_2 : decode cX5_reducedTies 2 = .ok (.iconst 0, 1) := by decide +kernel
theorem dX5_reducedTies_3 : decode cX5_reducedTies 3 = .ok (.istore_n 2, 1) := by decide +kernel
theorem dX5_reducedTies_4 : decode cX5_reducedTies 4 = .ok (.iload_n 2, 1) := by decide +kernel
theorem dX5_reducedTies_5 : decode cX5_reducedTies 5 = .ok (.aload_n 0, 1) := by decide +kernel
theorem dX5_reducedTies_6 : decode cX5_reducedTies 6 = .ok (.getfield 9, 3) := by decide +kernel
theorem dX5_reducedTies_9 : decode cX5_reducedTies 9 = .ok (.if_icmp .ge 20, 3) := by decide +kernel
theorem dX5_reducedTies_12 : decode cX5_reducedTies 12 = .ok (.iload_n 1, 1) := by decide +kernel
theorem dX5_reducedTies_13 : decode cX5_reducedTies 13 = .ok (.aload_n 0, 1) := by decide +kernel
theorem dX5_reducedTies_14 : decode cX5_reducedTies 14 = .ok (.iload_n 2, 1) := by decide +kernel
theorem dX5_reducedTies_15 : decode cX5_reducedTies 15 = .ok (.invokevirtual 61, 3) := by decide +kernel
theorem dX5_reducedTies_18 : decode cX5_reducedTies 18 = .ok (.invokestatic 65, 3) := by decide +kernel
theorem dX5_reducedTies_21 : decode cX5_reducedTies 21 = .ok (.iadd, 1) := by decide +kernel
theorem dX5_reducedTies_22 : decode cX5_reducedTies 22 = .ok (.istore_n 1, 1) := by decide +kernel
theorem dX5_reducedTies_23 : decode cX5_reducedTies 23 = .ok (.iinc 2 1, 3) := by decide +kernel
theorem dX5_reducedTies_26 : decode cX5_reducedTies 26 = .ok (.goto (-22), 3) := by decide +kernel
theorem dX5_reducedTies_29 : decode cX5_reducedTies 29 = .ok (.iload_n 1, 1) := by decide +kernel
theorem dX5_reducedTies_30 : decode cX5_reducedTies 30 = .ok (.ireturn, 1) := by decide +kernel
theorem dX5_rankLevels_0 : decode cX5_rankLevels 0 = .ok (.iconst 1, 1) := by decide +kernel
theorem dX5_rankLevels_1 : decode cX5_rankLevels 1 = .ok (.aload_n 0, 1) := by decide +kernel
theorem dX5_rankLevels_2 : decode cX5_rankLevels 2 = .ok (.getfield 9, 3) := by decide +kernel
theorem dX5_rankLevels_5 : decode cX5_rankLevels 5 = .ok (.ishl, 1) := by decide +kernel
theorem dX5_rankLevels_6 : decode cX5_rankLevels 6 = .ok (.iconst 1, 1) := by decide +kernel
theorem dX5_rankLevels_7 : decode cX5_rankLevels 7 = .ok (.isub, 1) := by decide +kernel
theorem dX5_rankLevels_8 : decode cX5_rankLevels 8 = .ok (.istore_n 1, 1) := by decide +kernel
theorem dX5_rankLevels_9 : decode cX5_rankLevels 9 = .ok (.iconst 0, 1) := by decide +kernel
theorem dX5_rankLevels_10 : decode cX5_rankLevels 10 = .ok (.istore_n 2, 1) := by decide +kernel
theorem dX5_rankLevels_11 : decode cX5_rankLevels 11 = .ok (.iconst 0, 1) := by decide +kernel
theorem dX5_rankLevels_12 : decode cX5_rankLevels 12 = .ok (.istore_n 3, 1) := by decide +kernel
theorem dX5_rankLevels_13 : decode cX5_rankLevels 13 = .ok (.iload_n 3, 1) := by decide +kernel
theorem dX5_rankLevels_14 : decode cX5_rankLevels 14 = .ok (.aload_n 0, 1) := by decide +kernel
theorem dX5_rankLevels_15 : decode cX5_rankLevels 15 = .ok (.getfield 9, 3) := by decide +kernel
theorem dX5_rankLevels_18 : decode cX5_rankLevels 18 = .ok (.if_icmp .ge 82, 3) := by decide +kernel
theorem dX5_rankLevels_21 : decode cX5_rankLevels 21 = .ok (.iload_n 1, 1) := by decide +kernel
theorem dX5_rankLevels_22 : decode cX5_rankLevels 22 = .ok (.ifCond .eq 78, 3) := by decide +kernel
theorem dX5_rankLevels_25 : decode cX5_rankLevels 25 = .ok (.iconst 0, 1) := by decide +kernel
theorem dX5_rankLevels_26 : decode cX5_rankLevels 26 = .ok (.istore 4, 2) := by decide +kernel
theorem dX5_rankLevels_28 : decode cX5_rankLevels 28 = .ok (.iconst 0, 1) := by decide +kernel
theorem dX5_rankLevels_29 : decode cX5_rankLevels 29 = .ok (.istore 5, 2) := by decide +kernel
theorem dX5_rankLevels_31 : decode cX5_rankLevels 31 = .ok (.iload 5, 2) := by decide +kernel
theorem dX5_rankLevels_33 : decode cX5_rankLevels 33 = .ok (.aload_n 0, 1) := by decide +kernel
theorem dX5_rankLevels_34 : decode cX5_rankLevels 34 = .ok (.getfield 9, 3) := by decide +kernel
theorem dX5_rankLevels_37 : decode cX5_rankLevels 37 = .ok (.if_icmp .ge 47, 3) := by decide +kernel
theorem dX5_rankLevels_40 : decode cX5_rankLevels 40 = .ok (.iload_n 1, 1) := by decide +kernel
theorem dX5_rankLevels_41 : decode cX5_rankLevels 41 = .ok (.iload 5, 2) := by decide +kernel
theorem dX5_rankLevels_43 : decode cX5_rankLevels 43 = .ok (.invokestatic 49, 3) := by decide +kernel
theorem dX5_rankLevels_46 : decode cX5_rankLevels 46 = .ok (.ifCond .eq 32, 3) := by decide +kernel
theorem dX5_rankLevels_49 : decode cX5_rankLevels 49 = .ok (.aload_n 0, 1) := by decide +kernel
theorem dX5_rankLevels_50 : decode cX5_rankLevels 50 = .ok (.getfield 15, 3) := by decide +kernel
theorem dX5_rankLevels_53 : decode cX5_rankLevels 53 = .ok (.iload 5, 2) := by decide +kernel
theorem dX5_rankLevels_55 : decode cX5_rankLevels 55 = .ok (.iaload, 1) := by decide +kernel
theorem dX5_rankLevels_56 : decode cX5_rankLevels 56 = .ok (.iload_n 1, 1) := by decide +kernel
theorem dX5_rankLevels_57 : decode cX5_rankLevels 57 = .ok (.iand, 1) := by decide +kernel
theorem dX5_rankLevels_58 : decode cX5_rankLevels 58 = .ok (.ifCond .ne 20, 3) := by decide +kernel
theorem dX5_rankLevels_61 : decode cX5_rankLevels 61 = .ok (.iload 4, 2) := by decide +kernel
theorem dX5_rankLevels_63 : decode cX5_rankLevels 63 = .ok (.iconst 1, 1) := by decide +kernel
theorem dX5_rankLevels_64 : decode cX5_rankLevels 64 = .ok (.iload 5, 2) := by decide +kernel
theorem dX5_rankLevels_66 : decode cX5_rankLevels 66 = .ok (.ishl, 1) := by decide +kernel
theorem dX5_rankLevels_67 : decode cX5_rankLevels 67 = .ok (.ior, 1) := by decide +kernel
theorem dX5_rankLevels_68 : decode cX5_rankLevels 68 = .ok (.istore 4, 2) := by decide +kernel
theorem dX5_rankLevels_70 : decode cX5_rankLevels 70 = .ok (.aload_n 0, 1) := by decide +kernel
theorem dX5_rankLevels_71 : decode cX5_rankLevels 71 = .ok (.getfield 25, 3) := by decide +kernel
theorem dX5_rankLevels_74 : decode cX5_rankLevels 74 = .ok (.iload 5, 2) := by decide +kernel
theorem dX5_rankLevels_76 : decode cX5_rankLevels 76 = .ok (.iload_n 2, 1) := by decide +kernel
theorem dX5_rankLevels_77 : decode cX5_rankLevels 77 = .ok (.iastore, 1) := by decide +kernel
theorem dX5_rankLevels_78 : decode cX5_rankLevels 78 = .ok (.iinc 5 1, 3) := by decide +kernel
theorem dX5_rankLevels_81 : decode cX5_rankLevels 81 = .ok (.goto (-50), 3) := by decide +kernel
theorem dX5_rankLevels_84 : decode cX5_rankLevels 84 = .ok (.iload_n 1, 1) := by decide +kernel
theorem dX5_rankLevels_85 : decode cX5_rankLevels 85 = .ok (.iload 4, 2) := by decide +kernel
theorem dX5_rankLevels_87 : decode cX5_rankLevels 87 = .ok (.iconst (-1), 1) := by decide +kernel
theorem dX5_rankLevels_88 : decode cX5_rankLevels 88 = .ok (.ixor, 1) := by decide +kernel
theorem dX5_rankLevels_89 : decode cX5_rankLevels 89 = .ok (.iand, 1) := by decide +kernel
theorem dX5_rankLevels_90 : decode cX5_rankLevels 90 = .ok (.istore_n 1, 1) := by decide +kernel
theorem dX5_rankLevels_91 : decode cX5_rankLevels 91 = .ok (.iinc 2 1, 3) := by decide +kernel
theorem dX5_rankLevels_94 : decode cX5_rankLevels 94 = .ok (.iinc 3 1, 3) := by decide +kernel
theorem dX5_rankLevels_97 : decode cX5_rankLevels 97 = .ok (.goto (-84), 3) := by decide +kernel
theorem dX5_rankLevels_100 : decode cX5_rankLevels 100 = .ok (.iload_n 2, 1) := by decide +kernel
theorem dX5_rankLevels_101 : decode cX5_rankLevels 101 = .ok (.ireturn, 1) := by decide +kernel
theorem dX5_showCycle_0 : decode cX5_showCycle 0 = .ok (.aload_n 0, 1) := by decide +kernel
theorem dX5_showCycle_1 : decode cX5_showCycle 1 = .ok (.invokevirtual 57, 3) := by decide +kernel
theorem dX5_showCycle_4 : decode cX5_showCycle 4 = .ok (.ifCond .ne 5, 3) := by decide +kernel
theorem dX5_showCycle_7 : decode cX5_showCycle 7 = .ok (.iconst 0, 1) := by decide +kernel
theorem dX5_showCycle_8 : decode cX5_showCycle 8 = .ok (.ireturn, 1) := by decide +kernel
theorem dX5_showCycle_9 : decode cX5_showCycle 9 = .ok (.aload_n 0, 1) := by decide +kernel
theorem dX5_showCycle_10 : decode cX5_showCycle 10 = .ok (.invokevirtual 53, 3) := by decide +kernel
theorem dX5_showCycle_13 : decode cX5_showCycle 13 = .ok (.invokestatic 70, 3) := by decide +kernel
theorem dX5_showCycle_16 : decode cX5_showCycle 16 = .ok (.istore_n 1, 1) := by decide +kernel
theorem dX5_showCycle_17 : decode cX5_showCycle 17 = .ok (.aload_n 0, 1) := by decide +kernel
theorem dX5_showCycle_18 : decode cX5_showCycle 18 = .ok (.iload_n 1, 1) := by decide +kernel
theorem dX5_showCycle_19 : decode cX5_showCycle 19 = .ok (.invokevirtual 73, 3) := by decide +kernel
theorem dX5_showCycle_22 : decode cX5_showCycle 22 = .ok (.istore_n 2, 1) := by decide +kernel
theorem dX5_showCycle_23 : decode cX5_showCycle 23 = .ok (.aload_n 0, 1) := by decide +kernel
theorem dX5_showCycle_24 : decode cX5_showCycle 24 = .ok (.getfield 28, 3) := by decide +kernel
theorem dX5_showCycle_27 : decode cX5_showCycle 27 = .ok (.iconst 0, 1) := by decide +kernel
theorem dX5_showCycle_28 : decode cX5_showCycle 28 = .ok (.iload_n 1, 1) := by decide +kernel
theorem dX5_showCycle_29 : decode cX5_showCycle 29 = .ok (.iastore, 1) := by decide +kernel
theorem dX5_showCycle_30 : decode cX5_showCycle 30 = .ok (.iconst 1, 1) := by decide +kernel
theorem dX5_showCycle_31 : decode cX5_showCycle 31 = .ok (.istore_n 3, 1) := by decide +kernel
theorem dX5_showCycle_32 : decode cX5_showCycle 32 = .ok (.iload_n 3, 1) := by decide +kernel
theorem dX5_showCycle_33 : decode cX5_showCycle 33 = .ok (.iload_n 2, 1) := by decide +kernel
theorem dX5_showCycle_34 : decode cX5_showCycle 34 = .ok (.if_icmp .ge 35, 3) := by decide +kernel
theorem dX5_showCycle_37 : decode cX5_showCycle 37 = .ok (.aload_n 0, 1) := by decide +kernel
theorem dX5_showCycle_38 : decode cX5_showCycle 38 = .ok (.getfield 15, 3) := by decide +kernel
theorem dX5_showCycle_41 : decode cX5_showCycle 41 = .ok (.iload_n 1, 1) := by decide +kernel
theorem dX5_showCycle_42 : decode cX5_showCycle 42 = .ok (.iaload, 1) := by decide +kernel
theorem dX5_showCycle_43 : decode cX5_showCycle 43 = .ok (.aload_n 0, 1) := by decide +kernel
theorem dX5_showCycle_44 : decode cX5_showCycle 44 = .ok (.getfield 31, 3) := by decide +kernel
theorem dX5_showCycle_47 : decode cX5_showCycle 47 = .ok (.iload_n 2, 1) := by decide +kernel
theorem dX5_showCycle_48 : decode cX5_showCycle 48 = .ok (.iload_n 3, 1) := by decide +kernel
theorem dX5_showCycle_49 : decode cX5_showCycle 49 = .ok (.isub, 1) := by decide +kernel
theorem dX5_showCycle_50 : decode cX5_showCycle 50 = .ok (.iaload, 1) := by decide +kernel
theorem dX5_showCycle_51 : decode cX5_showCycle 51 = .ok (.iand, 1) := by decide +kernel
theorem dX5_showCycle_52 : decode cX5_showCycle 52 = .ok (.invokestatic 70, 3) := by decide +kernel
theorem dX5_showCycle_55 : decode cX5_showCycle 55 = .ok (.istore_n 1, 1) := by decide +kernel
theorem dX5_showCycle_56 : decode cX5_showCycle 56 = .ok (.aload_n 0, 1) := by decide +kernel
theorem dX5_showCycle_57 : decode cX5_showCycle 57 = .ok (.getfield 28, 3) := by decide +kernel
theorem dX5_showCycle_60 : decode cX5_showCycle 60 = .ok (.iload_n 3, 1) := by decide +kernel
theorem dX5_showCycle_61 : decode cX5_showCycle 61 = .ok (.iload_n 1, 1) := by decide +kernel
theorem dX5_showCycle_62 : decode cX5_showCycle 62 = .ok (.iastore, 1) := by decide +kernel
theorem dX5_showCycle_63 : decode cX5_showCycle 63 = .ok (.iinc 3 1, 3) := by decide +kernel
theorem dX5_showCycle_66 : decode cX5_showCycle 66 = .ok (.goto (-34), 3) := by decide +kernel
theorem dX5_showCycle_69 : decode cX5_showCycle 69 = .ok (.iload_n 2, 1) := by decide +kernel
theorem dX5_showCycle_70 : decode cX5_showCycle 70 = .ok (.ireturn, 1) := by decide +kernel
theorem dX5_stepsRound_0 : decode cX5_stepsRound 0 = .ok (.iconst 1, 1) := by decide +kernel
theorem dX5_stepsRound_1 : decode cX5_stepsRound 1 = .ok (.iload_n 1, 1) := by decide +kernel
theorem dX5_stepsRound_2 : decode cX5_stepsRound 2 = .ok (.ishl, 1) := by decide +kernel
theorem dX5_stepsRound_3 : decode cX5_stepsRound 3 = .ok (.istore_n 2, 1) := by decide +kernel
theorem dX5_stepsRound_4 : decode cX5_stepsRound 4 = .ok (.aload_n 0, 1) := by decide +kernel
theorem dX5_stepsRound_5 : decode cX5_stepsRound 5 = .ok (.getfield 31, 3) := by decide +kernel
theorem dX5_stepsRound_8 : decode cX5_stepsRound 8 = .ok (.iconst 0, 1) := by decide +kernel
theorem dX5_stepsRound_9 : decode cX5_stepsRound 9 = .ok (.iload_n 2, 1) := by decide +kernel
theorem dX5_stepsRound_10 : decode cX5_stepsRound 10 = .ok (.iastore, 1) := by decide +kernel
theorem dX5_stepsRound_11 : decode cX5_stepsRound 11 = .ok (.iconst 1, 1) := by decide +kernel
theorem dX5_stepsRound_12 : decode cX5_stepsRound 12 = .ok (.istore_n 3, 1) := by decide +kernel
theorem dX5_stepsRound_13 : decode cX5_stepsRound 13 = .ok (.iload_n 3, 1) := by decide +kernel
theorem dX5_stepsRound_14 : decode cX5_stepsRound 14 = .ok (.aload_n 0, 1) := by decide +kernel
theorem dX5_stepsRound_15 : decode cX5_stepsRound 15 = .ok (.getfield 9, 3) := by decide +kernel
theorem dX5_stepsRound_18 : decode cX5_stepsRound 18 = .ok (.if_icmp .gt 60, 3) := by decide +kernel
theorem dX5_stepsRound_21 : decode cX5_stepsRound 21 = .ok (.aload_n 0, 1) := by decide +kernel
theorem dX5_stepsRound_22 : decode cX5_stepsRound 22 = .ok (.getfield 15, 3) := by decide +kernel
theorem dX5_stepsRound_25 : decode cX5_stepsRound 25 = .ok (.iload_n 1, 1) := by decide +kernel
theorem dX5_stepsRound_26 : decode cX5_stepsRound 26 = .ok (.iaload, 1) := by decide +kernel
theorem dX5_stepsRound_27 : decode cX5_stepsRound 27 = .ok (.aload_n 0, 1) := by decide +kernel
theorem dX5_stepsRound_28 : decode cX5_stepsRound 28 = .ok (.getfield 31, 3) := by decide +kernel
theorem dX5_stepsRound_31 : decode cX5_stepsRound 31 = .ok (.iload_n 3, 1) := by decide +kernel
theorem dX5_stepsRound_32 : decode cX5_stepsRound 32 = .ok (.iconst 1, 1) := by decide +kernel
theorem dX5_stepsRound_33 : decode cX5_stepsRound 33 = .ok (.isub, 1) := by decide +kernel
theorem dX5_stepsRound_34 : decode cX5_stepsRound 34 = .ok (.iaload, 1) := by decide +kernel
theorem dX5_stepsRound_35 : decode cX5_stepsRound 35 = .ok (.iand, 1) := by decide +kernel
theorem dX5_stepsRound_36 : decode cX5_stepsRound 36 = .ok (.ifCond .eq 5, 3) := by decide +kernel
theorem dX5_stepsRound_39 : decode cX5_stepsRound 39 = .ok (.iload_n 3, 1) := by decide +kernel
theorem dX5_stepsRound_40 : decode cX5_stepsRound 40 = .ok (.ireturn, 1) := by decide +kernel
theorem dX5_stepsRound_41 : decode cX5_stepsRound 41 = .ok (.aload_n 0, 1) := by decide +kernel
theorem dX5_stepsRound_42 : decode cX5_stepsRound 42 = .ok (.getfield 31, 3) := by decide +kernel
theorem dX5_stepsRound_45 : decode cX5_stepsRound 45 = .ok (.iload_n 3, 1) := by decide +kernel
theorem dX5_stepsRound_46 : decode cX5_stepsRound 46 = .ok (.aload_n 0, 1) := by decide +kernel
theorem dX5_stepsRound_47 : decode cX5_stepsRound 47 = .ok (.aload_n 0, 1) := by decide +kernel
theorem dX5_stepsRound_48 : decode cX5_stepsRound 48 = .ok (.getfield 31, 3) := by decide +kernel
theorem dX5_stepsRound_51 : decode cX5_stepsRound 51 = .ok (.iload_n 3, 1) := by decide +kernel
theorem dX5_stepsRound_52 : decode cX5_stepsRound 52 = .ok (.iconst 1, 1) := by decide +kernel
theorem dX5_stepsRound_53 : decode cX5_stepsRound 53 = .ok (.isub, 1) := by decide +kernel
theorem dX5_stepsRound_54 : decode cX5_stepsRound 54 = .ok (.iaload, 1) := by decide +kernel
theorem dX5_stepsRound_55 : decode cX5_stepsRound 55 = .ok (.invokevirtual 76, 3) := by decide +kernel
theorem dX5_stepsRound_58 : decode cX5_stepsRound 58 = .ok (.iload_n 2, 1) := by decide +kernel
theorem dX5_stepsRound_59 : decode cX5_stepsRound 59 = .ok (.iconst (-1), 1) := by decide +kernel
theorem dX5_stepsRound_60 : decode cX5_stepsRound 60 = .ok (.ixor, 1) := by decide +kernel
theorem dX5_stepsRound_61 : decode cX5_stepsRound 61 = .ok (.iand, 1) := by decide +kernel
theorem dX5_stepsRound_62 : decode cX5_stepsRound 62 = .ok (.iastore, 1) := by decide +kernel
theorem dX5_stepsRound_63 : decode cX5_stepsRound 63 = .ok (.iload_n 2, 1) := by decide +kernel
theorem dX5_stepsRound_64 : decode cX5_stepsRound 64 = .ok (.aload_n 0, 1) := by decide +kernel
theorem dX5_stepsRound_65 : decode cX5_stepsRound 65 = .ok (.getfield 31, 3) := by decide +kernel
theorem dX5_stepsRound_68 : decode cX5_stepsRound 68 = .ok (.iload_n 3, 1) := by decide +kernel
theorem dX5_stepsRound_69 : decode cX5_stepsRound 69 = .ok (.iaload, 1) := by decide +kernel
theorem dX5_stepsRound_70 : decode cX5_stepsRound 70 = .ok (.ior, 1) := by decide +kernel
theorem dX5_stepsRound_71 : decode cX5_stepsRound 71 = .ok (.istore_n 2, 1) := by decide +kernel
theorem dX5_stepsRound_72 : decode cX5_stepsRound 72 = .ok (.iinc 3 1, 3) := by decide +kernel
theorem dX5_stepsRound_75 : decode cX5_stepsRound 75 = .ok (.goto (-62), 3) := by decide +kernel
theorem dX5_stepsRound_78 : decode cX5_stepsRound 78 = .ok (.iconst 0, 1) := by decide +kernel
theorem dX5_stepsRound_79 : decode cX5_stepsRound 79 = .ok (.ireturn, 1) := by decide +kernel
theorem dX5_rightAbove_0 : decode cX5_rightAbove 0 = .ok (.iconst 0, 1) := by decide +kernel
theorem dX5_rightAbove_1 : decode cX5_rightAbove 1 = .ok (.istore_n 2, 1) := by decide +kernel
theorem dX5_rightAbove_2 : decode cX5_rightAbove 2 = .ok (.iconst 0, 1) := by decide +kernel
theorem dX5_rightAbove_3 : decode cX5_rightAbove 3 = .ok (.istore_n 3, 1) := by decide +kernel
theorem dX5_rightAbove_4 : decode cX5_rightAbove 4 = .ok (.iload_n 3, 1) := by decide +kernel
theorem dX5_rightAbove_5 : decode cX5_rightAbove 5 = .ok (.aload_n 0, 1) := by decide +kernel
theorem dX5_rightAbove_6 : decode cX5_rightAbove 6 = .ok (.getfield 9, 3) := by decide +kernel
theorem dX5_rightAbove_9 : decode cX5_rightAbove 9 = .ok (.if_icmp .ge 26, 3) := by decide +kernel
theorem dX5_rightAbove_12 : decode cX5_rightAbove 12 = .ok (.aload_n 0, 1) := by decide +kernel
theorem dX5_rightAbove_13 : decode cX5_rightAbove 13 = .ok (.getfield 15, 3) := by decide +kernel
theorem dX5_rightAbove_16 : decode cX5_rightAbove 16 = .ok (.iload_n 3, 1) := by decide +kernel
theorem dX5_rightAbove_17 : decode cX5_rightAbove 17 = .ok (.iaload, 1) := by decide +kernel
theorem dX5_rightAbove_18 : decode cX5_rightAbove 18 = .ok (.iload_n 1, 1) := by decide +kernel
theorem dX5_rightAbove_19 : decode cX5_rightAbove 19 = .ok (.iand, 1) := by decide +kernel
theorem dX5_rightAbove_20 : decode cX5_rightAbove 20 = .ok (.ifCond .eq 9, 3) := by decide +kernel
theorem dX5_rightAbove_23 : decode cX5_rightAbove 23 = .ok (.iload_n 2, 1) := by decide +kernel
theorem dX5_rightAbove_24 : decode cX5_rightAbove 24 = .ok (.iconst 1, 1) := by decide +kernel
theorem dX5_rightAbove_25 : decode cX5_rightAbove 25 = .ok (.iload_n 3, 1) := by decide +kernel
theorem dX5_rightAbove_26 : decode cX5_rightAbove 26 = .ok (.ishl, 1) := by decide +kernel
theorem dX5_rightAbove_27 : decode cX5_rightAbove 27 = .ok (.ior, 1) := by decide +kernel
theorem dX5_rightAbove_28 : decode cX5_rightAbove 28 = .ok (.istore_n 2, 1) := by decide +kernel
theorem dX5_rightAbove_29 : decode cX5_rightAbove 29 = .ok (.iinc 3 1, 3) := by decide +kernel
theorem dX5_rightAbove_32 : decode cX5_rightAbove 32 = .ok (.goto (-28), 3) := by decide +kernel
theorem dX5_rightAbove_35 : decode cX5_rightAbove 35 = .ok (.iload_n 2, 1) := by decide +kernel
theorem dX5_rightAbove_36 : decode cX5_rightAbove 36 = .ok (.ireturn, 1) := by decide +kernel
theorem dX5_leastOf_0 : decode cX5_leastOf 0 = .ok (.iconst 0, 1) := by decide +kernel
theorem dX5_leastOf_1 : decode cX5_leastOf 1 = .ok (.istore_n 1, 1) := by decide +kernel
theorem dX5_leastOf_2 : decode cX5_leastOf 2 = .ok (.iload_n 1, 1) := by decide +kernel
theorem dX5_leastOf_3 : decode cX5_leastOf 3 = .ok (.bipush 12, 2) := by decide +kernel
theorem dX5_leastOf_5 : decode cX5_leastOf 5 = .ok (.if_icmp .ge 19, 3) := by decide +kernel
theorem dX5_leastOf_8 : decode cX5_leastOf 8 = .ok (.iload_n 0, 1) := by decide +kernel
theorem dX5_leastOf_9 : decode cX5_leastOf 9 = .ok (.iload_n 1, 1) := by decide +kernel
theorem dX5_leastOf_10 : decode cX5_leastOf 10 = .ok (.invokestatic 49, 3) := by decide +kernel
theorem dX5_leastOf_13 : decode cX5_leastOf 13 = .ok (.ifCond .eq 5, 3) := by decide +kernel
theorem dX5_leastOf_16 : decode cX5_leastOf 16 = .ok (.iload_n 1, 1) := by decide +kernel
theorem dX5_leastOf_17 : decode cX5_leastOf 17 = .ok (.ireturn, 1) := by decide +kernel
theorem dX5_leastOf_18 : decode cX5_leastOf 18 = .ok (.iinc 1 1, 3) := by decide +kernel
theorem dX5_leastOf_21 : decode cX5_leastOf 21 = .ok (.goto (-19), 3) := by decide +kernel
theorem dX5_leastOf_24 : decode cX5_leastOf 24 = .ok (.iconst 0, 1) := by decide +kernel
theorem dX5_leastOf_25 : decode cX5_leastOf 25 = .ok (.ireturn, 1) := by decide +kernel
theorem dX5_agrees_0 : decode cX5_agrees 0 = .ok (.iconst 0, 1) := by decide +kernel
theorem dX5_agrees_1 : decode cX5_agrees 1 = .ok (.istore_n 2, 1) := by decide +kernel
theorem dX5_agrees_2 : decode cX5_agrees 2 = .ok (.iload_n 2, 1) := by decide +kernel
theorem dX5_agrees_3 : decode cX5_agrees 3 = .ok (.aload_n 1, 1) := by decide +kernel
theorem dX5_agrees_4 : decode cX5_agrees 4 = .ok (.getfield 79, 3) := by decide +kernel
theorem dX5_agrees_7 : decode cX5_agrees 7 = .ok (.if_icmp .ge 40, 3) := by decide +kernel
theorem dX5_agrees_10 : decode cX5_agrees 10 = .ok (.aload_n 0, 1) := by decide +kernel
theorem dX5_agrees_11 : decode cX5_agrees 11 = .ok (.getfield 22, 3) := by decide +kernel
theorem dX5_agrees_14 : decode cX5_agrees 14 = .ok (.aload_n 1, 1) := by decide +kernel
theorem dX5_agrees_15 : decode cX5_agrees 15 = .ok (.getfield 82, 3) := by decide +kernel
theorem dX5_agrees_18 : decode cX5_agrees 18 = .ok (.iload_n 2, 1) := by decide +kernel
theorem dX5_agrees_19 : decode cX5_agrees 19 = .ok (.iaload, 1) := by decide +kernel
theorem dX5_agrees_20 : decode cX5_agrees 20 = .ok (.iaload, 1) := by decide +kernel
theorem dX5_agrees_21 : decode cX5_agrees 21 = .ok (.aload_n 1, 1) := by decide +kernel
theorem dX5_agrees_22 : decode cX5_agrees 22 = .ok (.getfield 85, 3) := by decide +kernel
theorem dX5_agrees_25 : decode cX5_agrees 25 = .ok (.iload_n 2, 1) := by decide +kernel
theorem dX5_agrees_26 : decode cX5_agrees 26 = .ok (.iaload, 1) := by decide +kernel
theorem dX5_agrees_27 : decode cX5_agrees 27 = .ok (.invokestatic 49, 3) := by decide +kernel
theorem dX5_agrees_30 : decode cX5_agrees 30 = .ok (.aload_n 1, 1) := by decide +kernel
theorem dX5_agrees_31 : decode cX5_agrees 31 = .ok (.getfield 88, 3) := by decide +kernel
theorem dX5_agrees_34 : decode cX5_agrees 34 = .ok (.iload_n 2, 1) := by decide +kernel
theorem dX5_agrees_35 : decode cX5_agrees 35 = .ok (.baload, 1) := by decide +kernel
theorem dX5_agrees_36 : decode cX5_agrees 36 = .ok (.if_icmp .eq 5, 3) := by decide +kernel
theorem dX5_agrees_39 : decode cX5_agrees 39 = .ok (.iconst 0, 1) := by decide +kernel
theorem dX5_agrees_40 : decode cX5_agrees 40 = .ok (.ireturn, 1) := by decide +kernel
theorem dX5_agrees_41 : decode cX5_agrees 41 = .ok (.iinc 2 1, 3) := by decide +kernel
theorem dX5_agrees_44 : decode cX5_agrees 44 = .ok (.goto (-42), 3) := by decide +kernel
theorem dX5_agrees_47 : decode cX5_agrees 47 = .ok (.iconst 1, 1) := by decide +kernel
theorem dX5_agrees_48 : decode cX5_agrees 48 = .ok (.ireturn, 1) := by decide +kernel
theorem dX5_phaseReaches_0 : decode cX5_phaseReaches 0 = .ok (.aload_n 0, 1) := by decide +kernel
theorem dX5_phaseReaches_1 : decode cX5_phaseReaches 1 = .ok (.aload_n 1, 1) := by decide +kernel
theorem dX5_phaseReaches_2 : decode cX5_phaseReaches 2 = .ok (.iload_n 2, 1) := by decide +kernel
theorem dX5_phaseReaches_3 : decode cX5_phaseReaches 3 = .ok (.iload_n 3, 1) := by decide +kernel
theorem dX5_phaseReaches_4 : decode cX5_phaseReaches 4 = .ok (.invokevirtual 92, 3) := by decide +kernel
theorem dX5_phaseReaches_7 : decode cX5_phaseReaches 7 = .ok (.ifCond .lt 7, 3) := by decide +kernel
theorem dX5_phaseReaches_10 : decode cX5_phaseReaches 10 = .ok (.iconst 1, 1) := by decide +kernel
theorem dX5_phaseReaches_11 : decode cX5_phaseReaches 11 = .ok (.goto 4, 3) := by decide +kernel
theorem dX5_phaseReaches_14 : decode cX5_phaseReaches 14 = .ok (.iconst 0, 1) := by decide +kernel
theorem dX5_phaseReaches_15 : decode cX5_phaseReaches 15 = .ok (.ireturn, 1) := by decide +kernel
theorem dX5_firstOfPhaseReaching_0 : decode cX5_firstOfPhaseReaching 0 = .ok (.aload_n 1, 1) := by decide +kernel
theorem dX5_firstOfPhaseReaching_1 : decode cX5_firstOfPhaseReaching 1 = .ok (.iload_n 3, 1) := by decide +kernel
theorem dX5_firstOfPhaseReaching_2 : decode cX5_firstOfPhaseReaching 2 = .ok (.invokevirtual 96, 3) := by decide +kernel
theorem dX5_firstOfPhaseReaching_5 : decode cX5_firstOfPhaseReaching 5 = .ok (.istore 4, 2) := by decide +kernel
theorem dX5_firstOfPhaseReaching_7 : decode cX5_firstOfPhaseReaching 7 = .ok (.iconst 0, 1) := by decide +kernel
theorem dX5_firstOfPhaseReaching_8 : decode cX5_firstOfPhaseReaching 8 = .ok (.istore 5, 2) := by decide +kernel
theorem dX5_firstOfPhaseReaching_10 : decode cX5_firstOfPhaseReaching 10 = .ok (.iload 5, 2) := by decide +kernel
theorem dX5_firstOfPhaseReaching_12 : decode cX5_firstOfPhaseReaching 12 = .ok (.aload_n 0, 1) := by decide +kernel
theorem dX5_firstOfPhaseReaching_13 : decode cX5_firstOfPhaseReaching 13 = .ok (.getfield 9, 3) := by decide +kernel
theorem dX5_firstOfPhaseReaching_16 : decode cX5_firstOfPhaseReaching 16 = .ok (.if_icmp .ge 36, 3) := by decide +kernel
theorem dX5_firstOfPhaseReaching_19 : decode cX5_firstOfPhaseReaching 19 = .ok (.aload_n 1, 1) := by decide +kernel
theorem dX5_firstOfPhaseReaching_20 : decode cX5_firstOfPhaseReaching 20 = .ok (.iconst 4, 1) := by decide +kernel
theorem dX5_firstOfPhaseReaching_21 : decode cX5_firstOfPhaseReaching 21 = .ok (.iload 5, 2) := by decide +kernel
theorem dX5_firstOfPhaseReaching_23 : decode cX5_firstOfPhaseReaching 23 = .ok (.invokevirtual 99, 3) := by decide +kernel
theorem dX5_firstOfPhaseReaching_26 : decode cX5_firstOfPhaseReaching 26 = .ok (.iload_n 2, 1) := by decide +kernel
theorem dX5_firstOfPhaseReaching_27 : decode cX5_firstOfPhaseReaching 27 = .ok (.if_icmp .ne 19, 3) := by decide +kernel
theorem dX5_firstOfPhaseReaching_30 : decode cX5_firstOfPhaseReaching 30 = .ok (.aload_n 0, 1) := by decide +kernel
theorem dX5_firstOfPhaseReaching_31 : decode cX5_firstOfPhaseReaching 31 = .ok (.getfield 22, 3) := by decide +kernel
theorem dX5_firstOfPhaseReaching_34 : decode cX5_firstOfPhaseReaching 34 = .ok (.iload 5, 2) := by decide +kernel
theorem dX5_firstOfPhaseReaching_36 : decode cX5_firstOfPhaseReaching 36 = .ok (.iaload, 1) := by decide +kernel
theorem dX5_firstOfPhaseReaching_37 : decode cX5_firstOfPhaseReaching 37 = .ok (.iload 4, 2) := by decide +kernel
theorem dX5_firstOfPhaseReaching_39 : decode cX5_firstOfPhaseReaching 39 = .ok (.iand, 1) := by decide +kernel
theorem dX5_firstOfPhaseReaching_40 : decode cX5_firstOfPhaseReaching 40 = .ok (.ifCond .eq 6, 3) := by decide +kernel
theorem dX5_firstOfPhaseReaching_43 : decode cX5_firstOfPhaseReaching 43 = .ok (.iload 5, 2) := by decide +kernel
theorem dX5_firstOfPhaseReaching_45 : decode cX5_firstOfPhaseReaching 45 = .ok (.ireturn, 1) := by decide +kernel
theorem dX5_firstOfPhaseReaching_46 : decode cX5_firstOfPhaseReaching 46 = .ok (.iinc 5 1, 3) := by decide +kernel
theorem dX5_firstOfPhaseReaching_49 : decode cX5_firstOfPhaseReaching 49 = .ok (.goto (-39), 3) := by decide +kernel
theorem dX5_firstOfPhaseReaching_52 : decode cX5_firstOfPhaseReaching 52 = .ok (.iconst (-1), 1) := by decide +kernel
theorem dX5_firstOfPhaseReaching_53 : decode cX5_firstOfPhaseReaching 53 = .ok (.ireturn, 1) := by decide +kernel
theorem dX5_earliest_0 : decode cX5_earliest 0 = .ok (.aload_n 1, 1) := by decide +kernel
theorem dX5_earliest_1 : decode cX5_earliest 1 = .ok (.iconst 2, 1) := by decide +kernel
theorem dX5_earliest_2 : decode cX5_earliest 2 = .ok (.iload_n 2, 1) := by decide +kernel
theorem dX5_earliest_3 : decode cX5_earliest 3 = .ok (.invokevirtual 99, 3) := by decide +kernel
theorem dX5_earliest_6 : decode cX5_earliest 6 = .ok (.istore_n 3, 1) := by decide +kernel
theorem dX5_earliest_7 : decode cX5_earliest 7 = .ok (.iconst 0, 1) := by decide +kernel
theorem dX5_earliest_8 : decode cX5_earliest 8 = .ok (.istore 4, 2) := by decide +kernel
theorem dX5_earliest_10 : decode cX5_earliest 10 = .ok (.iload 4, 2) := by decide +kernel
theorem dX5_earliest_12 : decode cX5_earliest 12 = .ok (.aload_n 0, 1) := by decide +kernel
theorem dX5_earliest_13 : decode cX5_earliest 13 = .ok (.getfield 9, 3) := by decide +kernel
theorem dX5_earliest_16 : decode cX5_earliest 16 = .ok (.if_icmp .ge 35, 3) := by decide +kernel
theorem dX5_earliest_19 : decode cX5_earliest 19 = .ok (.aload_n 0, 1) := by decide +kernel
theorem dX5_earliest_20 : decode cX5_earliest 20 = .ok (.getfield 22, 3) := by decide +kernel
theorem dX5_earliest_23 : decode cX5_earliest 23 = .ok (.iload_n 2, 1) := by decide +kernel
theorem dX5_earliest_24 : decode cX5_earliest 24 = .ok (.iaload, 1) := by decide +kernel
theorem dX5_earliest_25 : decode cX5_earliest 25 = .ok (.iload 4, 2) := by decide +kernel
theorem dX5_earliest_27 : decode cX5_earliest 27 = .ok (.invokestatic 49, 3) := by decide +kernel
theorem dX5_earliest_30 : decode cX5_earliest 30 = .ok (.ifCond .eq 15, 3) := by decide +kernel
theorem dX5_earliest_33 : decode cX5_earliest 33 = .ok (.iload_n 3, 1) := by decide +kernel
theorem dX5_earliest_34 : decode cX5_earliest 34 = .ok (.aload_n 1, 1) := by decide +kernel
theorem dX5_earliest_35 : decode cX5_earliest 35 = .ok (.iconst 2, 1) := by decide +kernel
theorem dX5_earliest_36 : decode cX5_earliest 36 = .ok (.iload 4, 2) := by decide +kernel
theorem dX5_earliest_38 : decode cX5_earliest 38 = .ok (.invokevirtual 99, 3) := by decide +kernel
theorem dX5_earliest_41 : decode cX5_earliest 41 = .ok (.invokestatic 103, 3) := by decide +kernel
theorem dX5_earliest_44 : decode cX5_earliest 44 = .ok (.istore_n 3, 1) := by decide +kernel
theorem dX5_earliest_45 : decode cX5_earliest 45 = .ok (.iinc 4 1, 3) := by decide +kernel
theorem dX5_earliest_48 : decode cX5_earliest 48 = .ok (.goto (-38), 3) := by decide +kernel
theorem dX5_earliest_51 : decode cX5_earliest 51 = .ok (.iload_n 3, 1) := by decide +kernel
theorem dX5_earliest_52 : decode cX5_earliest 52 = .ok (.ireturn, 1) := by decide +kernel
theorem dX5_latest_0 : decode cX5_latest 0 = .ok (.aload_n 1, 1) := by decide +kernel
theorem dX5_latest_1 : decode cX5_latest 1 = .ok (.iconst 3, 1) := by decide +kernel
theorem dX5_latest_2 : decode cX5_latest 2 = .ok (.iload_n 2, 1) := by decide +kernel
theorem dX5_latest_3 : decode cX5_latest 3 = .ok (.invokevirtual 99, 3) := by decide +kernel
theorem dX5_latest_6 : decode cX5_latest 6 = .ok (.istore_n 3, 1) := by decide +kernel
theorem dX5_latest_7 : decode cX5_latest 7 = .ok (.iconst 0, 1) := by decide +kernel
theorem dX5_latest_8 : decode cX5_latest 8 = .ok (.istore 4, 2) := by decide +kernel
theorem dX5_latest_10 : decode cX5_latest 10 = .ok (.iload 4, 2) := by decide +kernel
theorem dX5_latest_12 : decode cX5_latest 12 = .ok (.aload_n 0, 1) := by decide +kernel
theorem dX5_latest_13 : decode cX5_latest 13 = .ok (.getfield 9, 3) := by decide +kernel
theorem dX5_latest_16 : decode cX5_latest 16 = .ok (.if_icmp .ge 35, 3) := by decide +kernel
theorem dX5_latest_19 : decode cX5_latest 19 = .ok (.aload_n 0, 1) := by decide +kernel
theorem dX5_latest_20 : decode cX5_latest 20 = .ok (.getfield 22, 3) := by decide +kernel
theorem dX5_latest_23 : decode cX5_latest 23 = .ok (.iload 4, 2) := by decide +kernel
theorem dX5_latest_25 : decode cX5_latest 25 = .ok (.iaload, 1) := by decide +kernel
theorem dX5_latest_26 : decode cX5_latest 26 = .ok (.iload_n 2, 1) := by decide +kernel
theorem dX5_latest_27 : decode cX5_latest 27 = .ok (.invokestatic 49, 3) := by decide +kernel
theorem dX5_latest_30 : decode cX5_latest 30 = .ok (.ifCond .eq 15, 3) := by decide +kernel
theorem dX5_latest_33 : decode cX5_latest 33 = .ok (.iload_n 3, 1) := by decide +kernel
theorem dX5_latest_34 : decode cX5_latest 34 = .ok (.aload_n 1, 1) := by decide +kernel
theorem dX5_latest_35 : decode cX5_latest 35 = .ok (.iconst 3, 1) := by decide +kernel
theorem dX5_latest_36 : decode cX5_latest 36 = .ok (.iload 4, 2) := by decide +kernel
theorem dX5_latest_38 : decode cX5_latest 38 = .ok (.invokevirtual 99, 3) := by decide +kernel
theorem dX5_latest_41 : decode cX5_latest 41 = .ok (.invokestatic 108, 3) := by decide +kernel
theorem dX5_latest_44 : decode cX5_latest 44 = .ok (.istore_n 3, 1) := by decide +kernel
theorem dX5_latest_45 : decode cX5_latest 45 = .ok (.iinc 4 1, 3) := by decide +kernel
theorem dX5_latest_48 : decode cX5_latest 48 = .ok (.goto (-38), 3) := by decide +kernel
theorem dX5_latest_51 : decode cX5_latest 51 = .ok (.iload_n 3, 1) := by decide +kernel
theorem dX5_latest_52 : decode cX5_latest 52 = .ok (.ireturn, 1) := by decide +kernel
theorem dX5_crossing_0 : decode cX5_crossing 0 = .ok (.iconst 0, 1) := by decide +kernel
theorem dX5_crossing_1 : decode cX5_crossing 1 = .ok (.istore_n 2, 1) := by decide +kernel
theorem dX5_crossing_2 : decode cX5_crossing 2 = .ok (.iconst 0, 1) := by decide +kernel
theorem dX5_crossing_3 : decode cX5_crossing 3 = .ok (.istore_n 3, 1) := by decide +kernel
theorem dX5_crossing_4 : decode cX5_crossing 4 = .ok (.iload_n 3, 1) := by decide +kernel
theorem dX5_crossing_5 : decode cX5_crossing 5 = .ok (.aload_n 0, 1) := by decide +kernel
theorem dX5_crossing_6 : decode cX5_crossing 6 = .ok (.getfield 9, 3) := by decide +kernel
theorem dX5_crossing_9 : decode cX5_crossing 9 = .ok (.if_icmp .ge 30, 3) := by decide +kernel
theorem dX5_crossing_12 : decode cX5_crossing 12 = .ok (.aload_n 0, 1) := by decide +kernel
theorem dX5_crossing_13 : decode cX5_crossing 13 = .ok (.aload_n 1, 1) := by decide +kernel
theorem dX5_crossing_14 : decode cX5_crossing 14 = .ok (.iload_n 3, 1) := by decide +kernel
theorem dX5_crossing_15 : decode cX5_crossing 15 = .ok (.invokevirtual 111, 3) := by decide +kernel
theorem dX5_crossing_18 : decode cX5_crossing 18 = .ok (.aload_n 0, 1) := by decide +kernel
theorem dX5_crossing_19 : decode cX5_crossing 19 = .ok (.aload_n 1, 1) := by decide +kernel
theorem dX5_crossing_20 : decode cX5_crossing 20 = .ok (.iload_n 3, 1) := by decide +kernel
theorem dX5_crossing_21 : decode cX5_crossing 21 = .ok (.invokevirtual 115, 3) := by decide +kernel
theorem dX5_crossing_24 : decode cX5_crossing 24 = .ok (.if_icmp .le 9, 3) := by decide +kernel
theorem dX5_crossing_27 : decode cX5_crossing 27 = .ok (.iload_n 2, 1) := by decide +kernel
theorem dX5_crossing_28 : decode cX5_crossing 28 = .ok (.iconst 1, 1) := by decide +kernel
theorem dX5_crossing_29 : decode cX5_crossing 29 = .ok (.iload_n 3, 1) := by decide +kernel
theorem dX5_crossing_30 : decode cX5_crossing 30 = .ok (.ishl, 1) := by decide +kernel
theorem dX5_crossing_31 : decode cX5_crossing 31 = .ok (.ior, 1) := by decide +kernel
theorem dX5_crossing_32 : decode cX5_crossing 32 = .ok (.istore_n 2, 1) := by decide +kernel
theorem dX5_crossing_33 : decode cX5_crossing 33 = .ok (.iinc 3 1, 3) := by decide +kernel
theorem dX5_crossing_36 : decode cX5_crossing 36 = .ok (.goto (-32), 3) := by decide +kernel
theorem dX5_crossing_39 : decode cX5_crossing 39 = .ok (.iload_n 2, 1) := by decide +kernel
theorem dX5_crossing_40 : decode cX5_crossing 40 = .ok (.ireturn, 1) := by decide +kernel
theorem dX6_init_0 : decode cX6_init 0 = .ok (.aload_n 0, 1) := by decide +kernel
theorem dX6_init_1 : decode cX6_init 1 = .ok (.invokespecial 3, 3) := by decide +kernel
theorem dX6_init_4 : decode cX6_init 4 = .ok (.aload_n 0, 1) := by decide +kernel
theorem dX6_init_5 : decode cX6_init 5 = .ok (.bipush 100, 2) := by decide +kernel
theorem dX6_init_7 : decode cX6_init 7 = .ok (.newarray .int, 2) := by decide +kernel
theorem dX6_init_9 : decode cX6_init 9 = .ok (.putfield 9, 3) := by decide +kernel
theorem dX6_init_12 : decode cX6_init 12 = .ok (.aload_n 0, 1) := by decide +kernel
theorem dX6_init_13 : decode cX6_init 13 = .ok (.iconst 0, 1) := by decide +kernel
theorem dX6_init_14 : decode cX6_init 14 = .ok (.putfield 15, 3) := by decide +kernel
theorem dX6_init_17 : decode cX6_init 17 = .ok (.aload_n 0, 1) := by decide +kernel
theorem dX6_init_18 : decode cX6_init 18 = .ok (.bipush 8, 2) := by decide +kernel
theorem dX6_init_20 : decode cX6_init 20 = .ok (.newarray .int, 2) := by decide +kernel
theorem dX6_init_22 : decode cX6_init 22 = .ok (.putfield 19, 3) := by decide +kernel
theorem dX6_init_25 : decode cX6_init 25 = .ok (.aload_n 0, 1) := by decide +kernel
theorem dX6_init_26 : decode cX6_init 26 = .ok (.bipush 8, 2) := by decide +kernel
theorem dX6_init_28 : decode cX6_init 28 = .ok (.newarray .int, 2) := by decide +kernel
theorem dX6_init_30 : decode cX6_init 30 = .ok (.putfield 22, 3) := by decide +kernel
theorem dX6_init_33 : decode cX6_init 33 = .ok (.aload_n 0, 1) := by decide +kernel
theorem dX6_init_34 : decode cX6_init 34 = .ok (.bipush 8, 2) := by decide +kernel
theorem dX6_init_36 : decode cX6_init 36 = .ok (.newarray .int, 2) := by decide +kernel
theorem dX6_init_38 : decode cX6_init 38 = .ok (.putfield 25, 3) := by decide +kernel
theorem dX6_init_41 : decode cX6_init 41 = .ok (.aload_n 0, 1) := by decide +kernel
theorem dX6_init_42 : decode cX6_init 42 = .ok (.iconst 0, 1) := by decide +kernel
theorem dX6_init_43 : decode cX6_init 43 = .ok (.putfield 28, 3) := by decide +kernel
theorem dX6_init_46 : decode cX6_init 46 = .ok (.aload_n 0, 1) := by decide +kernel
theorem dX6_init_47 : decode cX6_init 47 = .ok (.iconst 0, 1) := by decide +kernel
theorem dX6_init_48 : decode cX6_init 48 = .ok (.putfield 31, 3) := by decide +kernel
theorem dX6_init_51 : decode cX6_init 51 = .ok (.aload_n 0, 1) := by decide +kernel
theorem dX6_init_52 : decode cX6_init 52 = .ok (.iconst 0, 1) := by decide +kernel
theorem dX6_init_53 : decode cX6_init 53 = .ok (.putfield 34, 3) := by decide +kernel
theorem dX6_init_56 : decode cX6_init 56 = .ok (.return_, 1) := by decide +kernel
theorem dX6_parse_0 : decode cX6_parse 0 = .ok (.aload_n 0, 1) := by decide +kernel
theorem dX6_parse_1 : decode cX6_parse 1 = .ok (.iconst 0, 1) := by decide +kernel
theorem dX6_parse_2 : decode cX6_parse 2 = .ok (.putfield 31, 3) := by decide +kernel
theorem dX6_parse_5 : decode cX6_parse 5 = .ok (.aload_n 0, 1) := by decide +kernel
theorem dX6_parse_6 : decode cX6_parse 6 = .ok (.iconst 0, 1) := by decide +kernel
theorem dX6_parse_7 : decode cX6_parse 7 = .ok (.putfield 34, 3) := by decide +kernel
theorem dX6_parse_10 : decode cX6_parse 10 = .ok (.aload_n 0, 1) := by decide +kernel
theorem dX6_parse_11 : decode cX6_parse 11 = .ok (.iconst 0, 1) := by decide +kernel
theorem dX6_parse_12 : decode cX6_parse 12 = .ok (.putfield 28, 3) := by decide +kernel
theorem dX6_parse_15 : decode cX6_parse 15 = .ok (.aload_n 0, 1) := by decide +kernel
theorem dX6_parse_16 : decode cX6_parse 16 = .ok (.invokevirtual 37, 3) := by decide +kernel
theorem dX6_parse_19 : decode cX6_parse 19 = .ok (.iconst 1, 1) := by decide +kernel
theorem dX6_parse_20 : decode cX6_parse 20 = .ok (.istore_n 1, 1) := by decide +kernel
theorem dX6_parse_21 : decode cX6_parse 21 = .ok (.iload_n 1, 1) := by decide +kernel
theorem dX6_parse_22 : decode cX6_parse 22 = .ok (.bipush 8, 2) := by decide +kernel
theorem dX6_parse_24 : decode cX6_parse 24 = .ok (.if_icmp .ge 37, 3) := by decide +kernel
theorem dX6_parse_27 : decode cX6_parse 27 = .ok (.aload_n 0, 1) := by decide +kernel
theorem dX6_parse_28 : decode cX6_parse 28 = .ok (.getfield 34, 3) := by decide +kernel
theorem dX6_parse_31 : decode cX6_parse 31 = .ok (.ifCond .ne 30, 3) := by decide +kernel
theorem dX6_parse_34 : decode cX6_parse 34 = .ok (.aload_n 0, 1) := by decide +kernel
theorem dX6_parse_35 : decode cX6_parse 35 = .ok (.getfield 31, 3) := by decide +kernel
theorem dX6_parse_38 : decode cX6_parse 38 = .ok (.aload_n 0, 1) := by decide +kernel
theorem dX6_parse_39 : decode cX6_parse 39 = .ok (.getfield 15, 3) := by decide +kernel
theorem dX6_parse_42 : decode cX6_parse 42 = .ok (.if_icmp .ge 19, 3) := by decide +kernel
theorem dX6_parse_45 : decode cX6_parse 45 = .ok (.aload_n 0, 1) := by decide +kernel
theorem dX6_parse_46 : decode cX6_parse 46 = .ok (.bipush 59, 2) := by decide +kernel
theorem dX6_parse_48 : decode cX6_parse 48 = .ok (.invokevirtual 40, 3) := by decide +kernel
theorem dX6_parse_51 : decode cX6_parse 51 = .ok (.aload_n 0, 1) := by decide +kernel
theorem dX6_parse_52 : decode cX6_parse 52 = .ok (.invokevirtual 37, 3) := by decide +kernel
theorem dX6_parse_55 : decode cX6_parse 55 = .ok (.iinc 1 1, 3) := by decide +kernel
theorem dX6_parse_58 : decode cX6_parse 58 = .ok (.goto (-37), 3) := by decide +kernel
theorem dX6_parse_61 : decode cX6_parse 61 = .ok (.aload_n 0, 1) := by decide +kernel
theorem dX6_parse_62 : decode cX6_parse 62 = .ok (.getfield 34, 3) := by decide +kernel
theorem dX6_parse_65 : decode cX6_parse 65 = .ok (.ifCond .ne 25, 3) := by decide +kernel
theorem dX6_parse_68 : decode cX6_parse 68 = .ok (.aload_n 0, 1) := by decide +kernel
theorem dX6_parse_69 : decode cX6_parse 69 = .ok (.getfield 31, 3) := by decide +kernel
theorem dX6_parse_72 : decode cX6_parse 72 = .ok (.aload_n 0, 1) := by decide +kernel
theorem dX6_parse_73 : decode cX6_parse 73 = .ok (.getfield 15, 3) := by decide +kernel
theorem dX6_parse_76 : decode cX6_parse 76 = .ok (.if_icmp .ge 14, 3) := by decide +kernel
theorem dX6_parse_79 : decode cX6_parse 79 = .ok (.aload_n 0, 1) := by decide +kernel
theorem dX6_parse_80 : decode cX6_parse 80 = .ok (.bipush (-100), 2) := by decide +kernel
theorem dX6_parse_82 : decode cX6_parse 82 = .ok (.aload_n 0, 1) := by decide +kernel
theorem dX6_parse_83 : decode cX6_parse 83 = .ok (.getfield 31, 3) := by decide +kernel
theorem dX6_parse_86 : decode cX6_parse 86 = .ok (.isub, 1) := by decide +kernel
theorem dX6_parse_87 : decode cX6_parse 87 = .ok (.putfield 34, 3) := by decide +kernel
theorem dX6_parse_90 : decode cX6_parse 90 = .ok (.aload_n 0, 1) := by decide +kernel
theorem dX6_parse_91 : decode cX6_parse 91 = .ok (.getfield 34, 3) := by decide +kernel
theorem dX6_parse_94 : decode cX6_parse 94 = .ok (.ireturn, 1) := by decide +kernel
theorem dX6_takeSentence_0 : decode cX6_takeSentence 0 = .ok (.aload_n 0, 1) := by decide +kernel
theorem dX6_takeSentence_1 : decode cX6_takeSentence 1 = .ok (.invokevirtual 44, 3) := by decide +kernel
theorem dX6_takeSentence_4 : decode cX6_takeSentence 4 = .ok (.istore_n 1, 1) := by decide +kernel
theorem dX6_takeSentence_5 : decode cX6_takeSentence 5 = .ok (.aload_n 0, 1) := by decide +kernel
theorem dX6_takeSentence_6 : decode cX6_takeSentence 6 = .ok (.bipush 32, 2) := by decide +kernel
theorem dX6_takeSentence_8 : decode cX6_takeSentence 8 = .ok (.invokevirtual 40, 3) := by decide +kernel
theorem dX6_takeSentence_11 : decode cX6_takeSentence 11 = .ok (.aload_n 0, 1) := by decide +kernel
theorem dX6_takeSentence_12 : decode cX6_takeSentence 12 = .ok (.invokevirtual 48, 3) := by decide +kernel
theorem dX6_takeSentence_15 : decode cX6_takeSentence 15 = .ok (.istore_n 2, 1) := by decide +kernel
theorem dX6_takeSentence_16 : decode cX6_takeSentence 16 = .ok (.aload_n 0, 1) := by decide +kernel
theorem dX6_takeSentence_17 : decode cX6_takeSentence 17 = .ok (.bipush 32, 2) := by decide +kernel
theorem dX6_takeSentence_19 : decode cX6_takeSentence 19 = .ok (.invokevirtual 40, 3) := by decide +kernel
theorem dX6_takeSentence_22 : decode cX6_takeSentence 22 = .ok (.aload_n 0, 1) := by decide +kernel
theorem dX6_takeSentence_23 : decode cX6_takeSentence 23 = .ok (.invokevirtual 44, 3) := by decide +kernel
theorem dX6_takeSentence_26 : decode cX6_takeSentence 26 = .ok (.istore_n 3, 1) := by decide +kernel
theorem dX6_takeSentence_27 : decode cX6_takeSentence 27 = .ok (.aload_n 0, 1) := by decide +kernel
theorem dX6_takeSentence_28 : decode cX6_takeSentence 28 = .ok (.getfield 34, 3) := by decide +kernel
theorem dX6_takeSentence_31 : decode cX6_takeSentence 31 = .ok (.ifCond .ne 52, 3) := by decide +kernel
theorem dX6_takeSentence_34 : decode cX6_takeSentence 34 = .ok (.aload_n 0, 1) := by decide +kernel
theorem dX6_takeSentence_35 : decode cX6_takeSentence 35 = .ok (.getfield 28, 3) := by decide +kernel
theorem dX6_takeSentence_38 : decode cX6_takeSentence 38 = .ok (.bipush 8, 2) := by decide +kernel
theorem dX6_takeSentence_40 : decode cX6_takeSentence 40 = .ok (.if_icmp .ge 43, 3) := by decide +kernel
theorem dX6_takeSentence_43 : decode cX6_takeSentence 43 = .ok (.aload_n 0, 1) := by decide +kernel
theorem dX6_takeSentence_44 : decode cX6_takeSentence 44 = .ok (.getfield 19, 3) := by decide +kernel
theorem dX6_takeSentence_47 : decode cX6_takeSentence 47 = .ok (.aload_n 0, 1) := by decide +kernel
theorem dX6_takeSentence_48 : decode cX6_takeSentence 48 = .ok (.getfield 28, 3) := by decide +kernel
theorem dX6_takeSentence_51 : decode cX6_takeSentence 51 = .ok (.iload_n 1, 1) := by decide +kernel
theorem dX6_takeSentence_52 : decode cX6_takeSentence 52 = .ok (.iastore, 1) := by decide +kernel
theorem dX6_takeSentence_53 : decode cX6_takeSentence 53 = .ok (.aload_n 0, 1) := by decide +kernel
theorem dX6_takeSentence_54 : decode cX6_takeSentence 54 = .ok (.getfield 22, 3) := by decide +kernel
theorem dX6_takeSentence_57 : decode cX6_takeSentence 57 = .ok (.aload_n 0, 1) := by decide +kernel
theorem dX6_takeSentence_58 : decode cX6_takeSentence 58 = .ok (.getfield 28, 3) := by decide +kernel
theorem dX6_takeSentence_61 : decode cX6_takeSentence 61 = .ok (.iload_n 2, 1) := by decide +kernel
theorem dX6_takeSentence_62 : decode cX6_takeSentence 62 = .ok (.iastore, 1) := by decide +kernel
theorem dX6_takeSentence_63 : decode cX6_takeSentence 63 = .ok (.aload_n 0, 1) := by decide +kernel
theorem dX6_takeSentence_64 : decode cX6_takeSentence 64 = .ok (.getfield 25, 3) := by decide +kernel
theorem dX6_takeSentence_67 : decode cX6_takeSentence 67 = .ok (.aload_n 0, 1) := by decide +kernel
theorem dX6_takeSentence_68 : decode cX6_takeSentence 68 = .ok (.getfield 28, 3) := by decide +kernel
theorem dX6_takeSentence_71 : decode cX6_takeSentence 71 = .ok (.iload_n 3, 1) := by decide +kernel
theorem dX6_takeSentence_72 : decode cX6_takeSentence 72 = .ok (.iastore, 1) := by decide +kernel
theorem dX6_takeSentence_73 : decode cX6_takeSentence 73 = .ok (.aload_n 0, 1) := by decide +kernel
theorem dX6_takeSentence_74 : decode cX6_takeSentence 74 = .ok (.dup, 1) := by decide +kernel
theorem dX6_takeSentence_75 : decode cX6_takeSentence 75 = .ok (.getfield 28, 3) := by decide +kernel
theorem dX6_takeSentence_78 : decode cX6_takeSentence 78 = .ok (.iconst 1, 1) := by decide +kernel
theorem dX6_takeSentence_79 : decode cX6_takeSentence 79 = .ok (.iadd, 1) := by decide +kernel
theorem dX6_takeSentence_80 : decode cX6_takeSentence 80 = .ok (.putfield 28, 3) := by decide +kernel
theorem dX6_takeSentence_83 : decode cX6_takeSentence 83 = .ok (.return_, 1) := by decide +kernel
theorem dX6_takeSign_0 : decode cX6_takeSign 0 = .ok (.aload_n 0, 1) := by decide +kernel
theorem dX6_takeSign_1 : decode cX6_takeSign 1 = .ok (.getfield 34, 3) := by decide +kernel
theorem dX6_takeSign_4 : decode cX6_takeSign 4 = .ok (.ifCond .eq 4, 3) := by decide +kernel
theorem dX6_takeSign_7 : decode cX6_takeSign 7 = .ok (.return_, 1) := by decide +kernel
theorem dX6_takeSign_8 : decode cX6_takeSign 8 = .ok (.aload_n 0, 1) := by decide +kernel
theorem dX6_takeSign_9 : decode cX6_takeSign 9 = .ok (.getfield 31, 3) := by decide +kernel
theorem dX6_takeSign_12 : decode cX6_takeSign 12 = .ok (.aload_n 0, 1) := by decide +kernel
theorem dX6_takeSign_13 : decode cX6_takeSign 13 = .ok (.getfield 15, 3) := by decide +kernel
theorem dX6_takeSign_16 : decode cX6_takeSign 16 = .ok (.if_icmp .ge 29, 3) := by decide +kernel
theorem dX6_takeSign_19 : decode cX6_takeSign 19 = .ok (.aload_n 0, 1) := by decide +kernel
theorem dX6_takeSign_20 : decode cX6_takeSign 20 = .ok (.getfield 9, 3) := by decide +kernel
theorem dX6_takeSign_23 : decode cX6_takeSign 23 = .ok (.aload_n 0, 1) := by decide +kernel
theorem dX6_takeSign_24 : decode cX6_takeSign 24 = .ok (.getfield 31, 3) := by decide +kernel
theorem dX6_takeSign_27 : decode cX6_takeSign 27 = .ok (.iaload, 1) := by decide +kernel
theorem dX6_takeSign_28 : decode cX6_takeSign 28 = .ok (.iload_n 1, 1) := by decide +kernel
theorem dX6_takeSign_29 : decode cX6_takeSign 29 = .ok (.if_icmp .ne 16, 3) := by decide +kernel
theorem dX6_takeSign_32 : decode cX6_takeSign 32 = .ok (.aload_n 0, 1) := by decide +kernel
theorem dX6_takeSign_33 : decode cX6_takeSign 33 = .ok (.dup, 1) := by decide +kernel
theorem dX6_takeSign_34 : decode cX6_takeSign 34 = .ok (.getfield 31, 3) := by decide +kernel
theorem dX6_takeSign_37 : decode cX6_takeSign 37 = .ok (.iconst 1, 1) := by decide +kernel
theorem dX6_takeSign_38 : decode cX6_takeSign 38 = .ok (.iadd, 1) := by decide +kernel
theorem dX6_takeSign_39 : decode cX6_takeSign 39 = .ok (.putfield 31, 3) := by decide +kernel
theorem dX6_takeSign_42 : decode cX6_takeSign 42 = .ok (.goto 14, 3) := by decide +kernel
theorem dX6_takeSign_45 : decode cX6_takeSign 45 = .ok (.aload_n 0, 1) := by decide +kernel
theorem dX6_takeSign_46 : decode cX6_takeSign 46 = .ok (.bipush (-100), 2) := by decide +kernel
theorem dX6_takeSign_48 : decode cX6_takeSign 48 = .ok (.aload_n 0, 1) := by decide +kernel
theorem dX6_takeSign_49 : decode cX6_takeSign 49 = .ok (.getfield 31, 3) := by decide +kernel
theorem dX6_takeSign_52 : decode cX6_takeSign 52 = .ok (.isub, 1) := by decide +kernel
theorem dX6_takeSign_53 : decode cX6_takeSign 53 = .ok (.putfield 34, 3) := by decide +kernel
theorem dX6_takeSign_56 : decode cX6_takeSign 56 = .ok (.return_, 1) := by decide +kernel
theorem dX6_takeLetter_0 : decode cX6_takeLetter 0 = .ok (.aload_n 0, 1) := by decide +kernel
theorem dX6_takeLetter_1 : decode cX6_takeLetter 1 = .ok (.getfield 34, 3) := by decide +kernel
theorem dX6_takeLetter_4 : decode cX6_takeLetter 4 = .ok (.ifCond .eq 5, 3) := by decide +kernel
theorem dX6_takeLetter_7 : decode cX6_takeLetter 7 = .ok (.iconst 0, 1) := by decide +kernel
theorem dX6_takeLetter_8 : decode cX6_takeLetter 8 = .ok (.ireturn, 1) := by decide +kernel
theorem dX6_takeLetter_9 : decode cX6_takeLetter 9 = .ok (.aload_n 0, 1) := by decide +kernel
theorem dX6_takeLetter_10 : decode cX6_takeLetter 10 = .ok (.getfield 31, 3) := by decide +kernel
theorem dX6_takeLetter_13 : decode cX6_takeLetter 13 = .ok (.aload_n 0, 1) := by decide +kernel
theorem dX6_takeLetter_14 : decode cX6_takeLetter 14 = .ok (.getfield 15, 3) := by decide +kernel
theorem dX6_takeLetter_17 : decode cX6_takeLetter 17 = .ok (.if_icmp .ge 31, 3) := by decide +kernel
theorem dX6_takeLetter_20 : decode cX6_takeLetter 20 = .ok (.aload_n 0, 1) := by decide +kernel
theorem dX6_takeLetter_21 : decode cX6_takeLetter 21 = .ok (.getfield 9, 3) := by decide +kernel
theorem dX6_takeLetter_24 : decode cX6_takeLetter 24 = .ok (.aload_n 0, 1) := by decide +kernel
theorem dX6_takeLetter_25 : decode cX6_takeLetter 25 = .ok (.getfield 31, 3) := by decide +kernel
theorem dX6_takeLetter_28 : decode cX6_takeLetter 28 = .ok (.iaload, 1) := by decide +kernel
theorem dX6_takeLetter_29 : decode cX6_takeLetter 29 = .ok (.bipush 97, 2) := by decide +kernel
theorem dX6_takeLetter_31 : decode cX6_takeLetter 31 = .ok (.if_icmp .lt 17, 3) := by decide +kernel
theorem dX6_takeLetter_34 : decode cX6_takeLetter 34 = .ok (.aload_n 0, 1) := by decide +kernel
theorem dX6_takeLetter_35 : decode cX6_takeLetter 35 = .ok (.getfield 9, 3) := by decide +kernel
theorem dX6_takeLetter_38 : decode cX6_takeLetter 38 = .ok (.aload_n 0, 1) := by decide +kernel
theorem dX6_takeLetter_39 : decode cX6_takeLetter 39 = .ok (.getfield 31, 3) := by decide +kernel
theorem dX6_takeLetter_42 : decode cX6_takeLetter 42 = .ok (.iaload, 1) := by decide +kernel
theorem dX6_takeLetter_43 : decode cX6_takeLetter 43 = .ok (.bipush 108, 2) := by decide +kernel
theorem dX6_takeLetter_45 : decode cX6_takeLetter 45 = .ok (.if_icmp .le 16, 3) := by decide +kernel
theorem dX6_takeLetter_48 : decode cX6_takeLetter 48 = .ok (.aload_n 0, 1) := by decide +kernel
theorem dX6_takeLetter_49 : decode cX6_takeLetter 49 = .ok (.bipush (-100), 2) := by decide +kernel
theorem dX6_takeLetter_51 : decode cX6_takeLetter 51 = .ok (.aload_n 0, 1) := by decide +kernel
theorem dX6_takeLetter_52 : decode cX6_takeLetter 52 = .ok (.getfield 31, 3) := by decide +kernel
theorem dX6_takeLetter_55 : decode cX6_takeLetter 55 = .ok (.isub, 1) := by decide +kernel
theorem dX6_takeLetter_56 : decode cX6_takeLetter 56 = .ok (.putfield 34, 3) := by decide +kernel
theorem dX6_takeLetter_59 : decode cX6_takeLetter 59 = .ok (.iconst 0, 1) := by decide +kernel
theorem dX6_takeLetter_60 : decode cX6_takeLetter 60 = .ok (.ireturn, 1) := by decide +kernel
theorem dX6_takeLetter_61 : decode cX6_takeLetter 61 = .ok (.aload_n 0, 1) := by decide +kernel
theorem dX6_takeLetter_62 : decode cX6_takeLetter 62 = .ok (.dup, 1) := by decide +kernel
theorem dX6_takeLetter_63 : decode cX6_takeLetter 63 = .ok (.getfield 31, 3) := by decide +kernel
theorem dX6_takeLetter_66 : decode cX6_takeLetter 66 = .ok (.iconst 1, 1) := by decide +kernel
theorem dX6_takeLetter_67 : decode cX6_takeLetter 67 = .ok (.iadd, 1) := by decide +kernel
theorem dX6_takeLetter_68 : decode cX6_takeLetter 68 = .ok (.putfield 31, 3) := by decide +kernel
theorem dX6_takeLetter_71 : decode cX6_takeLetter 71 = .ok (.aload_n 0, 1) := by decide +kernel
theorem dX6_takeLetter_72 : decode cX6_takeLetter 72 = .ok (.getfield 9, 3) := by decide +kernel
theorem dX6_takeLetter_75 : decode cX6_takeLetter 75 = .ok (.aload_n 0, 1) := by decide +kernel
theorem dX6_takeLetter_76 : decode cX6_takeLetter 76 = .ok (.getfield 31, 3) := by decide +kernel
theorem dX6_takeLetter_79 : decode cX6_takeLetter 79 = .ok (.iconst 1, 1) := by decide +kernel
theorem dX6_takeLetter_80 : decode cX6_takeLetter 80 = .ok (.isub, 1) := by decide +kernel
theorem dX6_takeLetter_81 : decode cX6_takeLetter 81 = .ok (.iaload, 1) := by decide +kernel
theorem dX6_takeLetter_82 : decode cX6_takeLetter 82 = .ok (.bipush 97, 2) := by decide +kernel
theorem dX6_takeLetter_84 : decode cX6_takeLetter 84 = .ok (.isub, 1) := by decide +kernel
theorem dX6_takeLetter_85 : decode cX6_takeLetter 85 = .ok (.ireturn, 1) := by decide +kernel
theorem dX6_takeVerb_0 : decode cX6_takeVerb 0 = .ok (.aload_n 0, 1) := by decide +kernel
theorem dX6_takeVerb_1 : decode cX6_takeVerb 1 = .ok (.getfield 34, 3) := by decide +kernel
theorem dX6_takeVerb_4 : decode cX6_takeVerb 4 = .ok (.ifCond .eq 5, 3) := by decide +kernel
theorem dX6_takeVerb_7 : decode cX6_takeVerb 7 = .ok (.iconst 0, 1) := by decide +kernel
theorem dX6_takeVerb_8 : decode cX6_takeVerb 8 = .ok (.ireturn, 1) := by decide +kernel
theorem dX6_takeVerb_9 : decode cX6_takeVerb 9 = .ok (.aload_n 0, 1) := by decide +kernel
theorem dX6_takeVerb_10 : decode cX6_takeVerb 10 = .ok (.getfield 31, 3) := by decide +kernel
theorem dX6_takeVerb_13 : decode cX6_takeVerb 13 = .ok (.istore_n 1, 1) := by decide +kernel
theorem dX6_takeVerb_14 : decode cX6_takeVerb 14 = .ok (.iload_n 1, 1) := by decide +kernel
theorem dX6_takeVerb_15 : decode cX6_takeVerb 15 = .ok (.aload_n 0, 1) := by decide +kernel
theorem dX6_takeVerb_16 : decode cX6_takeVerb 16 = .ok (.getfield 15, 3) := by decide +kernel
theorem dX6_takeVerb_19 : decode cX6_takeVerb 19 = .ok (.if_icmp .ge 31, 3) := by decide +kernel
theorem dX6_takeVerb_22 : decode cX6_takeVerb 22 = .ok (.aload_n 0, 1) := by decide +kernel
theorem dX6_takeVerb_23 : decode cX6_takeVerb 23 = .ok (.getfield 9, 3) := by decide +kernel
theorem dX6_takeVerb_26 : decode cX6_takeVerb 26 = .ok (.iload_n 1, 1) := by decide +kernel
theorem dX6_takeVerb_27 : decode cX6_takeVerb 27 = .ok (.iaload, 1) := by decide +kernel
theorem dX6_takeVerb_28 : decode cX6_takeVerb 28 = .ok (.bipush 97, 2) := by decide +kernel
theorem dX6_takeVerb_30 : decode cX6_takeVerb 30 = .ok (.if_icmp .lt 20, 3) := by decide +kernel
theorem dX6_takeVerb_33 : decode cX6_takeVerb 33 = .ok (.aload_n 0, 1) := by decide +kernel
theorem dX6_takeVerb_34 : decode cX6_takeVerb 34 = .ok (.getfield 9, 3) := by decide +kernel
theorem dX6_takeVerb_37 : decode cX6_takeVerb 37 = .ok (.iload_n 1, 1) := by decide +kernel
theorem dX6_takeVerb_38 : decode cX6_takeVerb 38 = .ok (.iaload, 1) := by decide +kernel
theorem dX6_takeVerb_39 : decode cX6_takeVerb 39 = .ok (.bipush 122, 2) := by decide +kernel
theorem dX6_takeVerb_41 : decode cX6_takeVerb 41 = .ok (.if_icmp .gt 9, 3) := by decide +kernel
theorem dX6_takeVerb_44 : decode cX6_takeVerb 44 = .ok (.iinc 1 1, 3) := by decide +kernel
theorem dX6_takeVerb_47 : decode cX6_takeVerb 47 = .ok (.goto (-33), 3) := by decide +kernel
theorem dX6_takeVerb_50 : decode cX6_takeVerb 50 = .ok (.aload_n 0, 1) := by decide +kernel
theorem dX6_takeVerb_51 : decode cX6_takeVerb 51 = .ok (.aload_n 0, 1) := by decide +kernel
theorem dX6_takeVerb_52 : decode cX6_takeVerb 52 = .ok (.getfield 31, 3) := by decide +kernel
theorem dX6_takeVerb_55 : decode cX6_takeVerb 55 = .ok (.iload_n 1, 1) := by decide +kernel
theorem dX6_takeVerb_56 : decode cX6_takeVerb 56 = .ok (.invokevirtual 51, 3) := by decide +kernel
theorem dX6_takeVerb_59 : decode cX6_takeVerb 59 = .ok (.istore_n 2, 1) := by decide +kernel
theorem dX6_takeVerb_60 : decode cX6_takeVerb 60 = .ok (.iload_n 1, 1) := by decide +kernel
theorem dX6_takeVerb_61 : decode cX6_takeVerb 61 = .ok (.aload_n 0, 1) := by decide +kernel
theorem dX6_takeVerb_62 : decode cX6_takeVerb 62 = .ok (.getfield 31, 3) := by decide +kernel
theorem dX6_takeVerb_65 : decode cX6_takeVerb 65 = .ok (.if_icmp .ne 17, 3) := by decide +kernel
theorem dX6_takeVerb_68 : decode cX6_takeVerb 68 = .ok (.aload_n 0, 1) := by decide +kernel
theorem dX6_takeVerb_69 : decode cX6_takeVerb 69 = .ok (.bipush (-100), 2) := by decide +kernel
theorem dX6_takeVerb_71 : decode cX6_takeVerb 71 = .ok (.aload_n 0, 1) := by decide +kernel
theorem dX6_takeVerb_72 : decode cX6_takeVerb 72 = .ok (.getfield 31, 3) := by decide +kernel
theorem dX6_takeVerb_75 : decode cX6_takeVerb 75 = .ok (.isub, 1) := by decide +kernel
theorem dX6_takeVerb_76 : decode cX6_takeVerb 76 = .ok (.putfield 34, 3) := by decide +kernel
theorem dX6_takeVerb_79 : decode cX6_takeVerb 79 = .ok (.goto 19, 3) := by decide +kernel
theorem dX6_takeVerb_82 : decode cX6_takeVerb 82 = .ok (.iload_n 2, 1) := by decide +kernel
theorem dX6_takeVerb_83 : decode cX6_takeVerb 83 = .ok (.ifCond .ge 15, 3) := by decide +kernel
theorem dX6_takeVerb_86 : decode cX6_takeVerb 86 = .ok (.aload_n 0, 1) := by decide +kernel
theorem dX6_takeVerb_87 : decode cX6_takeVerb 87 = .ok (.sipush (-300), 3) := by decide +kernel
theorem dX6_takeVerb_90 : decode cX6_takeVerb 90 = .ok (.aload_n 0, 1) := by decide +kernel
theorem dX6_takeVerb_91 : decode cX6_takeVerb 91 = .ok (.getfield 31, 3) := by decide +kernel
theorem dX6_takeVerb_94 : decode cX6_takeVerb 94 = .ok (.isub, 1) := by decide +kernel
theorem dX6_takeVerb_95 : decode cX6_takeVerb 95 = .ok (.putfield 34, 3) := by decide +kernel
theorem dX6_takeVerb_98 : decode cX6_takeVerb 98 = .ok (.aload_n 0, 1) := by decide +kernel
theorem dX6_takeVerb_99 : decode cX6_takeVerb 99 = .ok (.iload_n 1, 1) := by decide +kernel
theorem dX6_takeVerb_100 : decode cX6_takeVerb 100 = .ok (.putfield 31, 3) := by decide +kernel
theorem dX6_takeVerb_103 : decode cX6_takeVerb 103 = .ok (.iload_n 2, 1) := by decide +kernel
theorem dX6_takeVerb_104 : decode cX6_takeVerb 104 = .ok (.ireturn, 1) := by decide +kernel
theorem dX6_verbOf_0 : decode cX6_verbOf 0 = .ok (.aload_n 0, 1) := by decide +kernel
theorem dX6_verbOf_1 : decode cX6_verbOf 1 = .ok (.ldc 55, 2) := by decide +kernel
theorem dX6_verbOf_3 : decode cX6_verbOf 3 = .ok (.iload_n 1, 1) := by decide +kernel
theorem dX6_verbOf_4 : decode cX6_verbOf 4 = .ok (.iload_n 2, 1) := by decide +kernel
theorem dX6_verbOf_5 : decode cX6_verbOf 5 = .ok (.invokevirtual 57, 3) := by decide +kernel
theorem dX6_verbOf_8 : decode cX6_verbOf 8 = .ok (.ifCond .eq 5, 3) := by decide +kernel
theorem dX6_verbOf_11 : decode cX6_verbOf 11 = .ok (.iconst 0, 1) := by decide +kernel
theorem dX6_verbOf_12 : decode cX6_verbOf 12 = .ok (.ireturn, 1) := by decide +kernel
theorem dX6_verbOf_13 : decode cX6_verbOf 13 = .ok (.aload_n 0, 1) := by decide +kernel
theorem dX6_verbOf_14 : decode cX6_verbOf 14 = .ok (.ldc 61, 2) := by decide +kernel
theorem dX6_verbOf_16 : decode cX6_verbOf 16 = .ok (.iload_n 1, 1) := by decide +kernel
theorem dX6_verbOf_17 : decode cX6_verbOf 17 = .ok (.iload_n 2, 1) := by decide +kernel
theorem dX6_verbOf_18 : decode cX6_verbOf 18 = .ok (.invokevirtual 57, 3) := by decide +kernel
theorem dX6_verbOf_21 : decode cX6_verbOf 21 = .ok (.ifCond .eq 5, 3) := by decide +kernel
theorem dX6_verbOf_24 : decode cX6_verbOf 24 = .ok (.iconst 1, 1) := by decide +kernel
theorem dX6_verbOf_25 : decode cX6_verbOf 25 = .ok (.ireturn, 1) := by decide +kernel
theorem dX6_verbOf_26 : decode cX6_verbOf 26 = .ok (.aload_n 0, 1) := by decide +kernel
theorem dX6_verbOf_27 : decode cX6_verbOf 27 = .ok (.ldc 63, 2) := by decide +kernel
theorem dX6_verbOf_29 : decode cX6_verbOf 29 = .ok (.iload_n 1, 1) := by decide +kernel
theorem dX6_verbOf_30 : decode cX6_verbOf 30 = .ok (.iload_n 2, 1) := by decide +kernel
theorem dX6_verbOf_31 : decode cX6_verbOf 31 = .ok (.invokevirtual 57, 3) := by decide +kernel
theorem dX6_verbOf_34 : decode cX6_verbOf 34 = .ok (.ifCond .eq 5, 3) := by decide +kernel
theorem dX6_verbOf_37 : decode cX6_verbOf 37 = .ok (.iconst 2, 1) := by decide +kernel
theorem dX6_verbOf_38 : decode cX6_verbOf 38 = .ok (.ireturn, 1) := by decide +kernel
theorem dX6_verbOf_39 : decode cX6_verbOf 39 = .ok (.aload_n 0, 1) := by decide +kernel
theorem dX6_verbOf_40 : decode cX6_verbOf 40 = .ok (.ldc 65, 2) := by decide +kernel
theorem dX6_verbOf_42 : decode cX6_verbOf 42 = .ok (.iload_n 1, 1) := by decide +kernel
theorem dX6_verbOf_43 : decode cX6_verbOf 43 = .ok (.iload_n 2, 1) := by decide +kernel
theorem dX6_verbOf_44 : decode cX6_verbOf 44 = .ok (.invokevirtual 57, 3) := by decide +kernel
theorem dX6_verbOf_47 : decode cX6_verbOf 47 = .ok (.ifCond .eq 5, 3) := by decide +kernel
theorem dX6_verbOf_50 : decode cX6_verbOf 50 = .ok (.iconst 3, 1) := by decide +kernel
theorem dX6_verbOf_51 : decode cX6_verbOf 51 = .ok (.ireturn, 1) := by decide +kernel
theorem dX6_verbOf_52 : decode cX6_verbOf 52 = .ok (.aload_n 0, 1) := by decide +kernel
theorem dX6_verbOf_53 : decode cX6_verbOf 53 = .ok (.ldc 67, 2) := by decide +kernel
theorem dX6_verbOf_55 : decode cX6_verbOf 55 = .ok (.iload_n 1, 1) := by decide +kernel
theorem dX6_verbOf_56 : decode cX6_verbOf 56 = .ok (.iload_n 2, 1) := by decide +kernel
theorem dX6_verbOf_57 : decode cX6_verbOf 57 = .ok (.invokevirtual 57, 3) := by decide +kernel
theorem dX6_verbOf_60 : decode cX6_verbOf 60 = .ok (.ifCond .eq 7, 3) := by decide +kernel
theorem dX6_verbOf_63 : decode cX6_verbOf 63 = .ok (.iconst 4, 1) := by decide +kernel
theorem dX6_verbOf_64 : decode cX6_verbOf 64 = .ok (.goto 4, 3) := by decide +kernel
theorem dX6_verbOf_67 : decode cX6_verbOf 67 = .ok (.iconst (-1), 1) := by decide +kernel
theorem dX6_verbOf_68 : decode cX6_verbOf 68 = .ok (.ireturn, 1) := by decide +kernel
theorem dX6_says_0 : decode cX6_says 0 = .ok (.aload_n 1, 1) := by decide +kernel
theorem dX6_says_1 : decode cX6_says 1 = .ok (.invokevirtual 69, 3) := by decide +kernel
theorem dX6_says_4 : decode cX6_says 4 = .ok (.iload_n 3, 1) := by decide +kernel
theorem dX6_says_5 : decode cX6_says 5 = .ok (.iload_n 2, 1) := by decide +kernel
theorem dX6_says_6 : decode cX6_says 6 = .ok (.isub, 1) := by decide +kernel
theorem dX6_says_7 : decode cX6_says 7 = .ok (.if_icmp .eq 5, 3) := by decide +kernel
theorem dX6_says_10 : decode cX6_says 10 = .ok (.iconst 0, 1) := by decide +kernel
theorem dX6_says_11 : decode cX6_says 11 = .ok (.ireturn, 1) := by decide +kernel
theorem dX6_says_12 : decode cX6_says 12 = .ok (.iconst 0, 1) := by decide +kernel
theorem dX6_says_13 : decode cX6_says 13 = .ok (.istore 4, 2) := by decide +kernel
theorem dX6_says_15 : decode cX6_says 15 = .ok (.iload 4, 2) := by decide +kernel
theorem dX6_says_17 : decode cX6_says 17 = .ok (.aload_n 1, 1) := by decide +kernel
theorem dX6_says_18 : decode cX6_says 18 = .ok (.invokevirtual 69, 3) := by decide +kernel
theorem dX6_says_21 : decode cX6_says 21 = .ok (.if_icmp .ge 29, 3) := by decide +kernel
theorem dX6_says_24 : decode cX6_says 24 = .ok (.aload_n 1, 1) := by decide +kernel
theorem dX6_says_25 : decode cX6_says 25 = .ok (.iload 4, 2) := by decide +kernel
theorem dX6_says_27 : decode cX6_says 27 = .ok (.invokevirtual 73, 3) := by decide +kernel
theorem dX6_says_30 : decode cX6_says 30 = .ok (.aload_n 0, 1) := by decide +kernel
theorem dX6_says_31 : decode cX6_says 31 = .ok (.getfield 9, 3) := by decide +kernel
theorem dX6_says_34 : decode cX6_says 34 = .ok (.iload_n 2, 1) := by decide +kernel
theorem dX6_says_35 : decode cX6_says 35 = .ok (.iload 4, 2) := by decide +kernel
theorem dX6_says_37 : decode cX6_says 37 = .ok (.iadd, 1) := by decide +kernel
theorem dX6_says_38 : decode cX6_says 38 = .ok (.iaload, 1) := by decide +kernel
theorem dX6_says_39 : decode cX6_says 39 = .ok (.if_icmp .eq 5, 3) := by decide +kernel
theorem dX6_says_42 : decode cX6_says 42 = .ok (.iconst 0, 1) := by decide +kernel
theorem dX6_says_43 : decode cX6_says 43 = .ok (.ireturn, 1) := by decide +kernel
theorem dX6_says_44 : decode cX6_says 44 = .ok (.iinc 4 1, 3) := by decide +kernel
theorem dX6_says_47 : decode cX6_says 47 = .ok (.goto (-32), 3) := by decide +kernel
theorem dX6_says_50 : decode cX6_says 50 = .ok (.iconst 1, 1) := by decide +kernel
theorem dX6_says_51 : decode cX6_says 51 = .ok (.ireturn, 1) := by decide +kernel

/-! decode rows -/
theorem d_J0_charAt_5068e_0 : decode (mC M_J0_charAt_5068e) 0 = .ok (.aload_n 0, 1) := by decide +kernel
theorem d_J0_charAt_5068e_1 : decode (mC M_J0_charAt_5068e) 1 = .ok (.invokevirtual 492, 3) := by decide +kernel
theorem d_J0_charAt_5068e_4 : decode (mC M_J0_charAt_5068e) 4 = .ok (.ifCond .eq 12, 3) := by decide +kernel
theorem d_J0_charAt_5068e_7 : decode (mC M_J0_charAt_5068e) 7 = .ok (.aload_n 0, 1) := by decide +kernel
theorem d_J0_charAt_5068e_8 : decode (mC M_J0_charAt_5068e) 8 = .ok (.getfield 9, 3) := by decide +kernel
theorem d_J0_charAt_5068e_11 : decode (mC M_J0_charAt_5068e) 11 = .ok (.iload_n 1, 1) := by decide +kernel
theorem d_J0_charAt_5068e_12 : decode (mC M_J0_charAt_5068e) 12 = .ok (.invokestatic 495, 3) := by decide +kernel
theorem d_J0_charAt_5068e_15 : decode (mC M_J0_charAt_5068e) 15 = .ok (.ireturn, 1) := by decide +kernel
theorem d_J0_charAt_5068e_16 : decode (mC M_J0_charAt_5068e) 16 = .ok (.aload_n 0, 1) := by decide +kernel
theorem d_J0_charAt_5068e_17 : decode (mC M_J0_charAt_5068e) 17 = .ok (.getfield 9, 3) := by decide +kernel
theorem d_J0_charAt_5068e_20 : decode (mC M_J0_charAt_5068e) 20 = .ok (.iload_n 1, 1) := by decide +kernel
theorem d_J0_charAt_5068e_21 : decode (mC M_J0_charAt_5068e) 21 = .ok (.invokestatic 498, 3) := by decide +kernel
theorem d_J0_charAt_5068e_24 : decode (mC M_J0_charAt_5068e) 24 = .ok (.ireturn, 1) := by decide +kernel
theorem d_J0_checkIndex_df160_0 : decode (mC M_J0_checkIndex_df160) 0 = .ok (.iload_n 0, 1) := by decide +kernel
theorem d_J0_checkIndex_df160_1 : decode (mC M_J0_checkIndex_df160) 1 = .ok (.iload_n 1, 1) := by decide +kernel
theorem d_J0_checkIndex_df160_2 : decode (mC M_J0_checkIndex_df160) 2 = .ok (.getstatic 1053, 3) := by decide +kernel
theorem d_J0_checkIndex_df160_5 : decode (mC M_J0_checkIndex_df160) 5 = .ok (.invokestatic 1059, 3) := by decide +kernel
theorem d_J0_checkIndex_df160_8 : decode (mC M_J0_checkIndex_df160) 8 = .ok (.pop, 1) := by decide +kernel
theorem d_J0_checkIndex_df160_9 : decode (mC M_J0_checkIndex_df160) 9 = .ok (.return_, 1) := by decide +kernel
theorem d_J0_coder_7d493_0 : decode (mC M_J0_coder_7d493) 0 = .ok (.getstatic 38, 3) := by decide +kernel
theorem d_J0_coder_7d493_3 : decode (mC M_J0_coder_7d493) 3 = .ok (.ifCond .eq 10, 3) := by decide +kernel
theorem d_J0_coder_7d493_6 : decode (mC M_J0_coder_7d493) 6 = .ok (.aload_n 0, 1) := by decide +kernel
theorem d_J0_coder_7d493_7 : decode (mC M_J0_coder_7d493) 7 = .ok (.getfield 15, 3) := by decide +kernel
theorem d_J0_coder_7d493_10 : decode (mC M_J0_coder_7d493) 10 = .ok (.goto 4, 3) := by decide +kernel
theorem d_J0_coder_7d493_13 : decode (mC M_J0_coder_7d493) 13 = .ok (.iconst 1, 1) := by decide +kernel
theorem d_J0_coder_7d493_14 : decode (mC M_J0_coder_7d493) 14 = .ok (.ireturn, 1) := by decide +kernel
theorem d_J0_isLatin1_aae02_0 : decode (mC M_J0_isLatin1_aae02) 0 = .ok (.getstatic 38, 3) := by decide +kernel
theorem d_J0_isLatin1_aae02_3 : decode (mC M_J0_isLatin1_aae02) 3 = .ok (.ifCond .eq 14, 3) := by decide +kernel
theorem d_J0_isLatin1_aae02_6 : decode (mC M_J0_isLatin1_aae02) 6 = .ok (.aload_n 0, 1) := by decide +kernel
theorem d_J0_isLatin1_aae02_7 : decode (mC M_J0_isLatin1_aae02) 7 = .ok (.getfield 15, 3) := by decide +kernel
theorem d_J0_isLatin1_aae02_10 : decode (mC M_J0_isLatin1_aae02) 10 = .ok (.ifCond .ne 7, 3) := by decide +kernel
theorem d_J0_isLatin1_aae02_13 : decode (mC M_J0_isLatin1_aae02) 13 = .ok (.iconst 1, 1) := by decide +kernel
theorem d_J0_isLatin1_aae02_14 : decode (mC M_J0_isLatin1_aae02) 14 = .ok (.goto 4, 3) := by decide +kernel
theorem d_J0_isLatin1_aae02_17 : decode (mC M_J0_isLatin1_aae02) 17 = .ok (.iconst 0, 1) := by decide +kernel
theorem d_J0_isLatin1_aae02_18 : decode (mC M_J0_isLatin1_aae02) 18 = .ok (.ireturn, 1) := by decide +kernel
theorem d_J0_length_8abf5_0 : decode (mC M_J0_length_8abf5) 0 = .ok (.aload_n 0, 1) := by decide +kernel
theorem d_J0_length_8abf5_1 : decode (mC M_J0_length_8abf5) 1 = .ok (.getfield 9, 3) := by decide +kernel
theorem d_J0_length_8abf5_4 : decode (mC M_J0_length_8abf5) 4 = .ok (.arraylength, 1) := by decide +kernel
theorem d_J0_length_8abf5_5 : decode (mC M_J0_length_8abf5) 5 = .ok (.aload_n 0, 1) := by decide +kernel
theorem d_J0_length_8abf5_6 : decode (mC M_J0_length_8abf5) 6 = .ok (.invokevirtual 335, 3) := by decide +kernel
theorem d_J0_length_8abf5_9 : decode (mC M_J0_length_8abf5) 9 = .ok (.ishr, 1) := by decide +kernel
theorem d_J0_length_8abf5_10 : decode (mC M_J0_length_8abf5) 10 = .ok (.ireturn, 1) := by decide +kernel
theorem d_J15_checkIndex_7cf53_0 : decode (mC M_J15_checkIndex_7cf53) 0 = .ok (.iload_n 0, 1) := by decide +kernel
theorem d_J15_checkIndex_7cf53_1 : decode (mC M_J15_checkIndex_7cf53) 1 = .ok (.iload_n 1, 1) := by decide +kernel
theorem d_J15_checkIndex_7cf53_2 : decode (mC M_J15_checkIndex_7cf53) 2 = .ok (.aconst_null, 1) := by decide +kernel
theorem d_J15_checkIndex_7cf53_3 : decode (mC M_J15_checkIndex_7cf53) 3 = .ok (.invokestatic 105, 3) := by decide +kernel
theorem d_J15_checkIndex_7cf53_6 : decode (mC M_J15_checkIndex_7cf53) 6 = .ok (.ireturn, 1) := by decide +kernel
theorem d_J1_charAt_3b067_0 : decode (mC M_J1_charAt_3b067) 0 = .ok (.iload_n 1, 1) := by decide +kernel
theorem d_J1_charAt_3b067_1 : decode (mC M_J1_charAt_3b067) 1 = .ok (.aload_n 0, 1) := by decide +kernel
theorem d_J1_charAt_3b067_2 : decode (mC M_J1_charAt_3b067) 2 = .ok (.arraylength, 1) := by decide +kernel
theorem d_J1_charAt_3b067_3 : decode (mC M_J1_charAt_3b067) 3 = .ok (.invokestatic 9, 3) := by decide +kernel
theorem d_J1_charAt_3b067_6 : decode (mC M_J1_charAt_3b067) 6 = .ok (.aload_n 0, 1) := by decide +kernel
theorem d_J1_charAt_3b067_7 : decode (mC M_J1_charAt_3b067) 7 = .ok (.iload_n 1, 1) := by decide +kernel
theorem d_J1_charAt_3b067_8 : decode (mC M_J1_charAt_3b067) 8 = .ok (.baload, 1) := by decide +kernel
theorem d_J1_charAt_3b067_9 : decode (mC M_J1_charAt_3b067) 9 = .ok (.sipush 255, 3) := by decide +kernel
theorem d_J1_charAt_3b067_12 : decode (mC M_J1_charAt_3b067) 12 = .ok (.iand, 1) := by decide +kernel
theorem d_J1_charAt_3b067_13 : decode (mC M_J1_charAt_3b067) 13 = .ok (.i2c, 1) := by decide +kernel
theorem d_J1_charAt_3b067_14 : decode (mC M_J1_charAt_3b067) 14 = .ok (.ireturn, 1) := by decide +kernel
theorem d_J2_charAt_3b067_0 : decode (mC M_J2_charAt_3b067) 0 = .ok (.iload_n 1, 1) := by decide +kernel
theorem d_J2_charAt_3b067_1 : decode (mC M_J2_charAt_3b067) 1 = .ok (.aload_n 0, 1) := by decide +kernel
theorem d_J2_charAt_3b067_2 : decode (mC M_J2_charAt_3b067) 2 = .ok (.invokestatic 67, 3) := by decide +kernel
theorem d_J2_charAt_3b067_5 : decode (mC M_J2_charAt_3b067) 5 = .ok (.aload_n 0, 1) := by decide +kernel
theorem d_J2_charAt_3b067_6 : decode (mC M_J2_charAt_3b067) 6 = .ok (.iload_n 1, 1) := by decide +kernel
theorem d_J2_charAt_3b067_7 : decode (mC M_J2_charAt_3b067) 7 = .ok (.invokestatic 71, 3) := by decide +kernel
theorem d_J2_charAt_3b067_10 : decode (mC M_J2_charAt_3b067) 10 = .ok (.ireturn, 1) := by decide +kernel
theorem d_J2_checkIndex_2214a_0 : decode (mC M_J2_checkIndex_2214a) 0 = .ok (.iload_n 0, 1) := by decide +kernel
theorem d_J2_checkIndex_2214a_1 : decode (mC M_J2_checkIndex_2214a) 1 = .ok (.aload_n 1, 1) := by decide +kernel
theorem d_J2_checkIndex_2214a_2 : decode (mC M_J2_checkIndex_2214a) 2 = .ok (.invokestatic 48, 3) := by decide +kernel
theorem d_J2_checkIndex_2214a_5 : decode (mC M_J2_checkIndex_2214a) 5 = .ok (.invokestatic 414, 3) := by decide +kernel
theorem d_J2_checkIndex_2214a_8 : decode (mC M_J2_checkIndex_2214a) 8 = .ok (.return_, 1) := by decide +kernel
theorem d_J2_getChar_3b067_0 : decode (mC M_J2_getChar_3b067) 0 = .ok (.getstatic 44, 3) := by decide +kernel
theorem d_J2_getChar_3b067_3 : decode (mC M_J2_getChar_3b067) 3 = .ok (.ifCond .ne 25, 3) := by decide +kernel
theorem d_J2_getChar_3b067_6 : decode (mC M_J2_getChar_3b067) 6 = .ok (.iload_n 1, 1) := by decide +kernel
theorem d_J2_getChar_3b067_7 : decode (mC M_J2_getChar_3b067) 7 = .ok (.ifCond .lt 11, 3) := by decide +kernel
theorem d_J2_getChar_3b067_10 : decode (mC M_J2_getChar_3b067) 10 = .ok (.iload_n 1, 1) := by decide +kernel
theorem d_J2_getChar_3b067_11 : decode (mC M_J2_getChar_3b067) 11 = .ok (.aload_n 0, 1) := by decide +kernel
theorem d_J2_getChar_3b067_12 : decode (mC M_J2_getChar_3b067) 12 = .ok (.invokestatic 48, 3) := by decide +kernel
theorem d_J2_getChar_3b067_15 : decode (mC M_J2_getChar_3b067) 15 = .ok (.if_icmp .lt 13, 3) := by decide +kernel
theorem d_J2_getChar_3b067_18 : decode (mC M_J2_getChar_3b067) 18 = .ok (.new 52, 3) := by decide +kernel
theorem d_J2_getChar_3b067_21 : decode (mC M_J2_getChar_3b067) 21 = .ok (.dup, 1) := by decide +kernel
theorem d_J2_getChar_3b067_22 : decode (mC M_J2_getChar_3b067) 22 = .ok (.ldc 54, 2) := by decide +kernel
theorem d_J2_getChar_3b067_24 : decode (mC M_J2_getChar_3b067) 24 = .ok (.invokespecial 56, 3) := by decide +kernel
theorem d_J2_getChar_3b067_27 : decode (mC M_J2_getChar_3b067) 27 = .ok (.athrow, 1) := by decide +kernel
theorem d_J2_getChar_3b067_28 : decode (mC M_J2_getChar_3b067) 28 = .ok (.iload_n 1, 1) := by decide +kernel
theorem d_J2_getChar_3b067_29 : decode (mC M_J2_getChar_3b067) 29 = .ok (.iconst 1, 1) := by decide +kernel
theorem d_J2_getChar_3b067_30 : decode (mC M_J2_getChar_3b067) 30 = .ok (.ishl, 1) := by decide +kernel
theorem d_J2_getChar_3b067_31 : decode (mC M_J2_getChar_3b067) 31 = .ok (.istore_n 1, 1) := by decide +kernel
theorem d_J2_getChar_3b067_32 : decode (mC M_J2_getChar_3b067) 32 = .ok (.aload_n 0, 1) := by decide +kernel
theorem d_J2_getChar_3b067_33 : decode (mC M_J2_getChar_3b067) 33 = .ok (.iload_n 1, 1) := by decide +kernel
theorem d_J2_getChar_3b067_34 : decode (mC M_J2_getChar_3b067) 34 = .ok (.iinc 1 1, 3) := by decide +kernel
theorem d_J2_getChar_3b067_37 : decode (mC M_J2_getChar_3b067) 37 = .ok (.baload, 1) := by decide +kernel
theorem d_J2_getChar_3b067_38 : decode (mC M_J2_getChar_3b067) 38 = .ok (.sipush 255, 3) := by decide +kernel
theorem d_J2_getChar_3b067_41 : decode (mC M_J2_getChar_3b067) 41 = .ok (.iand, 1) := by decide +kernel
theorem d_J2_getChar_3b067_42 : decode (mC M_J2_getChar_3b067) 42 = .ok (.getstatic 59, 3) := by decide +kernel
theorem d_J2_getChar_3b067_45 : decode (mC M_J2_getChar_3b067) 45 = .ok (.ishl, 1) := by decide +kernel
theorem d_J2_getChar_3b067_46 : decode (mC M_J2_getChar_3b067) 46 = .ok (.aload_n 0, 1) := by decide +kernel
theorem d_J2_getChar_3b067_47 : decode (mC M_J2_getChar_3b067) 47 = .ok (.iload_n 1, 1) := by decide +kernel
theorem d_J2_getChar_3b067_48 : decode (mC M_J2_getChar_3b067) 48 = .ok (.baload, 1) := by decide +kernel
theorem d_J2_getChar_3b067_49 : decode (mC M_J2_getChar_3b067) 49 = .ok (.sipush 255, 3) := by decide +kernel
theorem d_J2_getChar_3b067_52 : decode (mC M_J2_getChar_3b067) 52 = .ok (.iand, 1) := by decide +kernel
theorem d_J2_getChar_3b067_53 : decode (mC M_J2_getChar_3b067) 53 = .ok (.getstatic 63, 3) := by decide +kernel
theorem d_J2_getChar_3b067_56 : decode (mC M_J2_getChar_3b067) 56 = .ok (.ishl, 1) := by decide +kernel
theorem d_J2_getChar_3b067_57 : decode (mC M_J2_getChar_3b067) 57 = .ok (.ior, 1) := by decide +kernel
theorem d_J2_getChar_3b067_58 : decode (mC M_J2_getChar_3b067) 58 = .ok (.i2c, 1) := by decide +kernel
theorem d_J2_getChar_3b067_59 : decode (mC M_J2_getChar_3b067) 59 = .ok (.ireturn, 1) := by decide +kernel
theorem d_J2_length_9d52b_0 : decode (mC M_J2_length_9d52b) 0 = .ok (.aload_n 0, 1) := by decide +kernel
theorem d_J2_length_9d52b_1 : decode (mC M_J2_length_9d52b) 1 = .ok (.arraylength, 1) := by decide +kernel
theorem d_J2_length_9d52b_2 : decode (mC M_J2_length_9d52b) 2 = .ok (.iconst 1, 1) := by decide +kernel
theorem d_J2_length_9d52b_3 : decode (mC M_J2_length_9d52b) 3 = .ok (.ishr, 1) := by decide +kernel
theorem d_J2_length_9d52b_4 : decode (mC M_J2_length_9d52b) 4 = .ok (.ireturn, 1) := by decide +kernel
theorem d_J3_checkIndex_8e157_0 : decode (mC M_J3_checkIndex_8e157) 0 = .ok (.iload_n 0, 1) := by decide +kernel
theorem d_J3_checkIndex_8e157_1 : decode (mC M_J3_checkIndex_8e157) 1 = .ok (.ifCond .lt 8, 3) := by decide +kernel
theorem d_J3_checkIndex_8e157_4 : decode (mC M_J3_checkIndex_8e157) 4 = .ok (.iload_n 0, 1) := by decide +kernel
theorem d_J3_checkIndex_8e157_5 : decode (mC M_J3_checkIndex_8e157) 5 = .ok (.iload_n 1, 1) := by decide +kernel
theorem d_J3_checkIndex_8e157_6 : decode (mC M_J3_checkIndex_8e157) 6 = .ok (.if_icmp .lt 10, 3) := by decide +kernel
theorem d_J3_checkIndex_8e157_9 : decode (mC M_J3_checkIndex_8e157) 9 = .ok (.aload_n 2, 1) := by decide +kernel
theorem d_J3_checkIndex_8e157_10 : decode (mC M_J3_checkIndex_8e157) 10 = .ok (.iload_n 0, 1) := by decide +kernel
theorem d_J3_checkIndex_8e157_11 : decode (mC M_J3_checkIndex_8e157) 11 = .ok (.iload_n 1, 1) := by decide +kernel
theorem d_J3_checkIndex_8e157_12 : decode (mC M_J3_checkIndex_8e157) 12 = .ok (.invokestatic 95, 3) := by decide +kernel
theorem d_J3_checkIndex_8e157_15 : decode (mC M_J3_checkIndex_8e157) 15 = .ok (.athrow, 1) := by decide +kernel
theorem d_J3_checkIndex_8e157_16 : decode (mC M_J3_checkIndex_8e157) 16 = .ok (.iload_n 0, 1) := by decide +kernel
theorem d_J3_checkIndex_8e157_17 : decode (mC M_J3_checkIndex_8e157) 17 = .ok (.ireturn, 1) := by decide +kernel
theorem d_J7_copyOf_1904c_0 : decode (mC M_J7_copyOf_1904c) 0 = .ok (.aload_n 0, 1) := by decide +kernel
theorem d_J7_copyOf_1904c_1 : decode (mC M_J7_copyOf_1904c) 1 = .ok (.iload_n 1, 1) := by decide +kernel
theorem d_J7_copyOf_1904c_2 : decode (mC M_J7_copyOf_1904c) 2 = .ok (.aload_n 0, 1) := by decide +kernel
theorem d_J7_copyOf_1904c_3 : decode (mC M_J7_copyOf_1904c) 3 = .ok (.invokevirtual 86, 3) := by decide +kernel
theorem d_J7_copyOf_1904c_6 : decode (mC M_J7_copyOf_1904c) 6 = .ok (.invokestatic 300, 3) := by decide +kernel
theorem d_J7_copyOf_1904c_9 : decode (mC M_J7_copyOf_1904c) 9 = .ok (.areturn, 1) := by decide +kernel
theorem d_J7_copyOf_6403c_0 : decode (mC M_J7_copyOf_6403c) 0 = .ok (.aload_n 2, 1) := by decide +kernel
theorem d_J7_copyOf_6403c_1 : decode (mC M_J7_copyOf_6403c) 1 = .ok (.ldc 110, 2) := by decide +kernel
theorem d_J7_copyOf_6403c_3 : decode (mC M_J7_copyOf_6403c) 3 = .ok (.if_acmp .ne 10, 3) := by decide +kernel
theorem d_J7_copyOf_6403c_6 : decode (mC M_J7_copyOf_6403c) 6 = .ok (.iload_n 1, 1) := by decide +kernel
theorem d_J7_copyOf_6403c_7 : decode (mC M_J7_copyOf_6403c) 7 = .ok (.anewarray 2, 3) := by decide +kernel
theorem d_J7_copyOf_6403c_10 : decode (mC M_J7_copyOf_6403c) 10 = .ok (.goto 14, 3) := by decide +kernel
theorem d_J7_copyOf_6403c_13 : decode (mC M_J7_copyOf_6403c) 13 = .ok (.aload_n 2, 1) := by decide +kernel
theorem d_J7_copyOf_6403c_14 : decode (mC M_J7_copyOf_6403c) 14 = .ok (.invokevirtual 90, 3) := by decide +kernel
theorem d_J7_copyOf_6403c_17 : decode (mC M_J7_copyOf_6403c) 17 = .ok (.iload_n 1, 1) := by decide +kernel
theorem d_J7_copyOf_6403c_18 : decode (mC M_J7_copyOf_6403c) 18 = .ok (.invokestatic 95, 3) := by decide +kernel
theorem d_J7_copyOf_6403c_21 : decode (mC M_J7_copyOf_6403c) 21 = .ok (.checkcast 110, 3) := by decide +kernel
theorem d_J7_copyOf_6403c_24 : decode (mC M_J7_copyOf_6403c) 24 = .ok (.astore_n 3, 1) := by decide +kernel
theorem d_J7_copyOf_6403c_25 : decode (mC M_J7_copyOf_6403c) 25 = .ok (.aload_n 0, 1) := by decide +kernel
theorem d_J7_copyOf_6403c_26 : decode (mC M_J7_copyOf_6403c) 26 = .ok (.iconst 0, 1) := by decide +kernel
theorem d_J7_copyOf_6403c_27 : decode (mC M_J7_copyOf_6403c) 27 = .ok (.aload_n 3, 1) := by decide +kernel
theorem d_J7_copyOf_6403c_28 : decode (mC M_J7_copyOf_6403c) 28 = .ok (.iconst 0, 1) := by decide +kernel
theorem d_J7_copyOf_6403c_29 : decode (mC M_J7_copyOf_6403c) 29 = .ok (.aload_n 0, 1) := by decide +kernel
theorem d_J7_copyOf_6403c_30 : decode (mC M_J7_copyOf_6403c) 30 = .ok (.arraylength, 1) := by decide +kernel
theorem d_J7_copyOf_6403c_31 : decode (mC M_J7_copyOf_6403c) 31 = .ok (.iload_n 1, 1) := by decide +kernel
theorem d_J7_copyOf_6403c_32 : decode (mC M_J7_copyOf_6403c) 32 = .ok (.invokestatic 304, 3) := by decide +kernel
theorem d_J7_copyOf_6403c_35 : decode (mC M_J7_copyOf_6403c) 35 = .ok (.invokestatic 150, 3) := by decide +kernel
theorem d_J7_copyOf_6403c_38 : decode (mC M_J7_copyOf_6403c) 38 = .ok (.aload_n 3, 1) := by decide +kernel
theorem d_J7_copyOf_6403c_39 : decode (mC M_J7_copyOf_6403c) 39 = .ok (.areturn, 1) := by decide +kernel
theorem d_J8_hugeLength_7cf53_0 : decode (mC M_J8_hugeLength_7cf53) 0 = .ok (.iload_n 0, 1) := by decide +kernel
theorem d_J8_hugeLength_7cf53_1 : decode (mC M_J8_hugeLength_7cf53) 1 = .ok (.iload_n 1, 1) := by decide +kernel
theorem d_J8_hugeLength_7cf53_2 : decode (mC M_J8_hugeLength_7cf53) 2 = .ok (.iadd, 1) := by decide +kernel
theorem d_J8_hugeLength_7cf53_3 : decode (mC M_J8_hugeLength_7cf53) 3 = .ok (.istore_n 2, 1) := by decide +kernel
theorem d_J8_hugeLength_7cf53_4 : decode (mC M_J8_hugeLength_7cf53) 4 = .ok (.iload_n 2, 1) := by decide +kernel
theorem d_J8_hugeLength_7cf53_5 : decode (mC M_J8_hugeLength_7cf53) 5 = .ok (.ifCond .ge 44, 3) := by decide +kernel
theorem d_J8_hugeLength_7cf53_8 : decode (mC M_J8_hugeLength_7cf53) 8 = .ok (.new 204, 3) := by decide +kernel
theorem d_J8_hugeLength_7cf53_11 : decode (mC M_J8_hugeLength_7cf53) 11 = .ok (.dup, 1) := by decide +kernel
theorem d_J8_hugeLength_7cf53_12 : decode (mC M_J8_hugeLength_7cf53) 12 = .ok (.new 89, 3) := by decide +kernel
theorem d_J8_hugeLength_7cf53_15 : decode (mC M_J8_hugeLength_7cf53) 15 = .ok (.dup, 1) := by decide +kernel
theorem d_J8_hugeLength_7cf53_16 : decode (mC M_J8_hugeLength_7cf53) 16 = .ok (.invokespecial 91, 3) := by decide +kernel
theorem d_J8_hugeLength_7cf53_19 : decode (mC M_J8_hugeLength_7cf53) 19 = .ok (.ldc 206, 2) := by decide +kernel
theorem d_J8_hugeLength_7cf53_21 : decode (mC M_J8_hugeLength_7cf53) 21 = .ok (.invokevirtual 94, 3) := by decide +kernel
theorem d_J8_hugeLength_7cf53_24 : decode (mC M_J8_hugeLength_7cf53) 24 = .ok (.iload_n 0, 1) := by decide +kernel
theorem d_J8_hugeLength_7cf53_25 : decode (mC M_J8_hugeLength_7cf53) 25 = .ok (.invokevirtual 98, 3) := by decide +kernel
theorem d_J8_hugeLength_7cf53_28 : decode (mC M_J8_hugeLength_7cf53) 28 = .ok (.ldc 208, 2) := by decide +kernel
theorem d_J8_hugeLength_7cf53_30 : decode (mC M_J8_hugeLength_7cf53) 30 = .ok (.invokevirtual 94, 3) := by decide +kernel
theorem d_J8_hugeLength_7cf53_33 : decode (mC M_J8_hugeLength_7cf53) 33 = .ok (.iload_n 1, 1) := by decide +kernel
theorem d_J8_hugeLength_7cf53_34 : decode (mC M_J8_hugeLength_7cf53) 34 = .ok (.invokevirtual 98, 3) := by decide +kernel
theorem d_J8_hugeLength_7cf53_37 : decode (mC M_J8_hugeLength_7cf53) 37 = .ok (.ldc 210, 2) := by decide +kernel
theorem d_J8_hugeLength_7cf53_39 : decode (mC M_J8_hugeLength_7cf53) 39 = .ok (.invokevirtual 94, 3) := by decide +kernel
theorem d_J8_hugeLength_7cf53_42 : decode (mC M_J8_hugeLength_7cf53) 42 = .ok (.invokevirtual 101, 3) := by decide +kernel
theorem d_J8_hugeLength_7cf53_45 : decode (mC M_J8_hugeLength_7cf53) 45 = .ok (.invokespecial 212, 3) := by decide +kernel
theorem d_J8_hugeLength_7cf53_48 : decode (mC M_J8_hugeLength_7cf53) 48 = .ok (.athrow, 1) := by decide +kernel
theorem d_J8_hugeLength_7cf53_49 : decode (mC M_J8_hugeLength_7cf53) 49 = .ok (.iload_n 2, 1) := by decide +kernel
theorem d_J8_hugeLength_7cf53_50 : decode (mC M_J8_hugeLength_7cf53) 50 = .ok (.ldc 200, 2) := by decide +kernel
theorem d_J8_hugeLength_7cf53_52 : decode (mC M_J8_hugeLength_7cf53) 52 = .ok (.if_icmp .gt 6, 3) := by decide +kernel
theorem d_J8_hugeLength_7cf53_55 : decode (mC M_J8_hugeLength_7cf53) 55 = .ok (.ldc 200, 2) := by decide +kernel
theorem d_J8_hugeLength_7cf53_57 : decode (mC M_J8_hugeLength_7cf53) 57 = .ok (.ireturn, 1) := by decide +kernel
theorem d_J8_hugeLength_7cf53_58 : decode (mC M_J8_hugeLength_7cf53) 58 = .ok (.iload_n 2, 1) := by decide +kernel
theorem d_J8_hugeLength_7cf53_59 : decode (mC M_J8_hugeLength_7cf53) 59 = .ok (.ireturn, 1) := by decide +kernel
theorem d_J8_newLength_cabcc_0 : decode (mC M_J8_newLength_cabcc) 0 = .ok (.iload_n 0, 1) := by decide +kernel
theorem d_J8_newLength_cabcc_1 : decode (mC M_J8_newLength_cabcc) 1 = .ok (.iload_n 1, 1) := by decide +kernel
theorem d_J8_newLength_cabcc_2 : decode (mC M_J8_newLength_cabcc) 2 = .ok (.iload_n 2, 1) := by decide +kernel
theorem d_J8_newLength_cabcc_3 : decode (mC M_J8_newLength_cabcc) 3 = .ok (.invokestatic 194, 3) := by decide +kernel
theorem d_J8_newLength_cabcc_6 : decode (mC M_J8_newLength_cabcc) 6 = .ok (.iadd, 1) := by decide +kernel
theorem d_J8_newLength_cabcc_7 : decode (mC M_J8_newLength_cabcc) 7 = .ok (.istore_n 3, 1) := by decide +kernel
theorem d_J8_newLength_cabcc_8 : decode (mC M_J8_newLength_cabcc) 8 = .ok (.iconst 0, 1) := by decide +kernel
theorem d_J8_newLength_cabcc_9 : decode (mC M_J8_newLength_cabcc) 9 = .ok (.iload_n 3, 1) := by decide +kernel
theorem d_J8_newLength_cabcc_10 : decode (mC M_J8_newLength_cabcc) 10 = .ok (.if_icmp .ge 11, 3) := by decide +kernel
theorem d_J8_newLength_cabcc_13 : decode (mC M_J8_newLength_cabcc) 13 = .ok (.iload_n 3, 1) := by decide +kernel
theorem d_J8_newLength_cabcc_14 : decode (mC M_J8_newLength_cabcc) 14 = .ok (.ldc 200, 2) := by decide +kernel
theorem d_J8_newLength_cabcc_16 : decode (mC M_J8_newLength_cabcc) 16 = .ok (.if_icmp .gt 5, 3) := by decide +kernel
theorem d_J8_newLength_cabcc_19 : decode (mC M_J8_newLength_cabcc) 19 = .ok (.iload_n 3, 1) := by decide +kernel
theorem d_J8_newLength_cabcc_20 : decode (mC M_J8_newLength_cabcc) 20 = .ok (.ireturn, 1) := by decide +kernel
theorem d_J8_newLength_cabcc_21 : decode (mC M_J8_newLength_cabcc) 21 = .ok (.iload_n 0, 1) := by decide +kernel
theorem d_J8_newLength_cabcc_22 : decode (mC M_J8_newLength_cabcc) 22 = .ok (.iload_n 1, 1) := by decide +kernel
theorem d_J8_newLength_cabcc_23 : decode (mC M_J8_newLength_cabcc) 23 = .ok (.invokestatic 201, 3) := by decide +kernel
theorem d_J8_newLength_cabcc_26 : decode (mC M_J8_newLength_cabcc) 26 = .ok (.ireturn, 1) := by decide +kernel
theorem d_J9_max_7cf53_0 : decode (mC M_J9_max_7cf53) 0 = .ok (.iload_n 0, 1) := by decide +kernel
theorem d_J9_max_7cf53_1 : decode (mC M_J9_max_7cf53) 1 = .ok (.iload_n 1, 1) := by decide +kernel
theorem d_J9_max_7cf53_2 : decode (mC M_J9_max_7cf53) 2 = .ok (.if_icmp .lt 7, 3) := by decide +kernel
theorem d_J9_max_7cf53_5 : decode (mC M_J9_max_7cf53) 5 = .ok (.iload_n 0, 1) := by decide +kernel
theorem d_J9_max_7cf53_6 : decode (mC M_J9_max_7cf53) 6 = .ok (.goto 4, 3) := by decide +kernel
theorem d_J9_max_7cf53_9 : decode (mC M_J9_max_7cf53) 9 = .ok (.iload_n 1, 1) := by decide +kernel
theorem d_J9_max_7cf53_10 : decode (mC M_J9_max_7cf53) 10 = .ok (.ireturn, 1) := by decide +kernel
theorem d_J9_min_7cf53_0 : decode (mC M_J9_min_7cf53) 0 = .ok (.iload_n 0, 1) := by decide +kernel
theorem d_J9_min_7cf53_1 : decode (mC M_J9_min_7cf53) 1 = .ok (.iload_n 1, 1) := by decide +kernel
theorem d_J9_min_7cf53_2 : decode (mC M_J9_min_7cf53) 2 = .ok (.if_icmp .gt 7, 3) := by decide +kernel
theorem d_J9_min_7cf53_5 : decode (mC M_J9_min_7cf53) 5 = .ok (.iload_n 0, 1) := by decide +kernel
theorem d_J9_min_7cf53_6 : decode (mC M_J9_min_7cf53) 6 = .ok (.goto 4, 3) := by decide +kernel
theorem d_J9_min_7cf53_9 : decode (mC M_J9_min_7cf53) 9 = .ok (.iload_n 1, 1) := by decide +kernel
theorem d_J9_min_7cf53_10 : decode (mC M_J9_min_7cf53) 10 = .ok (.ireturn, 1) := by decide +kernel
theorem d_Jx4a65c_add_72be8_0 : decode (mC M_Jx4a65c_add_72be8) 0 = .ok (.iload_n 3, 1) := by decide +kernel
theorem d_Jx4a65c_add_72be8_1 : decode (mC M_Jx4a65c_add_72be8) 1 = .ok (.aload_n 2, 1) := by decide +kernel
theorem d_Jx4a65c_add_72be8_2 : decode (mC M_Jx4a65c_add_72be8) 2 = .ok (.arraylength, 1) := by decide +kernel
theorem d_Jx4a65c_add_72be8_3 : decode (mC M_Jx4a65c_add_72be8) 3 = .ok (.if_icmp .ne 8, 3) := by decide +kernel
theorem d_Jx4a65c_add_72be8_6 : decode (mC M_Jx4a65c_add_72be8) 6 = .ok (.aload_n 0, 1) := by decide +kernel
theorem d_Jx4a65c_add_72be8_7 : decode (mC M_Jx4a65c_add_72be8) 7 = .ok (.invokevirtual 129, 3) := by decide +kernel
theorem d_Jx4a65c_add_72be8_10 : decode (mC M_Jx4a65c_add_72be8) 10 = .ok (.astore_n 2, 1) := by decide +kernel
theorem d_Jx4a65c_add_72be8_11 : decode (mC M_Jx4a65c_add_72be8) 11 = .ok (.aload_n 2, 1) := by decide +kernel
theorem d_Jx4a65c_add_72be8_12 : decode (mC M_Jx4a65c_add_72be8) 12 = .ok (.iload_n 3, 1) := by decide +kernel
theorem d_Jx4a65c_add_72be8_13 : decode (mC M_Jx4a65c_add_72be8) 13 = .ok (.aload_n 1, 1) := by decide +kernel
theorem d_Jx4a65c_add_72be8_14 : decode (mC M_Jx4a65c_add_72be8) 14 = .ok (.aastore, 1) := by decide +kernel
theorem d_Jx4a65c_add_72be8_15 : decode (mC M_Jx4a65c_add_72be8) 15 = .ok (.aload_n 0, 1) := by decide +kernel
theorem d_Jx4a65c_add_72be8_16 : decode (mC M_Jx4a65c_add_72be8) 16 = .ok (.iload_n 3, 1) := by decide +kernel
theorem d_Jx4a65c_add_72be8_17 : decode (mC M_Jx4a65c_add_72be8) 17 = .ok (.iconst 1, 1) := by decide +kernel
theorem d_Jx4a65c_add_72be8_18 : decode (mC M_Jx4a65c_add_72be8) 18 = .ok (.iadd, 1) := by decide +kernel
theorem d_Jx4a65c_add_72be8_19 : decode (mC M_Jx4a65c_add_72be8) 19 = .ok (.putfield 48, 3) := by decide +kernel
theorem d_Jx4a65c_add_72be8_22 : decode (mC M_Jx4a65c_add_72be8) 22 = .ok (.return_, 1) := by decide +kernel
theorem d_Jx4a65c_add_7a177_0 : decode (mC M_Jx4a65c_add_7a177) 0 = .ok (.aload_n 0, 1) := by decide +kernel
theorem d_Jx4a65c_add_7a177_1 : decode (mC M_Jx4a65c_add_7a177) 1 = .ok (.iload_n 1, 1) := by decide +kernel
theorem d_Jx4a65c_add_7a177_2 : decode (mC M_Jx4a65c_add_7a177) 2 = .ok (.invokevirtual 135, 3) := by decide +kernel
theorem d_Jx4a65c_add_7a177_5 : decode (mC M_Jx4a65c_add_7a177) 5 = .ok (.aload_n 0, 1) := by decide +kernel
theorem d_Jx4a65c_add_7a177_6 : decode (mC M_Jx4a65c_add_7a177) 6 = .ok (.dup, 1) := by decide +kernel
theorem d_Jx4a65c_add_7a177_7 : decode (mC M_Jx4a65c_add_7a177) 7 = .ok (.getfield 63, 3) := by decide +kernel
theorem d_Jx4a65c_add_7a177_10 : decode (mC M_Jx4a65c_add_7a177) 10 = .ok (.iconst 1, 1) := by decide +kernel
theorem d_Jx4a65c_add_7a177_11 : decode (mC M_Jx4a65c_add_7a177) 11 = .ok (.iadd, 1) := by decide +kernel
theorem d_Jx4a65c_add_7a177_12 : decode (mC M_Jx4a65c_add_7a177) 12 = .ok (.putfield 63, 3) := by decide +kernel
theorem d_Jx4a65c_add_7a177_15 : decode (mC M_Jx4a65c_add_7a177) 15 = .ok (.aload_n 0, 1) := by decide +kernel
theorem d_Jx4a65c_add_7a177_16 : decode (mC M_Jx4a65c_add_7a177) 16 = .ok (.getfield 48, 3) := by decide +kernel
theorem d_Jx4a65c_add_7a177_19 : decode (mC M_Jx4a65c_add_7a177) 19 = .ok (.dup, 1) := by decide +kernel
theorem d_Jx4a65c_add_7a177_20 : decode (mC M_Jx4a65c_add_7a177) 20 = .ok (.istore_n 3, 1) := by decide +kernel
theorem d_Jx4a65c_add_7a177_21 : decode (mC M_Jx4a65c_add_7a177) 21 = .ok (.aload_n 0, 1) := by decide +kernel
theorem d_Jx4a65c_add_7a177_22 : decode (mC M_Jx4a65c_add_7a177) 22 = .ok (.getfield 9, 3) := by decide +kernel
theorem d_Jx4a65c_add_7a177_25 : decode (mC M_Jx4a65c_add_7a177) 25 = .ok (.dup, 1) := by decide +kernel
theorem d_Jx4a65c_add_7a177_26 : decode (mC M_Jx4a65c_add_7a177) 26 = .ok (.astore 4, 2) := by decide +kernel
theorem d_Jx4a65c_add_7a177_28 : decode (mC M_Jx4a65c_add_7a177) 28 = .ok (.arraylength, 1) := by decide +kernel
theorem d_Jx4a65c_add_7a177_29 : decode (mC M_Jx4a65c_add_7a177) 29 = .ok (.if_icmp .ne 9, 3) := by decide +kernel
theorem d_Jx4a65c_add_7a177_32 : decode (mC M_Jx4a65c_add_7a177) 32 = .ok (.aload_n 0, 1) := by decide +kernel
theorem d_Jx4a65c_add_7a177_33 : decode (mC M_Jx4a65c_add_7a177) 33 = .ok (.invokevirtual 129, 3) := by decide +kernel
theorem d_Jx4a65c_add_7a177_36 : decode (mC M_Jx4a65c_add_7a177) 36 = .ok (.astore 4, 2) := by decide +kernel
theorem d_Jx4a65c_add_7a177_38 : decode (mC M_Jx4a65c_add_7a177) 38 = .ok (.aload 4, 2) := by decide +kernel
theorem d_Jx4a65c_add_7a177_40 : decode (mC M_Jx4a65c_add_7a177) 40 = .ok (.iload_n 1, 1) := by decide +kernel
theorem d_Jx4a65c_add_7a177_41 : decode (mC M_Jx4a65c_add_7a177) 41 = .ok (.aload 4, 2) := by decide +kernel
theorem d_Jx4a65c_add_7a177_43 : decode (mC M_Jx4a65c_add_7a177) 43 = .ok (.iload_n 1, 1) := by decide +kernel
theorem d_Jx4a65c_add_7a177_44 : decode (mC M_Jx4a65c_add_7a177) 44 = .ok (.iconst 1, 1) := by decide +kernel
theorem d_Jx4a65c_add_7a177_45 : decode (mC M_Jx4a65c_add_7a177) 45 = .ok (.iadd, 1) := by decide +kernel
theorem d_Jx4a65c_add_7a177_46 : decode (mC M_Jx4a65c_add_7a177) 46 = .ok (.iload_n 3, 1) := by decide +kernel
theorem d_Jx4a65c_add_7a177_47 : decode (mC M_Jx4a65c_add_7a177) 47 = .ok (.iload_n 1, 1) := by decide +kernel
theorem d_Jx4a65c_add_7a177_48 : decode (mC M_Jx4a65c_add_7a177) 48 = .ok (.isub, 1) := by decide +kernel
theorem d_Jx4a65c_add_7a177_49 : decode (mC M_Jx4a65c_add_7a177) 49 = .ok (.invokestatic 112, 3) := by decide +kernel
theorem d_Jx4a65c_add_7a177_52 : decode (mC M_Jx4a65c_add_7a177) 52 = .ok (.aload 4, 2) := by decide +kernel
theorem d_Jx4a65c_add_7a177_54 : decode (mC M_Jx4a65c_add_7a177) 54 = .ok (.iload_n 1, 1) := by decide +kernel
theorem d_Jx4a65c_add_7a177_55 : decode (mC M_Jx4a65c_add_7a177) 55 = .ok (.aload_n 2, 1) := by decide +kernel
theorem d_Jx4a65c_add_7a177_56 : decode (mC M_Jx4a65c_add_7a177) 56 = .ok (.aastore, 1) := by decide +kernel
theorem d_Jx4a65c_add_7a177_57 : decode (mC M_Jx4a65c_add_7a177) 57 = .ok (.aload_n 0, 1) := by decide +kernel
theorem d_Jx4a65c_add_7a177_58 : decode (mC M_Jx4a65c_add_7a177) 58 = .ok (.iload_n 3, 1) := by decide +kernel
theorem d_Jx4a65c_add_7a177_59 : decode (mC M_Jx4a65c_add_7a177) 59 = .ok (.iconst 1, 1) := by decide +kernel
theorem d_Jx4a65c_add_7a177_60 : decode (mC M_Jx4a65c_add_7a177) 60 = .ok (.iadd, 1) := by decide +kernel
theorem d_Jx4a65c_add_7a177_61 : decode (mC M_Jx4a65c_add_7a177) 61 = .ok (.putfield 48, 3) := by decide +kernel
theorem d_Jx4a65c_add_7a177_64 : decode (mC M_Jx4a65c_add_7a177) 64 = .ok (.return_, 1) := by decide +kernel
theorem d_Jx4a65c_add_9ea2d_0 : decode (mC M_Jx4a65c_add_9ea2d) 0 = .ok (.aload_n 0, 1) := by decide +kernel
theorem d_Jx4a65c_add_9ea2d_1 : decode (mC M_Jx4a65c_add_9ea2d) 1 = .ok (.dup, 1) := by decide +kernel
theorem d_Jx4a65c_add_9ea2d_2 : decode (mC M_Jx4a65c_add_9ea2d) 2 = .ok (.getfield 63, 3) := by decide +kernel
theorem d_Jx4a65c_add_9ea2d_5 : decode (mC M_Jx4a65c_add_9ea2d) 5 = .ok (.iconst 1, 1) := by decide +kernel
theorem d_Jx4a65c_add_9ea2d_6 : decode (mC M_Jx4a65c_add_9ea2d) 6 = .ok (.iadd, 1) := by decide +kernel
theorem d_Jx4a65c_add_9ea2d_7 : decode (mC M_Jx4a65c_add_9ea2d) 7 = .ok (.putfield 63, 3) := by decide +kernel
theorem d_Jx4a65c_add_9ea2d_10 : decode (mC M_Jx4a65c_add_9ea2d) 10 = .ok (.aload_n 0, 1) := by decide +kernel
theorem d_Jx4a65c_add_9ea2d_11 : decode (mC M_Jx4a65c_add_9ea2d) 11 = .ok (.aload_n 1, 1) := by decide +kernel
theorem d_Jx4a65c_add_9ea2d_12 : decode (mC M_Jx4a65c_add_9ea2d) 12 = .ok (.aload_n 0, 1) := by decide +kernel
theorem d_Jx4a65c_add_9ea2d_13 : decode (mC M_Jx4a65c_add_9ea2d) 13 = .ok (.getfield 9, 3) := by decide +kernel
theorem d_Jx4a65c_add_9ea2d_16 : decode (mC M_Jx4a65c_add_9ea2d) 16 = .ok (.aload_n 0, 1) := by decide +kernel
theorem d_Jx4a65c_add_9ea2d_17 : decode (mC M_Jx4a65c_add_9ea2d) 17 = .ok (.getfield 48, 3) := by decide +kernel
theorem d_Jx4a65c_add_9ea2d_20 : decode (mC M_Jx4a65c_add_9ea2d) 20 = .ok (.invokevirtual 131, 3) := by decide +kernel
theorem d_Jx4a65c_add_9ea2d_23 : decode (mC M_Jx4a65c_add_9ea2d) 23 = .ok (.iconst 1, 1) := by decide +kernel
theorem d_Jx4a65c_add_9ea2d_24 : decode (mC M_Jx4a65c_add_9ea2d) 24 = .ok (.ireturn, 1) := by decide +kernel
theorem d_Jx4a65c_clear_da8c8_0 : decode (mC M_Jx4a65c_clear_da8c8) 0 = .ok (.aload_n 0, 1) := by decide +kernel
theorem d_Jx4a65c_clear_da8c8_1 : decode (mC M_Jx4a65c_clear_da8c8) 1 = .ok (.dup, 1) := by decide +kernel
theorem d_Jx4a65c_clear_da8c8_2 : decode (mC M_Jx4a65c_clear_da8c8) 2 = .ok (.getfield 63, 3) := by decide +kernel
theorem d_Jx4a65c_clear_da8c8_5 : decode (mC M_Jx4a65c_clear_da8c8) 5 = .ok (.iconst 1, 1) := by decide +kernel
theorem d_Jx4a65c_clear_da8c8_6 : decode (mC M_Jx4a65c_clear_da8c8) 6 = .ok (.iadd, 1) := by decide +kernel
theorem d_Jx4a65c_clear_da8c8_7 : decode (mC M_Jx4a65c_clear_da8c8) 7 = .ok (.putfield 63, 3) := by decide +kernel
theorem d_Jx4a65c_clear_da8c8_10 : decode (mC M_Jx4a65c_clear_da8c8) 10 = .ok (.aload_n 0, 1) := by decide +kernel
theorem d_Jx4a65c_clear_da8c8_11 : decode (mC M_Jx4a65c_clear_da8c8) 11 = .ok (.getfield 9, 3) := by decide +kernel
theorem d_Jx4a65c_clear_da8c8_14 : decode (mC M_Jx4a65c_clear_da8c8) 14 = .ok (.astore_n 1, 1) := by decide +kernel
theorem d_Jx4a65c_clear_da8c8_15 : decode (mC M_Jx4a65c_clear_da8c8) 15 = .ok (.aload_n 0, 1) := by decide +kernel
theorem d_Jx4a65c_clear_da8c8_16 : decode (mC M_Jx4a65c_clear_da8c8) 16 = .ok (.getfield 48, 3) := by decide +kernel
theorem d_Jx4a65c_clear_da8c8_19 : decode (mC M_Jx4a65c_clear_da8c8) 19 = .ok (.istore_n 2, 1) := by decide +kernel
theorem d_Jx4a65c_clear_da8c8_20 : decode (mC M_Jx4a65c_clear_da8c8) 20 = .ok (.aload_n 0, 1) := by decide +kernel
theorem d_Jx4a65c_clear_da8c8_21 : decode (mC M_Jx4a65c_clear_da8c8) 21 = .ok (.iconst 0, 1) := by decide +kernel
theorem d_Jx4a65c_clear_da8c8_22 : decode (mC M_Jx4a65c_clear_da8c8) 22 = .ok (.dup_x1, 1) := by decide +kernel
theorem d_Jx4a65c_clear_da8c8_23 : decode (mC M_Jx4a65c_clear_da8c8) 23 = .ok (.putfield 48, 3) := by decide +kernel
theorem d_Jx4a65c_clear_da8c8_26 : decode (mC M_Jx4a65c_clear_da8c8) 26 = .ok (.istore_n 3, 1) := by decide +kernel
theorem d_Jx4a65c_clear_da8c8_27 : decode (mC M_Jx4a65c_clear_da8c8) 27 = .ok (.iload_n 3, 1) := by decide +kernel
theorem d_Jx4a65c_clear_da8c8_28 : decode (mC M_Jx4a65c_clear_da8c8) 28 = .ok (.iload_n 2, 1) := by decide +kernel
theorem d_Jx4a65c_clear_da8c8_29 : decode (mC M_Jx4a65c_clear_da8c8) 29 = .ok (.if_icmp .ge 13, 3) := by decide +kernel
theorem d_Jx4a65c_clear_da8c8_32 : decode (mC M_Jx4a65c_clear_da8c8) 32 = .ok (.aload_n 1, 1) := by decide +kernel
theorem d_Jx4a65c_clear_da8c8_33 : decode (mC M_Jx4a65c_clear_da8c8) 33 = .ok (.iload_n 3, 1) := by decide +kernel
theorem d_Jx4a65c_clear_da8c8_34 : decode (mC M_Jx4a65c_clear_da8c8) 34 = .ok (.aconst_null, 1) := by decide +kernel
theorem d_Jx4a65c_clear_da8c8_35 : decode (mC M_Jx4a65c_clear_da8c8) 35 = .ok (.aastore, 1) := by decide +kernel
theorem d_Jx4a65c_clear_da8c8_36 : decode (mC M_Jx4a65c_clear_da8c8) 36 = .ok (.iinc 3 1, 3) := by decide +kernel
theorem d_Jx4a65c_clear_da8c8_39 : decode (mC M_Jx4a65c_clear_da8c8) 39 = .ok (.goto (-12), 3) := by decide +kernel
theorem d_Jx4a65c_clear_da8c8_42 : decode (mC M_Jx4a65c_clear_da8c8) 42 = .ok (.return_, 1) := by decide +kernel
theorem d_Jx4a65c_elementData_915e3_0 : decode (mC M_Jx4a65c_elementData_915e3) 0 = .ok (.aload_n 0, 1) := by decide +kernel
theorem d_Jx4a65c_elementData_915e3_1 : decode (mC M_Jx4a65c_elementData_915e3) 1 = .ok (.getfield 9, 3) := by decide +kernel
theorem d_Jx4a65c_elementData_915e3_4 : decode (mC M_Jx4a65c_elementData_915e3) 4 = .ok (.iload_n 1, 1) := by decide +kernel
theorem d_Jx4a65c_elementData_915e3_5 : decode (mC M_Jx4a65c_elementData_915e3) 5 = .ok (.aaload, 1) := by decide +kernel
theorem d_Jx4a65c_elementData_915e3_6 : decode (mC M_Jx4a65c_elementData_915e3) 6 = .ok (.areturn, 1) := by decide +kernel
theorem d_Jx4a65c_get_915e3_0 : decode (mC M_Jx4a65c_get_915e3) 0 = .ok (.iload_n 1, 1) := by decide +kernel
theorem d_Jx4a65c_get_915e3_1 : decode (mC M_Jx4a65c_get_915e3) 1 = .ok (.aload_n 0, 1) := by decide +kernel
theorem d_Jx4a65c_get_915e3_2 : decode (mC M_Jx4a65c_get_915e3) 2 = .ok (.getfield 48, 3) := by decide +kernel
theorem d_Jx4a65c_get_915e3_5 : decode (mC M_Jx4a65c_get_915e3) 5 = .ok (.invokestatic 118, 3) := by decide +kernel
theorem d_Jx4a65c_get_915e3_8 : decode (mC M_Jx4a65c_get_915e3) 8 = .ok (.pop, 1) := by decide +kernel
theorem d_Jx4a65c_get_915e3_9 : decode (mC M_Jx4a65c_get_915e3) 9 = .ok (.aload_n 0, 1) := by decide +kernel
theorem d_Jx4a65c_get_915e3_10 : decode (mC M_Jx4a65c_get_915e3) 10 = .ok (.iload_n 1, 1) := by decide +kernel
theorem d_Jx4a65c_get_915e3_11 : decode (mC M_Jx4a65c_get_915e3) 11 = .ok (.invokevirtual 123, 3) := by decide +kernel
theorem d_Jx4a65c_get_915e3_14 : decode (mC M_Jx4a65c_get_915e3) 14 = .ok (.areturn, 1) := by decide +kernel
theorem d_Jx4a65c_grow_92f84_0 : decode (mC M_Jx4a65c_grow_92f84) 0 = .ok (.aload_n 0, 1) := by decide +kernel
theorem d_Jx4a65c_grow_92f84_1 : decode (mC M_Jx4a65c_grow_92f84) 1 = .ok (.getfield 9, 3) := by decide +kernel
theorem d_Jx4a65c_grow_92f84_4 : decode (mC M_Jx4a65c_grow_92f84) 4 = .ok (.arraylength, 1) := by decide +kernel
theorem d_Jx4a65c_grow_92f84_5 : decode (mC M_Jx4a65c_grow_92f84) 5 = .ok (.istore_n 2, 1) := by decide +kernel
theorem d_Jx4a65c_grow_92f84_6 : decode (mC M_Jx4a65c_grow_92f84) 6 = .ok (.iload_n 2, 1) := by decide +kernel
theorem d_Jx4a65c_grow_92f84_7 : decode (mC M_Jx4a65c_grow_92f84) 7 = .ok (.ifCond .gt 13, 3) := by decide +kernel
theorem d_Jx4a65c_grow_92f84_10 : decode (mC M_Jx4a65c_grow_92f84) 10 = .ok (.aload_n 0, 1) := by decide +kernel
theorem d_Jx4a65c_grow_92f84_11 : decode (mC M_Jx4a65c_grow_92f84) 11 = .ok (.getfield 9, 3) := by decide +kernel
theorem d_Jx4a65c_grow_92f84_14 : decode (mC M_Jx4a65c_grow_92f84) 14 = .ok (.getstatic 39, 3) := by decide +kernel
theorem d_Jx4a65c_grow_92f84_17 : decode (mC M_Jx4a65c_grow_92f84) 17 = .ok (.if_acmp .eq 28, 3) := by decide +kernel
theorem d_Jx4a65c_grow_92f84_20 : decode (mC M_Jx4a65c_grow_92f84) 20 = .ok (.iload_n 2, 1) := by decide +kernel
theorem d_Jx4a65c_grow_92f84_21 : decode (mC M_Jx4a65c_grow_92f84) 21 = .ok (.iload_n 1, 1) := by decide +kernel
theorem d_Jx4a65c_grow_92f84_22 : decode (mC M_Jx4a65c_grow_92f84) 22 = .ok (.iload_n 2, 1) := by decide +kernel
theorem d_Jx4a65c_grow_92f84_23 : decode (mC M_Jx4a65c_grow_92f84) 23 = .ok (.isub, 1) := by decide +kernel
theorem d_Jx4a65c_grow_92f84_24 : decode (mC M_Jx4a65c_grow_92f84) 24 = .ok (.iload_n 2, 1) := by decide +kernel
theorem d_Jx4a65c_grow_92f84_25 : decode (mC M_Jx4a65c_grow_92f84) 25 = .ok (.iconst 1, 1) := by decide +kernel
theorem d_Jx4a65c_grow_92f84_26 : decode (mC M_Jx4a65c_grow_92f84) 26 = .ok (.ishr, 1) := by decide +kernel
theorem d_Jx4a65c_grow_92f84_27 : decode (mC M_Jx4a65c_grow_92f84) 27 = .ok (.invokestatic 73, 3) := by decide +kernel
theorem d_Jx4a65c_grow_92f84_30 : decode (mC M_Jx4a65c_grow_92f84) 30 = .ok (.istore_n 3, 1) := by decide +kernel
theorem d_Jx4a65c_grow_92f84_31 : decode (mC M_Jx4a65c_grow_92f84) 31 = .ok (.aload_n 0, 1) := by decide +kernel
theorem d_Jx4a65c_grow_92f84_32 : decode (mC M_Jx4a65c_grow_92f84) 32 = .ok (.aload_n 0, 1) := by decide +kernel
theorem d_Jx4a65c_grow_92f84_33 : decode (mC M_Jx4a65c_grow_92f84) 33 = .ok (.getfield 9, 3) := by decide +kernel
theorem d_Jx4a65c_grow_92f84_36 : decode (mC M_Jx4a65c_grow_92f84) 36 = .ok (.iload_n 3, 1) := by decide +kernel
theorem d_Jx4a65c_grow_92f84_37 : decode (mC M_Jx4a65c_grow_92f84) 37 = .ok (.invokestatic 66, 3) := by decide +kernel
theorem d_Jx4a65c_grow_92f84_40 : decode (mC M_Jx4a65c_grow_92f84) 40 = .ok (.dup_x1, 1) := by decide +kernel
theorem d_Jx4a65c_grow_92f84_41 : decode (mC M_Jx4a65c_grow_92f84) 41 = .ok (.putfield 9, 3) := by decide +kernel
theorem d_Jx4a65c_grow_92f84_44 : decode (mC M_Jx4a65c_grow_92f84) 44 = .ok (.areturn, 1) := by decide +kernel
theorem d_Jx4a65c_grow_92f84_45 : decode (mC M_Jx4a65c_grow_92f84) 45 = .ok (.aload_n 0, 1) := by decide +kernel
theorem d_Jx4a65c_grow_92f84_46 : decode (mC M_Jx4a65c_grow_92f84) 46 = .ok (.bipush 10, 2) := by decide +kernel
theorem d_Jx4a65c_grow_92f84_48 : decode (mC M_Jx4a65c_grow_92f84) 48 = .ok (.iload_n 1, 1) := by decide +kernel
theorem d_Jx4a65c_grow_92f84_49 : decode (mC M_Jx4a65c_grow_92f84) 49 = .ok (.invokestatic 79, 3) := by decide +kernel
theorem d_Jx4a65c_grow_92f84_52 : decode (mC M_Jx4a65c_grow_92f84) 52 = .ok (.anewarray 7, 3) := by decide +kernel
theorem d_Jx4a65c_grow_92f84_55 : decode (mC M_Jx4a65c_grow_92f84) 55 = .ok (.dup_x1, 1) := by decide +kernel
theorem d_Jx4a65c_grow_92f84_56 : decode (mC M_Jx4a65c_grow_92f84) 56 = .ok (.putfield 9, 3) := by decide +kernel
theorem d_Jx4a65c_grow_92f84_59 : decode (mC M_Jx4a65c_grow_92f84) 59 = .ok (.areturn, 1) := by decide +kernel
theorem d_Jx4a65c_grow_d5877_0 : decode (mC M_Jx4a65c_grow_d5877) 0 = .ok (.aload_n 0, 1) := by decide +kernel
theorem d_Jx4a65c_grow_d5877_1 : decode (mC M_Jx4a65c_grow_d5877) 1 = .ok (.aload_n 0, 1) := by decide +kernel
theorem d_Jx4a65c_grow_d5877_2 : decode (mC M_Jx4a65c_grow_d5877) 2 = .ok (.getfield 48, 3) := by decide +kernel
theorem d_Jx4a65c_grow_d5877_5 : decode (mC M_Jx4a65c_grow_d5877) 5 = .ok (.iconst 1, 1) := by decide +kernel
theorem d_Jx4a65c_grow_d5877_6 : decode (mC M_Jx4a65c_grow_d5877) 6 = .ok (.iadd, 1) := by decide +kernel
theorem d_Jx4a65c_grow_d5877_7 : decode (mC M_Jx4a65c_grow_d5877) 7 = .ok (.invokevirtual 69, 3) := by decide +kernel
theorem d_Jx4a65c_grow_d5877_10 : decode (mC M_Jx4a65c_grow_d5877) 10 = .ok (.areturn, 1) := by decide +kernel
theorem d_Jx4a65c_init_da8c8_0 : decode (mC M_Jx4a65c_init_da8c8) 0 = .ok (.aload_n 0, 1) := by decide +kernel
theorem d_Jx4a65c_init_da8c8_1 : decode (mC M_Jx4a65c_init_da8c8) 1 = .ok (.invokespecial 1, 3) := by decide +kernel
theorem d_Jx4a65c_init_da8c8_4 : decode (mC M_Jx4a65c_init_da8c8) 4 = .ok (.aload_n 0, 1) := by decide +kernel
theorem d_Jx4a65c_init_da8c8_5 : decode (mC M_Jx4a65c_init_da8c8) 5 = .ok (.getstatic 39, 3) := by decide +kernel
theorem d_Jx4a65c_init_da8c8_8 : decode (mC M_Jx4a65c_init_da8c8) 8 = .ok (.putfield 9, 3) := by decide +kernel
theorem d_Jx4a65c_init_da8c8_11 : decode (mC M_Jx4a65c_init_da8c8) 11 = .ok (.return_, 1) := by decide +kernel
theorem d_Jx4a65c_isEmpty_aae02_0 : decode (mC M_Jx4a65c_isEmpty_aae02) 0 = .ok (.aload_n 0, 1) := by decide +kernel
theorem d_Jx4a65c_isEmpty_aae02_1 : decode (mC M_Jx4a65c_isEmpty_aae02) 1 = .ok (.getfield 48, 3) := by decide +kernel
theorem d_Jx4a65c_isEmpty_aae02_4 : decode (mC M_Jx4a65c_isEmpty_aae02) 4 = .ok (.ifCond .ne 7, 3) := by decide +kernel
theorem d_Jx4a65c_isEmpty_aae02_7 : decode (mC M_Jx4a65c_isEmpty_aae02) 7 = .ok (.iconst 1, 1) := by decide +kernel
theorem d_Jx4a65c_isEmpty_aae02_8 : decode (mC M_Jx4a65c_isEmpty_aae02) 8 = .ok (.goto 4, 3) := by decide +kernel
theorem d_Jx4a65c_isEmpty_aae02_11 : decode (mC M_Jx4a65c_isEmpty_aae02) 11 = .ok (.iconst 0, 1) := by decide +kernel
theorem d_Jx4a65c_isEmpty_aae02_12 : decode (mC M_Jx4a65c_isEmpty_aae02) 12 = .ok (.ireturn, 1) := by decide +kernel
theorem d_Jx4a65c_rangeCheckForAdd_d00df_0 : decode (mC M_Jx4a65c_rangeCheckForAdd_d00df) 0 = .ok (.iload_n 1, 1) := by decide +kernel
theorem d_Jx4a65c_rangeCheckForAdd_d00df_1 : decode (mC M_Jx4a65c_rangeCheckForAdd_d00df) 1 = .ok (.aload_n 0, 1) := by decide +kernel
theorem d_Jx4a65c_rangeCheckForAdd_d00df_2 : decode (mC M_Jx4a65c_rangeCheckForAdd_d00df) 2 = .ok (.getfield 48, 3) := by decide +kernel
theorem d_Jx4a65c_rangeCheckForAdd_d00df_5 : decode (mC M_Jx4a65c_rangeCheckForAdd_d00df) 5 = .ok (.if_icmp .gt 7, 3) := by decide +kernel
theorem d_Jx4a65c_rangeCheckForAdd_d00df_8 : decode (mC M_Jx4a65c_rangeCheckForAdd_d00df) 8 = .ok (.iload_n 1, 1) := by decide +kernel
theorem d_Jx4a65c_rangeCheckForAdd_d00df_9 : decode (mC M_Jx4a65c_rangeCheckForAdd_d00df) 9 = .ok (.ifCond .ge 16, 3) := by decide +kernel
theorem d_Jx4a65c_rangeCheckForAdd_d00df_12 : decode (mC M_Jx4a65c_rangeCheckForAdd_d00df) 12 = .ok (.new 187, 3) := by decide +kernel
theorem d_Jx4a65c_rangeCheckForAdd_d00df_15 : decode (mC M_Jx4a65c_rangeCheckForAdd_d00df) 15 = .ok (.dup, 1) := by decide +kernel
theorem d_Jx4a65c_rangeCheckForAdd_d00df_16 : decode (mC M_Jx4a65c_rangeCheckForAdd_d00df) 16 = .ok (.aload_n 0, 1) := by decide +kernel
theorem d_Jx4a65c_rangeCheckForAdd_d00df_17 : decode (mC M_Jx4a65c_rangeCheckForAdd_d00df) 17 = .ok (.iload_n 1, 1) := by decide +kernel
theorem d_Jx4a65c_rangeCheckForAdd_d00df_18 : decode (mC M_Jx4a65c_rangeCheckForAdd_d00df) 18 = .ok (.invokevirtual 198, 3) := by decide +kernel
theorem d_Jx4a65c_rangeCheckForAdd_d00df_21 : decode (mC M_Jx4a65c_rangeCheckForAdd_d00df) 21 = .ok (.invokespecial 193, 3) := by decide +kernel
theorem d_Jx4a65c_rangeCheckForAdd_d00df_24 : decode (mC M_Jx4a65c_rangeCheckForAdd_d00df) 24 = .ok (.athrow, 1) := by decide +kernel
theorem d_Jx4a65c_rangeCheckForAdd_d00df_25 : decode (mC M_Jx4a65c_rangeCheckForAdd_d00df) 25 = .ok (.return_, 1) := by decide +kernel
theorem d_Jx4a65c_size_8abf5_0 : decode (mC M_Jx4a65c_size_8abf5) 0 = .ok (.aload_n 0, 1) := by decide +kernel
theorem d_Jx4a65c_size_8abf5_1 : decode (mC M_Jx4a65c_size_8abf5) 1 = .ok (.getfield 48, 3) := by decide +kernel
theorem d_Jx4a65c_size_8abf5_4 : decode (mC M_Jx4a65c_size_8abf5) 4 = .ok (.ireturn, 1) := by decide +kernel
theorem d_Jxa1e45_init_da8c8_0 : decode (mC M_Jxa1e45_init_da8c8) 0 = .ok (.aload_n 0, 1) := by decide +kernel
theorem d_Jxa1e45_init_da8c8_1 : decode (mC M_Jxa1e45_init_da8c8) 1 = .ok (.invokespecial 1, 3) := by decide +kernel
theorem d_Jxa1e45_init_da8c8_4 : decode (mC M_Jxa1e45_init_da8c8) 4 = .ok (.return_, 1) := by decide +kernel
theorem d_Jxc12de_init_da8c8_0 : decode (mC M_Jxc12de_init_da8c8) 0 = .ok (.aload_n 0, 1) := by decide +kernel
theorem d_Jxc12de_init_da8c8_1 : decode (mC M_Jxc12de_init_da8c8) 1 = .ok (.invokespecial 1, 3) := by decide +kernel
theorem d_Jxc12de_init_da8c8_4 : decode (mC M_Jxc12de_init_da8c8) 4 = .ok (.aload_n 0, 1) := by decide +kernel
theorem d_Jxc12de_init_da8c8_5 : decode (mC M_Jxc12de_init_da8c8) 5 = .ok (.iconst 0, 1) := by decide +kernel
theorem d_Jxc12de_init_da8c8_6 : decode (mC M_Jxc12de_init_da8c8) 6 = .ok (.putfield 7, 3) := by decide +kernel
theorem d_Jxc12de_init_da8c8_9 : decode (mC M_Jxc12de_init_da8c8) 9 = .ok (.return_, 1) := by decide +kernel
def lawc : ByteArray := ⟨⟨[0xbb, 0x00, 0x08, 0x59, 0xb7, 0x00, 0x0f, 0x4c, 0xbb, 0x00, 0x10, 0x59, 0xb7, 0x00, 0x12, 0x4d, 0x04, 0xbc, 0x0b, 0x4e, 0x03, 0x36, 0x04, 0x15, 0x04, 0x2a, 0xbe, 0x10, 0x06, 0x64, 0xa3, 0x03, 0xcf, 0x2a, 0x15, 0x04, 0x2e, 0x10, 0x1f, 0x7e, 0xaa, 0x00, 0x00, 0x00, 0x00, 0x00, 0x03, 0xbf, 0x00, 0x00, 0x00, 0x00, 0x00, 0x00, 0x00, 0x16, 0x00, 0x00, 0x00, 0x6c, 0x00, 0x00, 0x00, 0xb5, 0x00, 0x00, 0x00, 0xea, 0x00, 0x00, 0x01, 0x33, 0x00, 0x00, 0x01, 0x4c, 0x00, 0x00, 0x01, 0x59, 0x00, 0x00, 0x01, 0x66, 0x00, 0x00, 0x01, 0x73, 0x00, 0x00, 0x01, 0xa4, 0x00, 0x00, 0x01, 0xb1, 0x00, 0x00, 0x01, 0xca, 0x00, 0x00, 0x01, 0xe3, 0x00, 0x00, 0x01, 0xfc, 0x00, 0x00, 0x02, 0x21, 0x00, 0x00, 0x02, 0x52, 0x00, 0x00, 0x02, 0x77, 0x00, 0x00, 0x02, 0xc7, 0x00, 0x00, 0x02, 0xec, 0x00, 0x00, 0x03, 0x05, 0x00, 0x00, 0x03, 0x2a, 0x00, 0x00, 0x03, 0x4f, 0x00, 0x00, 0x03, 0x74, 0x00, 0x00, 0x03, 0xa6, 0x2b, 0x2a, 0x15, 0x04, 0x04, 0x60, 0x2e, 0x2a, 0x15, 0x04, 0x05, 0x60, 0x2e, 0x2a, 0x15, 0x04, 0x06, 0x60, 0x2e, 0x2a, 0x15, 0x04, 0x07, 0x60, 0x2e, 0x2a, 0x15, 0x04, 0x08, 0x60, 0x2e, 0xb6, 0x00, 0x13, 0x2c, 0x2a, 0x15, 0x04, 0x04, 0x60, 0x2e, 0x2a, 0x15, 0x04, 0x05, 0x60, 0x2e, 0x2a, 0x15, 0x04, 0x06, 0x60, 0x2e, 0x2a, 0x15, 0x04, 0x07, 0x60, 0x2e, 0x2a, 0x15, 0x04, 0x08, 0x60, 0x2e, 0xb6, 0x00, 0x17, 0x9f, 0x03, 0x0f, 0x03, 0xac, 0x2b, 0x2a, 0x15, 0x04, 0x04, 0x60, 0x2e, 0x2a, 0x15, 0x04, 0x05, 0x60, 0x2e, 0x99, 0x00, 0x07, 0x04, 0xa7, 0x00, 0x04, 0x03, 0xb6, 0x00, 0x18, 0x2c, 0x2a, 0x15, 0x04, 0x04, 0x60, 0x2e, 0x2a, 0x15, 0x04, 0x05, 0x60, 0x2e, 0x99, 0x00, 0x07, 0x04, 0xa7, 0x00, 0x04, 0x03, 0xb6, 0x00, 0x1c, 0x9f, 0x02, 0xda, 0x03, 0xac, 0x2b, 0x2a, 0x15, 0x04, 0x04, 0x60, 0x2e, 0x2a, 0x15, 0x04, 0x05, 0x60, 0x2e, 0x2a, 0x15, 0x04, 0x06, 0x60, 0x2e, 0x2a, 0x15, 0x04, 0x07, 0x60, 0x2e, 0x2a, 0x15, 0x04, 0x08, 0x60, 0x2e, 0xb6, 0x00, 0x1d, 0x2c, 0x2a, 0x15, 0x04, 0x04, 0x60, 0x2e, 0x2a, 0x15, 0x04, 0x05, 0x60, 0x2e, 0x2a, 0x15, 0x04, 0x06, 0x60, 0x2e, 0x2a, 0x15, 0x04, 0x07, 0x60, 0x2e, 0x2a, 0x15, 0x04, 0x08, 0x60, 0x2e, 0xb6, 0x00, 0x20, 0x9f, 0x02, 0x91, 0x03, 0xac, 0x2b, 0x2a, 0x15, 0x04, 0x04, 0x60, 0x2e, 0xb6, 0x00, 0x21, 0x2c, 0x2a, 0x15, 0x04, 0x04, 0x60, 0x2e, 0xb6, 0x00, 0x25, 0x9f, 0x02, 0x78, 0x03, 0xac, 0x2b, 0xb6, 0x00, 0x26, 0x2c, 0xb6, 0x00, 0x2a, 0x9f, 0x02, 0x6b, 0x03, 0xac, 0x2b, 0xb6, 0x00, 0x2b, 0x2c, 0xb6, 0x00, 0x2e, 0x9f, 0x02, 0x5e, 0x03, 0xac, 0x2b, 0xb6, 0x00, 0x2f, 0x2c, 0xb6, 0x00, 0x32, 0x9f, 0x02, 0x51, 0x03, 0xac, 0x2b, 0x2a, 0x15, 0x04, 0x04, 0x60, 0x2e, 0x2a, 0x15, 0x04, 0x05, 0x60, 0x2e, 0x2a, 0x15, 0x04, 0x06, 0x60, 0x2e, 0xb6, 0x00, 0x33, 0x2c, 0x2a, 0x15, 0x04, 0x04, 0x60, 0x2e, 0x2a, 0x15, 0x04, 0x05, 0x60, 0x2e, 0x2a, 0x15, 0x04, 0x06, 0x60, 0x2e, 0xb6, 0x00, 0x36, 0x9f, 0x02, 0x20, 0x03, 0xac, 0x2b, 0xb6, 0x00, 0x37, 0x2c, 0xb6, 0x00, 0x3a, 0x9f, 0x02, 0x13, 0x03, 0xac, 0x2b, 0x2a, 0x15, 0x04, 0x04, 0x60, 0x2e, 0xb6, 0x00, 0x3b, 0x2c, 0x2a, 0x15, 0x04, 0x04, 0x60, 0x2e, 0xb6, 0x00, 0x3e, 0x9f, 0x01, 0xfa, 0x03, 0xac, 0x2b, 0x2a, 0x15, 0x04, 0x04, 0x60, 0x2e, 0xb6, 0x00, 0x3f, 0x2c, 0x2a, 0x15, 0x04, 0x04, 0x60, 0x2e, 0xb6, 0x00, 0x42, 0x9f, 0x01, 0xe1, 0x03, 0xac, 0x2b, 0x2a, 0x15, 0x04, 0x04, 0x60, 0x2e, 0xb6, 0x00, 0x43, 0x2c, 0x2a, 0x15, 0x04, 0x04, 0x60, 0x2e, 0xb6, 0x00, 0x46, 0x9f, 0x01, 0xc8, 0x03, 0xac, 0x2b, 0x2a, 0x15, 0x04, 0x04, 0x60, 0x2e, 0x2a, 0x15, 0x04, 0x05, 0x60, 0x2e, 0xb6, 0x00, 0x47, 0x2c, 0x2a, 0x15, 0x04, 0x04, 0x60, 0x2e, 0x2a, 0x15, 0x04, 0x05, 0x60, 0x2e, 0xb6, 0x00, 0x4b, 0x9f, 0x01, 0xa3, 0x03, 0xac, 0x2b, 0x2a, 0x15, 0x04, 0x04, 0x60, 0x2e, 0x2a, 0x15, 0x04, 0x05, 0x60, 0x2e, 0x2a, 0x15, 0x04, 0x06, 0x60, 0x2e, 0xb6, 0x00, 0x4c, 0x2c, 0x2a, 0x15, 0x04, 0x04, 0x60, 0x2e, 0x2a, 0x15, 0x04, 0x05, 0x60, 0x2e, 0x2a, 0x15, 0x04, 0x06, 0x60, 0x2e, 0xb6, 0x00, 0x4f, 0x9f, 0x01, 0x72, 0x03, 0xac, 0x2b, 0x2a, 0x15, 0x04, 0x04, 0x60, 0x2e, 0x2a, 0x15, 0x04, 0x05, 0x60, 0x2e, 0xb6, 0x00, 0x50, 0x2c, 0x2a, 0x15, 0x04, 0x04, 0x60, 0x2e, 0x2a, 0x15, 0x04, 0x05, 0x60, 0x2e, 0xb6, 0x00, 0x53, 0x9f, 0x01, 0x4d, 0x03, 0xac, 0x2b, 0x2a, 0x15, 0x04, 0x04, 0x60, 0x2e, 0x2a, 0x15, 0x04, 0x05, 0x60, 0x2e, 0x2a, 0x15, 0x04, 0x06, 0x60, 0x2e, 0x2d, 0xb8, 0x00, 0x54, 0x36, 0x05, 0x2c, 0x2a, 0x15, 0x04, 0x04, 0x60, 0x2e, 0x2a, 0x15, 0x04, 0x05, 0x60, 0x2e, 0x2a, 0x15, 0x04, 0x06, 0x60, 0x2e, 0xb6, 0x00, 0x59, 0x36, 0x06, 0x2c, 0xb6, 0x00, 0x5a, 0x15, 0x05, 0x9f, 0x00, 0x05, 0x03, 0xac, 0x15, 0x05, 0x9a, 0x00, 0x0f, 0x2d, 0x03, 0x2f, 0x15, 0x06, 0x85, 0x94, 0x99, 0x00, 0x05, 0x03, 0xac, 0xa7, 0x00, 0xfb, 0x2b, 0x2a, 0x15, 0x04, 0x04, 0x60, 0x2e, 0x2a, 0x15, 0x04, 0x05, 0x60, 0x2e, 0xb6, 0x00, 0x5d, 0x2c, 0x2a, 0x15, 0x04, 0x04, 0x60, 0x2e, 0x2a, 0x15, 0x04, 0x05, 0x60, 0x2e, 0xb6, 0x00, 0x60, 0x9f, 0x00, 0xd8, 0x03, 0xac, 0x2b, 0x2a, 0x15, 0x04, 0x04, 0x60, 0x2e, 0xb6, 0x00, 0x61, 0x2c, 0x2a, 0x15, 0x04, 0x04, 0x60, 0x2e, 0xb6, 0x00, 0x64, 0x9f, 0x00, 0xbf, 0x03, 0xac, 0x2b, 0x2a, 0x15, 0x04, 0x04, 0x60, 0x2e, 0x2a, 0x15, 0x04, 0x05, 0x60, 0x2e, 0xb6, 0x00, 0x65, 0x2c, 0x2a, 0x15, 0x04, 0x04, 0x60, 0x2e, 0x2a, 0x15, 0x04, 0x05, 0x60, 0x2e, 0xb6, 0x00, 0x68, 0x9f, 0x00, 0x9a, 0x03, 0xac, 0x2b, 0x2a, 0x15, 0x04, 0x04, 0x60, 0x2e, 0x2a, 0x15, 0x04, 0x05, 0x60, 0x2e, 0xb6, 0x00, 0x69, 0x2c, 0x2a, 0x15, 0x04, 0x04, 0x60, 0x2e, 0x2a, 0x15, 0x04, 0x05, 0x60, 0x2e, 0xb6, 0x00, 0x6c, 0x9f, 0x00, 0x75, 0x03, 0xac, 0x2b, 0x2a, 0x15, 0x04, 0x04, 0x60, 0x2e, 0x2a, 0x15, 0x04, 0x05, 0x60, 0x2e, 0xb6, 0x00, 0x6d, 0x2c, 0x2a, 0x15, 0x04, 0x04, 0x60, 0x2e, 0x2a, 0x15, 0x04, 0x05, 0x60, 0x2e, 0xb6, 0x00, 0x70, 0x9f, 0x00, 0x50, 0x03, 0xac, 0x2b, 0x2a, 0x15, 0x04, 0x04, 0x60, 0x2e, 0x2a, 0x15, 0x04, 0x05, 0x60, 0x2e, 0x2a, 0x15, 0x04, 0x06, 0x60, 0x2e, 0xb6, 0x00, 0x71, 0x2c, 0x2a, 0x15, 0x04, 0x04, 0x60, 0x2e, 0x2a, 0x15, 0x04, 0x05, 0x60, 0x2e, 0x2a, 0x15, 0x04, 0x06, 0x60, 0x2e, 0xb6, 0x00, 0x75, 0x94, 0x99, 0x00, 0x1e, 0x03, 0xac, 0x2b, 0x2a, 0x15, 0x04, 0x04, 0x60, 0x2e, 0xb6, 0x00, 0x76, 0x2c, 0x2a, 0x15, 0x04, 0x04, 0x60, 0x2e, 0xb6, 0x00, 0x79, 0x9f, 0x00, 0x05, 0x03, 0xac, 0x84, 0x04, 0x06, 0xa7, 0xfc, 0x2d, 0x04, 0xac]⟩⟩
theorem lawc_eq : mC M_L_law = lawc := by decide +kernel
theorem d_L_law_0 : decode (mC M_L_law) 0 = .ok (.new 8, 3) := (congrArg (fun b => decode b 0) lawc_eq).trans (by decide +kernel)
theorem d_L_law_3 : decode (mC M_L_law) 3 = .ok (.dup, 1) := (congrArg (fun b => decode b 3) lawc_eq).trans (by decide +kernel)
theorem d_L_law_4 : decode (mC M_L_law) 4 = .ok (.invokespecial 15, 3) := (congrArg (fun b => decode b 4) lawc_eq).trans (by decide +kernel)
theorem d_L_law_7 : decode (mC M_L_law) 7 = .ok (.astore_n 1, 1) := (congrArg (fun b => decode b 7) lawc_eq).trans (by decide +kernel)
theorem d_L_law_8 : decode (mC M_L_law) 8 = .ok (.new 16, 3) := (congrArg (fun b => decode b 8) lawc_eq).trans (by decide +kernel)
theorem d_L_law_11 : decode (mC M_L_law) 11 = .ok (.dup, 1) := (congrArg (fun b => decode b 11) lawc_eq).trans (by decide +kernel)
theorem d_L_law_12 : decode (mC M_L_law) 12 = .ok (.invokespecial 18, 3) := (congrArg (fun b => decode b 12) lawc_eq).trans (by decide +kernel)
theorem d_L_law_15 : decode (mC M_L_law) 15 = .ok (.astore_n 2, 1) := (congrArg (fun b => decode b 15) lawc_eq).trans (by decide +kernel)
theorem d_L_law_16 : decode (mC M_L_law) 16 = .ok (.iconst 1, 1) := (congrArg (fun b => decode b 16) lawc_eq).trans (by decide +kernel)
theorem d_L_law_17 : decode (mC M_L_law) 17 = .ok (.newarray .long, 2) := (congrArg (fun b => decode b 17) lawc_eq).trans (by decide +kernel)
theorem d_L_law_19 : decode (mC M_L_law) 19 = .ok (.astore_n 3, 1) := (congrArg (fun b => decode b 19) lawc_eq).trans (by decide +kernel)
theorem d_L_law_20 : decode (mC M_L_law) 20 = .ok (.iconst 0, 1) := (congrArg (fun b => decode b 20) lawc_eq).trans (by decide +kernel)
theorem d_L_law_21 : decode (mC M_L_law) 21 = .ok (.istore 4, 2) := (congrArg (fun b => decode b 21) lawc_eq).trans (by decide +kernel)
theorem d_L_law_23 : decode (mC M_L_law) 23 = .ok (.iload 4, 2) := (congrArg (fun b => decode b 23) lawc_eq).trans (by decide +kernel)
theorem d_L_law_25 : decode (mC M_L_law) 25 = .ok (.aload_n 0, 1) := (congrArg (fun b => decode b 25) lawc_eq).trans (by decide +kernel)
theorem d_L_law_26 : decode (mC M_L_law) 26 = .ok (.arraylength, 1) := (congrArg (fun b => decode b 26) lawc_eq).trans (by decide +kernel)
theorem d_L_law_27 : decode (mC M_L_law) 27 = .ok (.bipush 6, 2) := (congrArg (fun b => decode b 27) lawc_eq).trans (by decide +kernel)
theorem d_L_law_29 : decode (mC M_L_law) 29 = .ok (.isub, 1) := (congrArg (fun b => decode b 29) lawc_eq).trans (by decide +kernel)
theorem d_L_law_30 : decode (mC M_L_law) 30 = .ok (.if_icmp .gt 975, 3) := (congrArg (fun b => decode b 30) lawc_eq).trans (by decide +kernel)
theorem d_L_law_33 : decode (mC M_L_law) 33 = .ok (.aload_n 0, 1) := (congrArg (fun b => decode b 33) lawc_eq).trans (by decide +kernel)
theorem d_L_law_34 : decode (mC M_L_law) 34 = .ok (.iload 4, 2) := (congrArg (fun b => decode b 34) lawc_eq).trans (by decide +kernel)
theorem d_L_law_36 : decode (mC M_L_law) 36 = .ok (.iaload, 1) := (congrArg (fun b => decode b 36) lawc_eq).trans (by decide +kernel)
theorem d_L_law_37 : decode (mC M_L_law) 37 = .ok (.bipush 31, 2) := (congrArg (fun b => decode b 37) lawc_eq).trans (by decide +kernel)
theorem d_L_law_39 : decode (mC M_L_law) 39 = .ok (.iand, 1) := (congrArg (fun b => decode b 39) lawc_eq).trans (by decide +kernel)
theorem d_L_law_40 : decode (mC M_L_law) 40 = .ok (.tableswitch 959 0 22 #[108, 181, 234, 307, 332, 345, 358, 371, 420, 433, 458, 483, 508, 545, 594, 631, 711, 748, 773, 810, 847, 884, 934], 108) := (congrArg (fun b => decode b 40) lawc_eq).trans (by decide +kernel)
theorem d_L_law_148 : decode (mC M_L_law) 148 = .ok (.aload_n 1, 1) := (congrArg (fun b => decode b 148) lawc_eq).trans (by decide +kernel)
theorem d_L_law_149 : decode (mC M_L_law) 149 = .ok (.aload_n 0, 1) := (congrArg (fun b => decode b 149) lawc_eq).trans (by decide +kernel)
theorem d_L_law_150 : decode (mC M_L_law) 150 = .ok (.iload 4, 2) := (congrArg (fun b => decode b 150) lawc_eq).trans (by decide +kernel)
theorem d_L_law_152 : decode (mC M_L_law) 152 = .ok (.iconst 1, 1) := (congrArg (fun b => decode b 152) lawc_eq).trans (by decide +kernel)
theorem d_L_law_153 : decode (mC M_L_law) 153 = .ok (.iadd, 1) := (congrArg (fun b => decode b 153) lawc_eq).trans (by decide +kernel)
theorem d_L_law_154 : decode (mC M_L_law) 154 = .ok (.iaload, 1) := (congrArg (fun b => decode b 154) lawc_eq).trans (by decide +kernel)
theorem d_L_law_155 : decode (mC M_L_law) 155 = .ok (.aload_n 0, 1) := (congrArg (fun b => decode b 155) lawc_eq).trans (by decide +kernel)
theorem d_L_law_156 : decode (mC M_L_law) 156 = .ok (.iload 4, 2) := (congrArg (fun b => decode b 156) lawc_eq).trans (by decide +kernel)
theorem d_L_law_158 : decode (mC M_L_law) 158 = .ok (.iconst 2, 1) := (congrArg (fun b => decode b 158) lawc_eq).trans (by decide +kernel)
theorem d_L_law_159 : decode (mC M_L_law) 159 = .ok (.iadd, 1) := (congrArg (fun b => decode b 159) lawc_eq).trans (by decide +kernel)
theorem d_L_law_160 : decode (mC M_L_law) 160 = .ok (.iaload, 1) := (congrArg (fun b => decode b 160) lawc_eq).trans (by decide +kernel)
theorem d_L_law_161 : decode (mC M_L_law) 161 = .ok (.aload_n 0, 1) := (congrArg (fun b => decode b 161) lawc_eq).trans (by decide +kernel)
theorem d_L_law_162 : decode (mC M_L_law) 162 = .ok (.iload 4, 2) := (congrArg (fun b => decode b 162) lawc_eq).trans (by decide +kernel)
theorem d_L_law_164 : decode (mC M_L_law) 164 = .ok (.iconst 3, 1) := (congrArg (fun b => decode b 164) lawc_eq).trans (by decide +kernel)
theorem d_L_law_165 : decode (mC M_L_law) 165 = .ok (.iadd, 1) := (congrArg (fun b => decode b 165) lawc_eq).trans (by decide +kernel)
theorem d_L_law_166 : decode (mC M_L_law) 166 = .ok (.iaload, 1) := (congrArg (fun b => decode b 166) lawc_eq).trans (by decide +kernel)
theorem d_L_law_167 : decode (mC M_L_law) 167 = .ok (.aload_n 0, 1) := (congrArg (fun b => decode b 167) lawc_eq).trans (by decide +kernel)
theorem d_L_law_168 : decode (mC M_L_law) 168 = .ok (.iload 4, 2) := (congrArg (fun b => decode b 168) lawc_eq).trans (by decide +kernel)
theorem d_L_law_170 : decode (mC M_L_law) 170 = .ok (.iconst 4, 1) := (congrArg (fun b => decode b 170) lawc_eq).trans (by decide +kernel)
theorem d_L_law_171 : decode (mC M_L_law) 171 = .ok (.iadd, 1) := (congrArg (fun b => decode b 171) lawc_eq).trans (by decide +kernel)
theorem d_L_law_172 : decode (mC M_L_law) 172 = .ok (.iaload, 1) := (congrArg (fun b => decode b 172) lawc_eq).trans (by decide +kernel)
theorem d_L_law_173 : decode (mC M_L_law) 173 = .ok (.aload_n 0, 1) := (congrArg (fun b => decode b 173) lawc_eq).trans (by decide +kernel)
theorem d_L_law_174 : decode (mC M_L_law) 174 = .ok (.iload 4, 2) := (congrArg (fun b => decode b 174) lawc_eq).trans (by decide +kernel)
theorem d_L_law_176 : decode (mC M_L_law) 176 = .ok (.iconst 5, 1) := (congrArg (fun b => decode b 176) lawc_eq).trans (by decide +kernel)
theorem d_L_law_177 : decode (mC M_L_law) 177 = .ok (.iadd, 1) := (congrArg (fun b => decode b 177) lawc_eq).trans (by decide +kernel)
theorem d_L_law_178 : decode (mC M_L_law) 178 = .ok (.iaload, 1) := (congrArg (fun b => decode b 178) lawc_eq).trans (by decide +kernel)
theorem d_L_law_179 : decode (mC M_L_law) 179 = .ok (.invokevirtual 19, 3) := (congrArg (fun b => decode b 179) lawc_eq).trans (by decide +kernel)
theorem d_L_law_182 : decode (mC M_L_law) 182 = .ok (.aload_n 2, 1) := (congrArg (fun b => decode b 182) lawc_eq).trans (by decide +kernel)
theorem d_L_law_183 : decode (mC M_L_law) 183 = .ok (.aload_n 0, 1) := (congrArg (fun b => decode b 183) lawc_eq).trans (by decide +kernel)
theorem d_L_law_184 : decode (mC M_L_law) 184 = .ok (.iload 4, 2) := (congrArg (fun b => decode b 184) lawc_eq).trans (by decide +kernel)
theorem d_L_law_186 : decode (mC M_L_law) 186 = .ok (.iconst 1, 1) := (congrArg (fun b => decode b 186) lawc_eq).trans (by decide +kernel)
theorem d_L_law_187 : decode (mC M_L_law) 187 = .ok (.iadd, 1) := (congrArg (fun b => decode b 187) lawc_eq).trans (by decide +kernel)
theorem d_L_law_188 : decode (mC M_L_law) 188 = .ok (.iaload, 1) := (congrArg (fun b => decode b 188) lawc_eq).trans (by decide +kernel)
theorem d_L_law_189 : decode (mC M_L_law) 189 = .ok (.aload_n 0, 1) := (congrArg (fun b => decode b 189) lawc_eq).trans (by decide +kernel)
theorem d_L_law_190 : decode (mC M_L_law) 190 = .ok (.iload 4, 2) := (congrArg (fun b => decode b 190) lawc_eq).trans (by decide +kernel)
theorem d_L_law_192 : decode (mC M_L_law) 192 = .ok (.iconst 2, 1) := (congrArg (fun b => decode b 192) lawc_eq).trans (by decide +kernel)
theorem d_L_law_193 : decode (mC M_L_law) 193 = .ok (.iadd, 1) := (congrArg (fun b => decode b 193) lawc_eq).trans (by decide +kernel)
theorem d_L_law_194 : decode (mC M_L_law) 194 = .ok (.iaload, 1) := (congrArg (fun b => decode b 194) lawc_eq).trans (by decide +kernel)
theorem d_L_law_195 : decode (mC M_L_law) 195 = .ok (.aload_n 0, 1) := (congrArg (fun b => decode b 195) lawc_eq).trans (by decide +kernel)
theorem d_L_law_196 : decode (mC M_L_law) 196 = .ok (.iload 4, 2) := (congrArg (fun b => decode b 196) lawc_eq).trans (by decide +kernel)
theorem d_L_law_198 : decode (mC M_L_law) 198 = .ok (.iconst 3, 1) := (congrArg (fun b => decode b 198) lawc_eq).trans (by decide +kernel)
theorem d_L_law_199 : decode (mC M_L_law) 199 = .ok (.iadd, 1) := (congrArg (fun b => decode b 199) lawc_eq).trans (by decide +kernel)
theorem d_L_law_200 : decode (mC M_L_law) 200 = .ok (.iaload, 1) := (congrArg (fun b => decode b 200) lawc_eq).trans (by decide +kernel)
theorem d_L_law_201 : decode (mC M_L_law) 201 = .ok (.aload_n 0, 1) := (congrArg (fun b => decode b 201) lawc_eq).trans (by decide +kernel)
theorem d_L_law_202 : decode (mC M_L_law) 202 = .ok (.iload 4, 2) := (congrArg (fun b => decode b 202) lawc_eq).trans (by decide +kernel)
theorem d_L_law_204 : decode (mC M_L_law) 204 = .ok (.iconst 4, 1) := (congrArg (fun b => decode b 204) lawc_eq).trans (by decide +kernel)
theorem d_L_law_205 : decode (mC M_L_law) 205 = .ok (.iadd, 1) := (congrArg (fun b => decode b 205) lawc_eq).trans (by decide +kernel)
theorem d_L_law_206 : decode (mC M_L_law) 206 = .ok (.iaload, 1) := (congrArg (fun b => decode b 206) lawc_eq).trans (by decide +kernel)
theorem d_L_law_207 : decode (mC M_L_law) 207 = .ok (.aload_n 0, 1) := (congrArg (fun b => decode b 207) lawc_eq).trans (by decide +kernel)
theorem d_L_law_208 : decode (mC M_L_law) 208 = .ok (.iload 4, 2) := (congrArg (fun b => decode b 208) lawc_eq).trans (by decide +kernel)
theorem d_L_law_210 : decode (mC M_L_law) 210 = .ok (.iconst 5, 1) := (congrArg (fun b => decode b 210) lawc_eq).trans (by decide +kernel)
theorem d_L_law_211 : decode (mC M_L_law) 211 = .ok (.iadd, 1) := (congrArg (fun b => decode b 211) lawc_eq).trans (by decide +kernel)
theorem d_L_law_212 : decode (mC M_L_law) 212 = .ok (.iaload, 1) := (congrArg (fun b => decode b 212) lawc_eq).trans (by decide +kernel)
theorem d_L_law_213 : decode (mC M_L_law) 213 = .ok (.invokevirtual 23, 3) := (congrArg (fun b => decode b 213) lawc_eq).trans (by decide +kernel)
theorem d_L_law_216 : decode (mC M_L_law) 216 = .ok (.if_icmp .eq 783, 3) := (congrArg (fun b => decode b 216) lawc_eq).trans (by decide +kernel)
theorem d_L_law_219 : decode (mC M_L_law) 219 = .ok (.iconst 0, 1) := (congrArg (fun b => decode b 219) lawc_eq).trans (by decide +kernel)
theorem d_L_law_220 : decode (mC M_L_law) 220 = .ok (.ireturn, 1) := (congrArg (fun b => decode b 220) lawc_eq).trans (by decide +kernel)
theorem d_L_law_221 : decode (mC M_L_law) 221 = .ok (.aload_n 1, 1) := (congrArg (fun b => decode b 221) lawc_eq).trans (by decide +kernel)
theorem d_L_law_222 : decode (mC M_L_law) 222 = .ok (.aload_n 0, 1) := (congrArg (fun b => decode b 222) lawc_eq).trans (by decide +kernel)
theorem d_L_law_223 : decode (mC M_L_law) 223 = .ok (.iload 4, 2) := (congrArg (fun b => decode b 223) lawc_eq).trans (by decide +kernel)
theorem d_L_law_225 : decode (mC M_L_law) 225 = .ok (.iconst 1, 1) := (congrArg (fun b => decode b 225) lawc_eq).trans (by decide +kernel)
theorem d_L_law_226 : decode (mC M_L_law) 226 = .ok (.iadd, 1) := (congrArg (fun b => decode b 226) lawc_eq).trans (by decide +kernel)
theorem d_L_law_227 : decode (mC M_L_law) 227 = .ok (.iaload, 1) := (congrArg (fun b => decode b 227) lawc_eq).trans (by decide +kernel)
theorem d_L_law_228 : decode (mC M_L_law) 228 = .ok (.aload_n 0, 1) := (congrArg (fun b => decode b 228) lawc_eq).trans (by decide +kernel)
theorem d_L_law_229 : decode (mC M_L_law) 229 = .ok (.iload 4, 2) := (congrArg (fun b => decode b 229) lawc_eq).trans (by decide +kernel)
theorem d_L_law_231 : decode (mC M_L_law) 231 = .ok (.iconst 2, 1) := (congrArg (fun b => decode b 231) lawc_eq).trans (by decide +kernel)
theorem d_L_law_232 : decode (mC M_L_law) 232 = .ok (.iadd, 1) := (congrArg (fun b => decode b 232) lawc_eq).trans (by decide +kernel)
theorem d_L_law_233 : decode (mC M_L_law) 233 = .ok (.iaload, 1) := (congrArg (fun b => decode b 233) lawc_eq).trans (by decide +kernel)
theorem d_L_law_234 : decode (mC M_L_law) 234 = .ok (.ifCond .eq 7, 3) := (congrArg (fun b => decode b 234) lawc_eq).trans (by decide +kernel)
theorem d_L_law_237 : decode (mC M_L_law) 237 = .ok (.iconst 1, 1) := (congrArg (fun b => decode b 237) lawc_eq).trans (by decide +kernel)
theorem d_L_law_238 : decode (mC M_L_law) 238 = .ok (.goto 4, 3) := (congrArg (fun b => decode b 238) lawc_eq).trans (by decide +kernel)
theorem d_L_law_241 : decode (mC M_L_law) 241 = .ok (.iconst 0, 1) := (congrArg (fun b => decode b 241) lawc_eq).trans (by decide +kernel)
theorem d_L_law_242 : decode (mC M_L_law) 242 = .ok (.invokevirtual 24, 3) := (congrArg (fun b => decode b 242) lawc_eq).trans (by decide +kernel)
theorem d_L_law_245 : decode (mC M_L_law) 245 = .ok (.aload_n 2, 1) := (congrArg (fun b => decode b 245) lawc_eq).trans (by decide +kernel)
theorem d_L_law_246 : decode (mC M_L_law) 246 = .ok (.aload_n 0, 1) := (congrArg (fun b => decode b 246) lawc_eq).trans (by decide +kernel)
theorem d_L_law_247 : decode (mC M_L_law) 247 = .ok (.iload 4, 2) := (congrArg (fun b => decode b 247) lawc_eq).trans (by decide +kernel)
theorem d_L_law_249 : decode (mC M_L_law) 249 = .ok (.iconst 1, 1) := (congrArg (fun b => decode b 249) lawc_eq).trans (by decide +kernel)
theorem d_L_law_250 : decode (mC M_L_law) 250 = .ok (.iadd, 1) := (congrArg (fun b => decode b 250) lawc_eq).trans (by decide +kernel)
theorem d_L_law_251 : decode (mC M_L_law) 251 = .ok (.iaload, 1) := (congrArg (fun b => decode b 251) lawc_eq).trans (by decide +kernel)
theorem d_L_law_252 : decode (mC M_L_law) 252 = .ok (.aload_n 0, 1) := (congrArg (fun b => decode b 252) lawc_eq).trans (by decide +kernel)
theorem d_L_law_253 : decode (mC M_L_law) 253 = .ok (.iload 4, 2) := (congrArg (fun b => decode b 253) lawc_eq).trans (by decide +kernel)
theorem d_L_law_255 : decode (mC M_L_law) 255 = .ok (.iconst 2, 1) := (congrArg (fun b => decode b 255) lawc_eq).trans (by decide +kernel)
theorem d_L_law_256 : decode (mC M_L_law) 256 = .ok (.iadd, 1) := (congrArg (fun b => decode b 256) lawc_eq).trans (by decide +kernel)
theorem d_L_law_257 : decode (mC M_L_law) 257 = .ok (.iaload, 1) := (congrArg (fun b => decode b 257) lawc_eq).trans (by decide +kernel)
theorem d_L_law_258 : decode (mC M_L_law) 258 = .ok (.ifCond .eq 7, 3) := (congrArg (fun b => decode b 258) lawc_eq).trans (by decide +kernel)
theorem d_L_law_261 : decode (mC M_L_law) 261 = .ok (.iconst 1, 1) := (congrArg (fun b => decode b 261) lawc_eq).trans (by decide +kernel)
theorem d_L_law_262 : decode (mC M_L_law) 262 = .ok (.goto 4, 3) := (congrArg (fun b => decode b 262) lawc_eq).trans (by decide +kernel)
theorem d_L_law_265 : decode (mC M_L_law) 265 = .ok (.iconst 0, 1) := (congrArg (fun b => decode b 265) lawc_eq).trans (by decide +kernel)
theorem d_L_law_266 : decode (mC M_L_law) 266 = .ok (.invokevirtual 28, 3) := (congrArg (fun b => decode b 266) lawc_eq).trans (by decide +kernel)
theorem d_L_law_269 : decode (mC M_L_law) 269 = .ok (.if_icmp .eq 730, 3) := (congrArg (fun b => decode b 269) lawc_eq).trans (by decide +kernel)
theorem d_L_law_272 : decode (mC M_L_law) 272 = .ok (.iconst 0, 1) := (congrArg (fun b => decode b 272) lawc_eq).trans (by decide +kernel)
theorem d_L_law_273 : decode (mC M_L_law) 273 = .ok (.ireturn, 1) := (congrArg (fun b => decode b 273) lawc_eq).trans (by decide +kernel)
theorem d_L_law_274 : decode (mC M_L_law) 274 = .ok (.aload_n 1, 1) := (congrArg (fun b => decode b 274) lawc_eq).trans (by decide +kernel)
theorem d_L_law_275 : decode (mC M_L_law) 275 = .ok (.aload_n 0, 1) := (congrArg (fun b => decode b 275) lawc_eq).trans (by decide +kernel)
theorem d_L_law_276 : decode (mC M_L_law) 276 = .ok (.iload 4, 2) := (congrArg (fun b => decode b 276) lawc_eq).trans (by decide +kernel)
theorem d_L_law_278 : decode (mC M_L_law) 278 = .ok (.iconst 1, 1) := (congrArg (fun b => decode b 278) lawc_eq).trans (by decide +kernel)
theorem d_L_law_279 : decode (mC M_L_law) 279 = .ok (.iadd, 1) := (congrArg (fun b => decode b 279) lawc_eq).trans (by decide +kernel)
theorem d_L_law_280 : decode (mC M_L_law) 280 = .ok (.iaload, 1) := (congrArg (fun b => decode b 280) lawc_eq).trans (by decide +kernel)
theorem d_L_law_281 : decode (mC M_L_law) 281 = .ok (.aload_n 0, 1) := (congrArg (fun b => decode b 281) lawc_eq).trans (by decide +kernel)
theorem d_L_law_282 : decode (mC M_L_law) 282 = .ok (.iload 4, 2) := (congrArg (fun b => decode b 282) lawc_eq).trans (by decide +kernel)
theorem d_L_law_284 : decode (mC M_L_law) 284 = .ok (.iconst 2, 1) := (congrArg (fun b => decode b 284) lawc_eq).trans (by decide +kernel)
theorem d_L_law_285 : decode (mC M_L_law) 285 = .ok (.iadd, 1) := (congrArg (fun b => decode b 285) lawc_eq).trans (by decide +kernel)
theorem d_L_law_286 : decode (mC M_L_law) 286 = .ok (.iaload, 1) := (congrArg (fun b => decode b 286) lawc_eq).trans (by decide +kernel)
theorem d_L_law_287 : decode (mC M_L_law) 287 = .ok (.aload_n 0, 1) := (congrArg (fun b => decode b 287) lawc_eq).trans (by decide +kernel)
theorem d_L_law_288 : decode (mC M_L_law) 288 = .ok (.iload 4, 2) := (congrArg (fun b => decode b 288) lawc_eq).trans (by decide +kernel)
theorem d_L_law_290 : decode (mC M_L_law) 290 = .ok (.iconst 3, 1) := (congrArg (fun b => decode b 290) lawc_eq).trans (by decide +kernel)
theorem d_L_law_291 : decode (mC M_L_law) 291 = .ok (.iadd, 1) := (congrArg (fun b => decode b 291) lawc_eq).trans (by decide +kernel)
theorem d_L_law_292 : decode (mC M_L_law) 292 = .ok (.iaload, 1) := (congrArg (fun b => decode b 292) lawc_eq).trans (by decide +kernel)
theorem d_L_law_293 : decode (mC M_L_law) 293 = .ok (.aload_n 0, 1) := (congrArg (fun b => decode b 293) lawc_eq).trans (by decide +kernel)
theorem d_L_law_294 : decode (mC M_L_law) 294 = .ok (.iload 4, 2) := (congrArg (fun b => decode b 294) lawc_eq).trans (by decide +kernel)
theorem d_L_law_296 : decode (mC M_L_law) 296 = .ok (.iconst 4, 1) := (congrArg (fun b => decode b 296) lawc_eq).trans (by decide +kernel)
theorem d_L_law_297 : decode (mC M_L_law) 297 = .ok (.iadd, 1) := (congrArg (fun b => decode b 297) lawc_eq).trans (by decide +kernel)
theorem d_L_law_298 : decode (mC M_L_law) 298 = .ok (.iaload, 1) := (congrArg (fun b => decode b 298) lawc_eq).trans (by decide +kernel)
theorem d_L_law_299 : decode (mC M_L_law) 299 = .ok (.aload_n 0, 1) := (congrArg (fun b => decode b 299) lawc_eq).trans (by decide +kernel)
theorem d_L_law_300 : decode (mC M_L_law) 300 = .ok (.iload 4, 2) := (congrArg (fun b => decode b 300) lawc_eq).trans (by decide +kernel)
theorem d_L_law_302 : decode (mC M_L_law) 302 = .ok (.iconst 5, 1) := (congrArg (fun b => decode b 302) lawc_eq).trans (by decide +kernel)
theorem d_L_law_303 : decode (mC M_L_law) 303 = .ok (.iadd, 1) := (congrArg (fun b => decode b 303) lawc_eq).trans (by decide +kernel)
theorem d_L_law_304 : decode (mC M_L_law) 304 = .ok (.iaload, 1) := (congrArg (fun b => decode b 304) lawc_eq).trans (by decide +kernel)
theorem d_L_law_305 : decode (mC M_L_law) 305 = .ok (.invokevirtual 29, 3) := (congrArg (fun b => decode b 305) lawc_eq).trans (by decide +kernel)
theorem d_L_law_308 : decode (mC M_L_law) 308 = .ok (.aload_n 2, 1) := (congrArg (fun b => decode b 308) lawc_eq).trans (by decide +kernel)
theorem d_L_law_309 : decode (mC M_L_law) 309 = .ok (.aload_n 0, 1) := (congrArg (fun b => decode b 309) lawc_eq).trans (by decide +kernel)
theorem d_L_law_310 : decode (mC M_L_law) 310 = .ok (.iload 4, 2) := (congrArg (fun b => decode b 310) lawc_eq).trans (by decide +kernel)
theorem d_L_law_312 : decode (mC M_L_law) 312 = .ok (.iconst 1, 1) := (congrArg (fun b => decode b 312) lawc_eq).trans (by decide +kernel)
theorem d_L_law_313 : decode (mC M_L_law) 313 = .ok (.iadd, 1) := (congrArg (fun b => decode b 313) lawc_eq).trans (by decide +kernel)
theorem d_L_law_314 : decode (mC M_L_law) 314 = .ok (.iaload, 1) := (congrArg (fun b => decode b 314) lawc_eq).trans (by decide +kernel)
theorem d_L_law_315 : decode (mC M_L_law) 315 = .ok (.aload_n 0, 1) := (congrArg (fun b => decode b 315) lawc_eq).trans (by decide +kernel)
theorem d_L_law_316 : decode (mC M_L_law) 316 = .ok (.iload 4, 2) := (congrArg (fun b => decode b 316) lawc_eq).trans (by decide +kernel)
theorem d_L_law_318 : decode (mC M_L_law) 318 = .ok (.iconst 2, 1) := (congrArg (fun b => decode b 318) lawc_eq).trans (by decide +kernel)
theorem d_L_law_319 : decode (mC M_L_law) 319 = .ok (.iadd, 1) := (congrArg (fun b => decode b 319) lawc_eq).trans (by decide +kernel)
theorem d_L_law_320 : decode (mC M_L_law) 320 = .ok (.iaload, 1) := (congrArg (fun b => decode b 320) lawc_eq).trans (by decide +kernel)
theorem d_L_law_321 : decode (mC M_L_law) 321 = .ok (.aload_n 0, 1) := (congrArg (fun b => decode b 321) lawc_eq).trans (by decide +kernel)
theorem d_L_law_322 : decode (mC M_L_law) 322 = .ok (.iload 4, 2) := (congrArg (fun b => decode b 322) lawc_eq).trans (by decide +kernel)
theorem d_L_law_324 : decode (mC M_L_law) 324 = .ok (.iconst 3, 1) := (congrArg (fun b => decode b 324) lawc_eq).trans (by decide +kernel)
theorem d_L_law_325 : decode (mC M_L_law) 325 = .ok (.iadd, 1) := (congrArg (fun b => decode b 325) lawc_eq).trans (by decide +kernel)
theorem d_L_law_326 : decode (mC M_L_law) 326 = .ok (.iaload, 1) := (congrArg (fun b => decode b 326) lawc_eq).trans (by decide +kernel)
theorem d_L_law_327 : decode (mC M_L_law) 327 = .ok (.aload_n 0, 1) := (congrArg (fun b => decode b 327) lawc_eq).trans (by decide +kernel)
theorem d_L_law_328 : decode (mC M_L_law) 328 = .ok (.iload 4, 2) := (congrArg (fun b => decode b 328) lawc_eq).trans (by decide +kernel)
theorem d_L_law_330 : decode (mC M_L_law) 330 = .ok (.iconst 4, 1) := (congrArg (fun b => decode b 330) lawc_eq).trans (by decide +kernel)
theorem d_L_law_331 : decode (mC M_L_law) 331 = .ok (.iadd, 1) := (congrArg (fun b => decode b 331) lawc_eq).trans (by decide +kernel)
theorem d_L_law_332 : decode (mC M_L_law) 332 = .ok (.iaload, 1) := (congrArg (fun b => decode b 332) lawc_eq).trans (by decide +kernel)
theorem d_L_law_333 : decode (mC M_L_law) 333 = .ok (.aload_n 0, 1) := (congrArg (fun b => decode b 333) lawc_eq).trans (by decide +kernel)
theorem d_L_law_334 : decode (mC M_L_law) 334 = .ok (.iload 4, 2) := (congrArg (fun b => decode b 334) lawc_eq).trans (by decide +kernel)
theorem d_L_law_336 : decode (mC M_L_law) 336 = .ok (.iconst 5, 1) := (congrArg (fun b => decode b 336) lawc_eq).trans (by decide +kernel)
theorem d_L_law_337 : decode (mC M_L_law) 337 = .ok (.iadd, 1) := (congrArg (fun b => decode b 337) lawc_eq).trans (by decide +kernel)
theorem d_L_law_338 : decode (mC M_L_law) 338 = .ok (.iaload, 1) := (congrArg (fun b => decode b 338) lawc_eq).trans (by decide +kernel)
theorem d_L_law_339 : decode (mC M_L_law) 339 = .ok (.invokevirtual 32, 3) := (congrArg (fun b => decode b 339) lawc_eq).trans (by decide +kernel)
theorem d_L_law_342 : decode (mC M_L_law) 342 = .ok (.if_icmp .eq 657, 3) := (congrArg (fun b => decode b 342) lawc_eq).trans (by decide +kernel)
theorem d_L_law_345 : decode (mC M_L_law) 345 = .ok (.iconst 0, 1) := (congrArg (fun b => decode b 345) lawc_eq).trans (by decide +kernel)
theorem d_L_law_346 : decode (mC M_L_law) 346 = .ok (.ireturn, 1) := (congrArg (fun b => decode b 346) lawc_eq).trans (by decide +kernel)
theorem d_L_law_347 : decode (mC M_L_law) 347 = .ok (.aload_n 1, 1) := (congrArg (fun b => decode b 347) lawc_eq).trans (by decide +kernel)
theorem d_L_law_348 : decode (mC M_L_law) 348 = .ok (.aload_n 0, 1) := (congrArg (fun b => decode b 348) lawc_eq).trans (by decide +kernel)
theorem d_L_law_349 : decode (mC M_L_law) 349 = .ok (.iload 4, 2) := (congrArg (fun b => decode b 349) lawc_eq).trans (by decide +kernel)
theorem d_L_law_351 : decode (mC M_L_law) 351 = .ok (.iconst 1, 1) := (congrArg (fun b => decode b 351) lawc_eq).trans (by decide +kernel)
theorem d_L_law_352 : decode (mC M_L_law) 352 = .ok (.iadd, 1) := (congrArg (fun b => decode b 352) lawc_eq).trans (by decide +kernel)
theorem d_L_law_353 : decode (mC M_L_law) 353 = .ok (.iaload, 1) := (congrArg (fun b => decode b 353) lawc_eq).trans (by decide +kernel)
theorem d_L_law_354 : decode (mC M_L_law) 354 = .ok (.invokevirtual 33, 3) := (congrArg (fun b => decode b 354) lawc_eq).trans (by decide +kernel)
theorem d_L_law_357 : decode (mC M_L_law) 357 = .ok (.aload_n 2, 1) := (congrArg (fun b => decode b 357) lawc_eq).trans (by decide +kernel)
theorem d_L_law_358 : decode (mC M_L_law) 358 = .ok (.aload_n 0, 1) := (congrArg (fun b => decode b 358) lawc_eq).trans (by decide +kernel)
theorem d_L_law_359 : decode (mC M_L_law) 359 = .ok (.iload 4, 2) := (congrArg (fun b => decode b 359) lawc_eq).trans (by decide +kernel)
theorem d_L_law_361 : decode (mC M_L_law) 361 = .ok (.iconst 1, 1) := (congrArg (fun b => decode b 361) lawc_eq).trans (by decide +kernel)
theorem d_L_law_362 : decode (mC M_L_law) 362 = .ok (.iadd, 1) := (congrArg (fun b => decode b 362) lawc_eq).trans (by decide +kernel)
theorem d_L_law_363 : decode (mC M_L_law) 363 = .ok (.iaload, 1) := (congrArg (fun b => decode b 363) lawc_eq).trans (by decide +kernel)
theorem d_L_law_364 : decode (mC M_L_law) 364 = .ok (.invokevirtual 37, 3) := (congrArg (fun b => decode b 364) lawc_eq).trans (by decide +kernel)
theorem d_L_law_367 : decode (mC M_L_law) 367 = .ok (.if_icmp .eq 632, 3) := (congrArg (fun b => decode b 367) lawc_eq).trans (by decide +kernel)
theorem d_L_law_370 : decode (mC M_L_law) 370 = .ok (.iconst 0, 1) := (congrArg (fun b => decode b 370) lawc_eq).trans (by decide +kernel)
theorem d_L_law_371 : decode (mC M_L_law) 371 = .ok (.ireturn, 1) := (congrArg (fun b => decode b 371) lawc_eq).trans (by decide +kernel)
theorem d_L_law_372 : decode (mC M_L_law) 372 = .ok (.aload_n 1, 1) := (congrArg (fun b => decode b 372) lawc_eq).trans (by decide +kernel)
theorem d_L_law_373 : decode (mC M_L_law) 373 = .ok (.invokevirtual 38, 3) := (congrArg (fun b => decode b 373) lawc_eq).trans (by decide +kernel)
theorem d_L_law_376 : decode (mC M_L_law) 376 = .ok (.aload_n 2, 1) := (congrArg (fun b => decode b 376) lawc_eq).trans (by decide +kernel)
theorem d_L_law_377 : decode (mC M_L_law) 377 = .ok (.invokevirtual 42, 3) := (congrArg (fun b => decode b 377) lawc_eq).trans (by decide +kernel)
theorem d_L_law_380 : decode (mC M_L_law) 380 = .ok (.if_icmp .eq 619, 3) := (congrArg (fun b => decode b 380) lawc_eq).trans (by decide +kernel)
theorem d_L_law_383 : decode (mC M_L_law) 383 = .ok (.iconst 0, 1) := (congrArg (fun b => decode b 383) lawc_eq).trans (by decide +kernel)
theorem d_L_law_384 : decode (mC M_L_law) 384 = .ok (.ireturn, 1) := (congrArg (fun b => decode b 384) lawc_eq).trans (by decide +kernel)
theorem d_L_law_385 : decode (mC M_L_law) 385 = .ok (.aload_n 1, 1) := (congrArg (fun b => decode b 385) lawc_eq).trans (by decide +kernel)
theorem d_L_law_386 : decode (mC M_L_law) 386 = .ok (.invokevirtual 43, 3) := (congrArg (fun b => decode b 386) lawc_eq).trans (by decide +kernel)
theorem d_L_law_389 : decode (mC M_L_law) 389 = .ok (.aload_n 2, 1) := (congrArg (fun b => decode b 389) lawc_eq).trans (by decide +kernel)
theorem d_L_law_390 : decode (mC M_L_law) 390 = .ok (.invokevirtual 46, 3) := (congrArg (fun b => decode b 390) lawc_eq).trans (by decide +kernel)
theorem d_L_law_393 : decode (mC M_L_law) 393 = .ok (.if_icmp .eq 606, 3) := (congrArg (fun b => decode b 393) lawc_eq).trans (by decide +kernel)
theorem d_L_law_396 : decode (mC M_L_law) 396 = .ok (.iconst 0, 1) := (congrArg (fun b => decode b 396) lawc_eq).trans (by decide +kernel)
theorem d_L_law_397 : decode (mC M_L_law) 397 = .ok (.ireturn, 1) := (congrArg (fun b => decode b 397) lawc_eq).trans (by decide +kernel)
theorem d_L_law_398 : decode (mC M_L_law) 398 = .ok (.aload_n 1, 1) := (congrArg (fun b => decode b 398) lawc_eq).trans (by decide +kernel)
theorem d_L_law_399 : decode (mC M_L_law) 399 = .ok (.invokevirtual 47, 3) := (congrArg (fun b => decode b 399) lawc_eq).trans (by decide +kernel)
theorem d_L_law_402 : decode (mC M_L_law) 402 = .ok (.aload_n 2, 1) := (congrArg (fun b => decode b 402) lawc_eq).trans (by decide +kernel)
theorem d_L_law_403 : decode (mC M_L_law) 403 = .ok (.invokevirtual 50, 3) := (congrArg (fun b => decode b 403) lawc_eq).trans (by decide +kernel)
theorem d_L_law_406 : decode (mC M_L_law) 406 = .ok (.if_icmp .eq 593, 3) := (congrArg (fun b => decode b 406) lawc_eq).trans (by decide +kernel)
theorem d_L_law_409 : decode (mC M_L_law) 409 = .ok (.iconst 0, 1) := (congrArg (fun b => decode b 409) lawc_eq).trans (by decide +kernel)
theorem d_L_law_410 : decode (mC M_L_law) 410 = .ok (.ireturn, 1) := (congrArg (fun b => decode b 410) lawc_eq).trans (by decide +kernel)
theorem d_L_law_411 : decode (mC M_L_law) 411 = .ok (.aload_n 1, 1) := (congrArg (fun b => decode b 411) lawc_eq).trans (by decide +kernel)
theorem d_L_law_412 : decode (mC M_L_law) 412 = .ok (.aload_n 0, 1) := (congrArg (fun b => decode b 412) lawc_eq).trans (by decide +kernel)
theorem d_L_law_413 : decode (mC M_L_law) 413 = .ok (.iload 4, 2) := (congrArg (fun b => decode b 413) lawc_eq).trans (by decide +kernel)
theorem d_L_law_415 : decode (mC M_L_law) 415 = .ok (.iconst 1, 1) := (congrArg (fun b => decode b 415) lawc_eq).trans (by decide +kernel)
theorem d_L_law_416 : decode (mC M_L_law) 416 = .ok (.iadd, 1) := (congrArg (fun b => decode b 416) lawc_eq).trans (by decide +kernel)
theorem d_L_law_417 : decode (mC M_L_law) 417 = .ok (.iaload, 1) := (congrArg (fun b => decode b 417) lawc_eq).trans (by decide +kernel)
theorem d_L_law_418 : decode (mC M_L_law) 418 = .ok (.aload_n 0, 1) := (congrArg (fun b => decode b 418) lawc_eq).trans (by decide +kernel)
theorem d_L_law_419 : decode (mC M_L_law) 419 = .ok (.iload 4, 2) := (congrArg (fun b => decode b 419) lawc_eq).trans (by decide +kernel)
theorem d_L_law_421 : decode (mC M_L_law) 421 = .ok (.iconst 2, 1) := (congrArg (fun b => decode b 421) lawc_eq).trans (by decide +kernel)
theorem d_L_law_422 : decode (mC M_L_law) 422 = .ok (.iadd, 1) := (congrArg (fun b => decode b 422) lawc_eq).trans (by decide +kernel)
theorem d_L_law_423 : decode (mC M_L_law) 423 = .ok (.iaload, 1) := (congrArg (fun b => decode b 423) lawc_eq).trans (by decide +kernel)
theorem d_L_law_424 : decode (mC M_L_law) 424 = .ok (.aload_n 0, 1) := (congrArg (fun b => decode b 424) lawc_eq).trans (by decide +kernel)
theorem d_L_law_425 : decode (mC M_L_law) 425 = .ok (.iload 4, 2) := (congrArg (fun b => decode b 425) lawc_eq).trans (by decide +kernel)
theorem d_L_law_427 : decode (mC M_L_law) 427 = .ok (.iconst 3, 1) := (congrArg (fun b => decode b 427) lawc_eq).trans (by decide +kernel)
theorem d_L_law_428 : decode (mC M_L_law) 428 = .ok (.iadd, 1) := (congrArg (fun b => decode b 428) lawc_eq).trans (by decide +kernel)
theorem d_L_law_429 : decode (mC M_L_law) 429 = .ok (.iaload, 1) := (congrArg (fun b => decode b 429) lawc_eq).trans (by decide +kernel)
theorem d_L_law_430 : decode (mC M_L_law) 430 = .ok (.invokevirtual 51, 3) := (congrArg (fun b => decode b 430) lawc_eq).trans (by decide +kernel)
theorem d_L_law_433 : decode (mC M_L_law) 433 = .ok (.aload_n 2, 1) := (congrArg (fun b => decode b 433) lawc_eq).trans (by decide +kernel)
theorem d_L_law_434 : decode (mC M_L_law) 434 = .ok (.aload_n 0, 1) := (congrArg (fun b => decode b 434) lawc_eq).trans (by decide +kernel)
theorem d_L_law_435 : decode (mC M_L_law) 435 = .ok (.iload 4, 2) := (congrArg (fun b => decode b 435) lawc_eq).trans (by decide +kernel)
theorem d_L_law_437 : decode (mC M_L_law) 437 = .ok (.iconst 1, 1) := (congrArg (fun b => decode b 437) lawc_eq).trans (by decide +kernel)
theorem d_L_law_438 : decode (mC M_L_law) 438 = .ok (.iadd, 1) := (congrArg (fun b => decode b 438) lawc_eq).trans (by decide +kernel)
theorem d_L_law_439 : decode (mC M_L_law) 439 = .ok (.iaload, 1) := (congrArg (fun b => decode b 439) lawc_eq).trans (by decide +kernel)
theorem d_L_law_440 : decode (mC M_L_law) 440 = .ok (.aload_n 0, 1) := (congrArg (fun b => decode b 440) lawc_eq).trans (by decide +kernel)
theorem d_L_law_441 : decode (mC M_L_law) 441 = .ok (.iload 4, 2) := (congrArg (fun b => decode b 441) lawc_eq).trans (by decide +kernel)
theorem d_L_law_443 : decode (mC M_L_law) 443 = .ok (.iconst 2, 1) := (congrArg (fun b => decode b 443) lawc_eq).trans (by decide +kernel)
theorem d_L_law_444 : decode (mC M_L_law) 444 = .ok (.iadd, 1) := (congrArg (fun b => decode b 444) lawc_eq).trans (by decide +kernel)
theorem d_L_law_445 : decode (mC M_L_law) 445 = .ok (.iaload, 1) := (congrArg (fun b => decode b 445) lawc_eq).trans (by decide +kernel)
theorem d_L_law_446 : decode (mC M_L_law) 446 = .ok (.aload_n 0, 1) := (congrArg (fun b => decode b 446) lawc_eq).trans (by decide +kernel)
theorem d_L_law_447 : decode (mC M_L_law) 447 = .ok (.iload 4, 2) := (congrArg (fun b => decode b 447) lawc_eq).trans (by decide +kernel)
theorem d_L_law_449 : decode (mC M_L_law) 449 = .ok (.iconst 3, 1) := (congrArg (fun b => decode b 449) lawc_eq).trans (by decide +kernel)
theorem d_L_law_450 : decode (mC M_L_law) 450 = .ok (.iadd, 1) := (congrArg (fun b => decode b 450) lawc_eq).trans (by decide +kernel)
theorem d_L_law_451 : decode (mC M_L_law) 451 = .ok (.iaload, 1) := (congrArg (fun b => decode b 451) lawc_eq).trans (by decide +kernel)
theorem d_L_law_452 : decode (mC M_L_law) 452 = .ok (.invokevirtual 54, 3) := (congrArg (fun b => decode b 452) lawc_eq).trans (by decide +kernel)
theorem d_L_law_455 : decode (mC M_L_law) 455 = .ok (.if_icmp .eq 544, 3) := (congrArg (fun b => decode b 455) lawc_eq).trans (by decide +kernel)
theorem d_L_law_458 : decode (mC M_L_law) 458 = .ok (.iconst 0, 1) := (congrArg (fun b => decode b 458) lawc_eq).trans (by decide +kernel)
theorem d_L_law_459 : decode (mC M_L_law) 459 = .ok (.ireturn, 1) := (congrArg (fun b => decode b 459) lawc_eq).trans (by decide +kernel)
theorem d_L_law_460 : decode (mC M_L_law) 460 = .ok (.aload_n 1, 1) := (congrArg (fun b => decode b 460) lawc_eq).trans (by decide +kernel)
theorem d_L_law_461 : decode (mC M_L_law) 461 = .ok (.invokevirtual 55, 3) := (congrArg (fun b => decode b 461) lawc_eq).trans (by decide +kernel)
theorem d_L_law_464 : decode (mC M_L_law) 464 = .ok (.aload_n 2, 1) := (congrArg (fun b => decode b 464) lawc_eq).trans (by decide +kernel)
theorem d_L_law_465 : decode (mC M_L_law) 465 = .ok (.invokevirtual 58, 3) := (congrArg (fun b => decode b 465) lawc_eq).trans (by decide +kernel)
theorem d_L_law_468 : decode (mC M_L_law) 468 = .ok (.if_icmp .eq 531, 3) := (congrArg (fun b => decode b 468) lawc_eq).trans (by decide +kernel)
theorem d_L_law_471 : decode (mC M_L_law) 471 = .ok (.iconst 0, 1) := (congrArg (fun b => decode b 471) lawc_eq).trans (by decide +kernel)
theorem d_L_law_472 : decode (mC M_L_law) 472 = .ok (.ireturn, 1) := (congrArg (fun b => decode b 472) lawc_eq).trans (by decide +kernel)
theorem d_L_law_473 : decode (mC M_L_law) 473 = .ok (.aload_n 1, 1) := (congrArg (fun b => decode b 473) lawc_eq).trans (by decide +kernel)
theorem d_L_law_474 : decode (mC M_L_law) 474 = .ok (.aload_n 0, 1) := (congrArg (fun b => decode b 474) lawc_eq).trans (by decide +kernel)
theorem d_L_law_475 : decode (mC M_L_law) 475 = .ok (.iload 4, 2) := (congrArg (fun b => decode b 475) lawc_eq).trans (by decide +kernel)
theorem d_L_law_477 : decode (mC M_L_law) 477 = .ok (.iconst 1, 1) := (congrArg (fun b => decode b 477) lawc_eq).trans (by decide +kernel)
theorem d_L_law_478 : decode (mC M_L_law) 478 = .ok (.iadd, 1) := (congrArg (fun b => decode b 478) lawc_eq).trans (by decide +kernel)
theorem d_L_law_479 : decode (mC M_L_law) 479 = .ok (.iaload, 1) := (congrArg (fun b => decode b 479) lawc_eq).trans (by decide +kernel)
theorem d_L_law_480 : decode (mC M_L_law) 480 = .ok (.invokevirtual 59, 3) := (congrArg (fun b => decode b 480) lawc_eq).trans (by decide +kernel)
theorem d_L_law_483 : decode (mC M_L_law) 483 = .ok (.aload_n 2, 1) := (congrArg (fun b => decode b 483) lawc_eq).trans (by decide +kernel)
theorem d_L_law_484 : decode (mC M_L_law) 484 = .ok (.aload_n 0, 1) := (congrArg (fun b => decode b 484) lawc_eq).trans (by decide +kernel)
theorem d_L_law_485 : decode (mC M_L_law) 485 = .ok (.iload 4, 2) := (congrArg (fun b => decode b 485) lawc_eq).trans (by decide +kernel)
theorem d_L_law_487 : decode (mC M_L_law) 487 = .ok (.iconst 1, 1) := (congrArg (fun b => decode b 487) lawc_eq).trans (by decide +kernel)
theorem d_L_law_488 : decode (mC M_L_law) 488 = .ok (.iadd, 1) := (congrArg (fun b => decode b 488) lawc_eq).trans (by decide +kernel)
theorem d_L_law_489 : decode (mC M_L_law) 489 = .ok (.iaload, 1) := (congrArg (fun b => decode b 489) lawc_eq).trans (by decide +kernel)
theorem d_L_law_490 : decode (mC M_L_law) 490 = .ok (.invokevirtual 62, 3) := (congrArg (fun b => decode b 490) lawc_eq).trans (by decide +kernel)
theorem d_L_law_493 : decode (mC M_L_law) 493 = .ok (.if_icmp .eq 506, 3) := (congrArg (fun b => decode b 493) lawc_eq).trans (by decide +kernel)
theorem d_L_law_496 : decode (mC M_L_law) 496 = .ok (.iconst 0, 1) := (congrArg (fun b => decode b 496) lawc_eq).trans (by decide +kernel)
theorem d_L_law_497 : decode (mC M_L_law) 497 = .ok (.ireturn, 1) := (congrArg (fun b => decode b 497) lawc_eq).trans (by decide +kernel)
theorem d_L_law_498 : decode (mC M_L_law) 498 = .ok (.aload_n 1, 1) := (congrArg (fun b => decode b 498) lawc_eq).trans (by decide +kernel)
theorem d_L_law_499 : decode (mC M_L_law) 499 = .ok (.aload_n 0, 1) := (congrArg (fun b => decode b 499) lawc_eq).trans (by decide +kernel)
theorem d_L_law_500 : decode (mC M_L_law) 500 = .ok (.iload 4, 2) := (congrArg (fun b => decode b 500) lawc_eq).trans (by decide +kernel)
theorem d_L_law_502 : decode (mC M_L_law) 502 = .ok (.iconst 1, 1) := (congrArg (fun b => decode b 502) lawc_eq).trans (by decide +kernel)
theorem d_L_law_503 : decode (mC M_L_law) 503 = .ok (.iadd, 1) := (congrArg (fun b => decode b 503) lawc_eq).trans (by decide +kernel)
theorem d_L_law_504 : decode (mC M_L_law) 504 = .ok (.iaload, 1) := (congrArg (fun b => decode b 504) lawc_eq).trans (by decide +kernel)
theorem d_L_law_505 : decode (mC M_L_law) 505 = .ok (.invokevirtual 63, 3) := (congrArg (fun b => decode b 505) lawc_eq).trans (by decide +kernel)
theorem d_L_law_508 : decode (mC M_L_law) 508 = .ok (.aload_n 2, 1) := (congrArg (fun b => decode b 508) lawc_eq).trans (by decide +kernel)
theorem d_L_law_509 : decode (mC M_L_law) 509 = .ok (.aload_n 0, 1) := (congrArg (fun b => decode b 509) lawc_eq).trans (by decide +kernel)
theorem d_L_law_510 : decode (mC M_L_law) 510 = .ok (.iload 4, 2) := (congrArg (fun b => decode b 510) lawc_eq).trans (by decide +kernel)
theorem d_L_law_512 : decode (mC M_L_law) 512 = .ok (.iconst 1, 1) := (congrArg (fun b => decode b 512) lawc_eq).trans (by decide +kernel)
theorem d_L_law_513 : decode (mC M_L_law) 513 = .ok (.iadd, 1) := (congrArg (fun b => decode b 513) lawc_eq).trans (by decide +kernel)
theorem d_L_law_514 : decode (mC M_L_law) 514 = .ok (.iaload, 1) := (congrArg (fun b => decode b 514) lawc_eq).trans (by decide +kernel)
theorem d_L_law_515 : decode (mC M_L_law) 515 = .ok (.invokevirtual 66, 3) := (congrArg (fun b => decode b 515) lawc_eq).trans (by decide +kernel)
theorem d_L_law_518 : decode (mC M_L_law) 518 = .ok (.if_icmp .eq 481, 3) := (congrArg (fun b => decode b 518) lawc_eq).trans (by decide +kernel)
theorem d_L_law_521 : decode (mC M_L_law) 521 = .ok (.iconst 0, 1) := (congrArg (fun b => decode b 521) lawc_eq).trans (by decide +kernel)
theorem d_L_law_522 : decode (mC M_L_law) 522 = .ok (.ireturn, 1) := (congrArg (fun b => decode b 522) lawc_eq).trans (by decide +kernel)
theorem d_L_law_523 : decode (mC M_L_law) 523 = .ok (.aload_n 1, 1) := (congrArg (fun b => decode b 523) lawc_eq).trans (by decide +kernel)
theorem d_L_law_524 : decode (mC M_L_law) 524 = .ok (.aload_n 0, 1) := (congrArg (fun b => decode b 524) lawc_eq).trans (by decide +kernel)
theorem d_L_law_525 : decode (mC M_L_law) 525 = .ok (.iload 4, 2) := (congrArg (fun b => decode b 525) lawc_eq).trans (by decide +kernel)
theorem d_L_law_527 : decode (mC M_L_law) 527 = .ok (.iconst 1, 1) := (congrArg (fun b => decode b 527) lawc_eq).trans (by decide +kernel)
theorem d_L_law_528 : decode (mC M_L_law) 528 = .ok (.iadd, 1) := (congrArg (fun b => decode b 528) lawc_eq).trans (by decide +kernel)
theorem d_L_law_529 : decode (mC M_L_law) 529 = .ok (.iaload, 1) := (congrArg (fun b => decode b 529) lawc_eq).trans (by decide +kernel)
theorem d_L_law_530 : decode (mC M_L_law) 530 = .ok (.invokevirtual 67, 3) := (congrArg (fun b => decode b 530) lawc_eq).trans (by decide +kernel)
theorem d_L_law_533 : decode (mC M_L_law) 533 = .ok (.aload_n 2, 1) := (congrArg (fun b => decode b 533) lawc_eq).trans (by decide +kernel)
theorem d_L_law_534 : decode (mC M_L_law) 534 = .ok (.aload_n 0, 1) := (congrArg (fun b => decode b 534) lawc_eq).trans (by decide +kernel)
theorem d_L_law_535 : decode (mC M_L_law) 535 = .ok (.iload 4, 2) := (congrArg (fun b => decode b 535) lawc_eq).trans (by decide +kernel)
theorem d_L_law_537 : decode (mC M_L_law) 537 = .ok (.iconst 1, 1) := (congrArg (fun b => decode b 537) lawc_eq).trans (by decide +kernel)
theorem d_L_law_538 : decode (mC M_L_law) 538 = .ok (.iadd, 1) := (congrArg (fun b => decode b 538) lawc_eq).trans (by decide +kernel)
theorem d_L_law_539 : decode (mC M_L_law) 539 = .ok (.iaload, 1) := (congrArg (fun b => decode b 539) lawc_eq).trans (by decide +kernel)
theorem d_L_law_540 : decode (mC M_L_law) 540 = .ok (.invokevirtual 70, 3) := (congrArg (fun b => decode b 540) lawc_eq).trans (by decide +kernel)
theorem d_L_law_543 : decode (mC M_L_law) 543 = .ok (.if_icmp .eq 456, 3) := (congrArg (fun b => decode b 543) lawc_eq).trans (by decide +kernel)
theorem d_L_law_546 : decode (mC M_L_law) 546 = .ok (.iconst 0, 1) := (congrArg (fun b => decode b 546) lawc_eq).trans (by decide +kernel)
theorem d_L_law_547 : decode (mC M_L_law) 547 = .ok (.ireturn, 1) := (congrArg (fun b => decode b 547) lawc_eq).trans (by decide +kernel)
theorem d_L_law_548 : decode (mC M_L_law) 548 = .ok (.aload_n 1, 1) := (congrArg (fun b => decode b 548) lawc_eq).trans (by decide +kernel)
theorem d_L_law_549 : decode (mC M_L_law) 549 = .ok (.aload_n 0, 1) := (congrArg (fun b => decode b 549) lawc_eq).trans (by decide +kernel)
theorem d_L_law_550 : decode (mC M_L_law) 550 = .ok (.iload 4, 2) := (congrArg (fun b => decode b 550) lawc_eq).trans (by decide +kernel)
theorem d_L_law_552 : decode (mC M_L_law) 552 = .ok (.iconst 1, 1) := (congrArg (fun b => decode b 552) lawc_eq).trans (by decide +kernel)
theorem d_L_law_553 : decode (mC M_L_law) 553 = .ok (.iadd, 1) := (congrArg (fun b => decode b 553) lawc_eq).trans (by decide +kernel)
theorem d_L_law_554 : decode (mC M_L_law) 554 = .ok (.iaload, 1) := (congrArg (fun b => decode b 554) lawc_eq).trans (by decide +kernel)
theorem d_L_law_555 : decode (mC M_L_law) 555 = .ok (.aload_n 0, 1) := (congrArg (fun b => decode b 555) lawc_eq).trans (by decide +kernel)
theorem d_L_law_556 : decode (mC M_L_law) 556 = .ok (.iload 4, 2) := (congrArg (fun b => decode b 556) lawc_eq).trans (by decide +kernel)
theorem d_L_law_558 : decode (mC M_L_law) 558 = .ok (.iconst 2, 1) := (congrArg (fun b => decode b 558) lawc_eq).trans (by decide +kernel)
theorem d_L_law_559 : decode (mC M_L_law) 559 = .ok (.iadd, 1) := (congrArg (fun b => decode b 559) lawc_eq).trans (by decide +kernel)
theorem d_L_law_560 : decode (mC M_L_law) 560 = .ok (.iaload, 1) := (congrArg (fun b => decode b 560) lawc_eq).trans (by decide +kernel)
theorem d_L_law_561 : decode (mC M_L_law) 561 = .ok (.invokevirtual 71, 3) := (congrArg (fun b => decode b 561) lawc_eq).trans (by decide +kernel)
theorem d_L_law_564 : decode (mC M_L_law) 564 = .ok (.aload_n 2, 1) := (congrArg (fun b => decode b 564) lawc_eq).trans (by decide +kernel)
theorem d_L_law_565 : decode (mC M_L_law) 565 = .ok (.aload_n 0, 1) := (congrArg (fun b => decode b 565) lawc_eq).trans (by decide +kernel)
theorem d_L_law_566 : decode (mC M_L_law) 566 = .ok (.iload 4, 2) := (congrArg (fun b => decode b 566) lawc_eq).trans (by decide +kernel)
theorem d_L_law_568 : decode (mC M_L_law) 568 = .ok (.iconst 1, 1) := (congrArg (fun b => decode b 568) lawc_eq).trans (by decide +kernel)
theorem d_L_law_569 : decode (mC M_L_law) 569 = .ok (.iadd, 1) := (congrArg (fun b => decode b 569) lawc_eq).trans (by decide +kernel)
theorem d_L_law_570 : decode (mC M_L_law) 570 = .ok (.iaload, 1) := (congrArg (fun b => decode b 570) lawc_eq).trans (by decide +kernel)
theorem d_L_law_571 : decode (mC M_L_law) 571 = .ok (.aload_n 0, 1) := (congrArg (fun b => decode b 571) lawc_eq).trans (by decide +kernel)
theorem d_L_law_572 : decode (mC M_L_law) 572 = .ok (.iload 4, 2) := (congrArg (fun b => decode b 572) lawc_eq).trans (by decide +kernel)
theorem d_L_law_574 : decode (mC M_L_law) 574 = .ok (.iconst 2, 1) := (congrArg (fun b => decode b 574) lawc_eq).trans (by decide +kernel)
theorem d_L_law_575 : decode (mC M_L_law) 575 = .ok (.iadd, 1) := (congrArg (fun b => decode b 575) lawc_eq).trans (by decide +kernel)
theorem d_L_law_576 : decode (mC M_L_law) 576 = .ok (.iaload, 1) := (congrArg (fun b => decode b 576) lawc_eq).trans (by decide +kernel)
theorem d_L_law_577 : decode (mC M_L_law) 577 = .ok (.invokevirtual 75, 3) := (congrArg (fun b => decode b 577) lawc_eq).trans (by decide +kernel)
theorem d_L_law_580 : decode (mC M_L_law) 580 = .ok (.if_icmp .eq 419, 3) := (congrArg (fun b => decode b 580) lawc_eq).trans (by decide +kernel)
theorem d_L_law_583 : decode (mC M_L_law) 583 = .ok (.iconst 0, 1) := (congrArg (fun b => decode b 583) lawc_eq).trans (by decide +kernel)
theorem d_L_law_584 : decode (mC M_L_law) 584 = .ok (.ireturn, 1) := (congrArg (fun b => decode b 584) lawc_eq).trans (by decide +kernel)
theorem d_L_law_585 : decode (mC M_L_law) 585 = .ok (.aload_n 1, 1) := (congrArg (fun b => decode b 585) lawc_eq).trans (by decide +kernel)
theorem d_L_law_586 : decode (mC M_L_law) 586 = .ok (.aload_n 0, 1) := (congrArg (fun b => decode b 586) lawc_eq).trans (by decide +kernel)
theorem d_L_law_587 : decode (mC M_L_law) 587 = .ok (.iload 4, 2) := (congrArg (fun b => decode b 587) lawc_eq).trans (by decide +kernel)
theorem d_L_law_589 : decode (mC M_L_law) 589 = .ok (.iconst 1, 1) := (congrArg (fun b => decode b 589) lawc_eq).trans (by decide +kernel)
theorem d_L_law_590 : decode (mC M_L_law) 590 = .ok (.iadd, 1) := (congrArg (fun b => decode b 590) lawc_eq).trans (by decide +kernel)
theorem d_L_law_591 : decode (mC M_L_law) 591 = .ok (.iaload, 1) := (congrArg (fun b => decode b 591) lawc_eq).trans (by decide +kernel)
theorem d_L_law_592 : decode (mC M_L_law) 592 = .ok (.aload_n 0, 1) := (congrArg (fun b => decode b 592) lawc_eq).trans (by decide +kernel)
theorem d_L_law_593 : decode (mC M_L_law) 593 = .ok (.iload 4, 2) := (congrArg (fun b => decode b 593) lawc_eq).trans (by decide +kernel)
theorem d_L_law_595 : decode (mC M_L_law) 595 = .ok (.iconst 2, 1) := (congrArg (fun b => decode b 595) lawc_eq).trans (by decide +kernel)
theorem d_L_law_596 : decode (mC M_L_law) 596 = .ok (.iadd, 1) := (congrArg (fun b => decode b 596) lawc_eq).trans (by decide +kernel)
theorem d_L_law_597 : decode (mC M_L_law) 597 = .ok (.iaload, 1) := (congrArg (fun b => decode b 597) lawc_eq).trans (by decide +kernel)
theorem d_L_law_598 : decode (mC M_L_law) 598 = .ok (.aload_n 0, 1) := (congrArg (fun b => decode b 598) lawc_eq).trans (by decide +kernel)
theorem d_L_law_599 : decode (mC M_L_law) 599 = .ok (.iload 4, 2) := (congrArg (fun b => decode b 599) lawc_eq).trans (by decide +kernel)
theorem d_L_law_601 : decode (mC M_L_law) 601 = .ok (.iconst 3, 1) := (congrArg (fun b => decode b 601) lawc_eq).trans (by decide +kernel)
theorem d_L_law_602 : decode (mC M_L_law) 602 = .ok (.iadd, 1) := (congrArg (fun b => decode b 602) lawc_eq).trans (by decide +kernel)
theorem d_L_law_603 : decode (mC M_L_law) 603 = .ok (.iaload, 1) := (congrArg (fun b => decode b 603) lawc_eq).trans (by decide +kernel)
theorem d_L_law_604 : decode (mC M_L_law) 604 = .ok (.invokevirtual 76, 3) := (congrArg (fun b => decode b 604) lawc_eq).trans (by decide +kernel)
theorem d_L_law_607 : decode (mC M_L_law) 607 = .ok (.aload_n 2, 1) := (congrArg (fun b => decode b 607) lawc_eq).trans (by decide +kernel)
theorem d_L_law_608 : decode (mC M_L_law) 608 = .ok (.aload_n 0, 1) := (congrArg (fun b => decode b 608) lawc_eq).trans (by decide +kernel)
theorem d_L_law_609 : decode (mC M_L_law) 609 = .ok (.iload 4, 2) := (congrArg (fun b => decode b 609) lawc_eq).trans (by decide +kernel)
theorem d_L_law_611 : decode (mC M_L_law) 611 = .ok (.iconst 1, 1) := (congrArg (fun b => decode b 611) lawc_eq).trans (by decide +kernel)
theorem d_L_law_612 : decode (mC M_L_law) 612 = .ok (.iadd, 1) := (congrArg (fun b => decode b 612) lawc_eq).trans (by decide +kernel)
theorem d_L_law_613 : decode (mC M_L_law) 613 = .ok (.iaload, 1) := (congrArg (fun b => decode b 613) lawc_eq).trans (by decide +kernel)
theorem d_L_law_614 : decode (mC M_L_law) 614 = .ok (.aload_n 0, 1) := (congrArg (fun b => decode b 614) lawc_eq).trans (by decide +kernel)
theorem d_L_law_615 : decode (mC M_L_law) 615 = .ok (.iload 4, 2) := (congrArg (fun b => decode b 615) lawc_eq).trans (by decide +kernel)
theorem d_L_law_617 : decode (mC M_L_law) 617 = .ok (.iconst 2, 1) := (congrArg (fun b => decode b 617) lawc_eq).trans (by decide +kernel)
theorem d_L_law_618 : decode (mC M_L_law) 618 = .ok (.iadd, 1) := (congrArg (fun b => decode b 618) lawc_eq).trans (by decide +kernel)
theorem d_L_law_619 : decode (mC M_L_law) 619 = .ok (.iaload, 1) := (congrArg (fun b => decode b 619) lawc_eq).trans (by decide +kernel)
theorem d_L_law_620 : decode (mC M_L_law) 620 = .ok (.aload_n 0, 1) := (congrArg (fun b => decode b 620) lawc_eq).trans (by decide +kernel)
theorem d_L_law_621 : decode (mC M_L_law) 621 = .ok (.iload 4, 2) := (congrArg (fun b => decode b 621) lawc_eq).trans (by decide +kernel)
theorem d_L_law_623 : decode (mC M_L_law) 623 = .ok (.iconst 3, 1) := (congrArg (fun b => decode b 623) lawc_eq).trans (by decide +kernel)
theorem d_L_law_624 : decode (mC M_L_law) 624 = .ok (.iadd, 1) := (congrArg (fun b => decode b 624) lawc_eq).trans (by decide +kernel)
theorem d_L_law_625 : decode (mC M_L_law) 625 = .ok (.iaload, 1) := (congrArg (fun b => decode b 625) lawc_eq).trans (by decide +kernel)
theorem d_L_law_626 : decode (mC M_L_law) 626 = .ok (.invokevirtual 79, 3) := (congrArg (fun b => decode b 626) lawc_eq).trans (by decide +kernel)
theorem d_L_law_629 : decode (mC M_L_law) 629 = .ok (.if_icmp .eq 370, 3) := (congrArg (fun b => decode b 629) lawc_eq).trans (by decide +kernel)
theorem d_L_law_632 : decode (mC M_L_law) 632 = .ok (.iconst 0, 1) := (congrArg (fun b => decode b 632) lawc_eq).trans (by decide +kernel)
theorem d_L_law_633 : decode (mC M_L_law) 633 = .ok (.ireturn, 1) := (congrArg (fun b => decode b 633) lawc_eq).trans (by decide +kernel)
theorem d_L_law_634 : decode (mC M_L_law) 634 = .ok (.aload_n 1, 1) := (congrArg (fun b => decode b 634) lawc_eq).trans (by decide +kernel)
theorem d_L_law_635 : decode (mC M_L_law) 635 = .ok (.aload_n 0, 1) := (congrArg (fun b => decode b 635) lawc_eq).trans (by decide +kernel)
theorem d_L_law_636 : decode (mC M_L_law) 636 = .ok (.iload 4, 2) := (congrArg (fun b => decode b 636) lawc_eq).trans (by decide +kernel)
theorem d_L_law_638 : decode (mC M_L_law) 638 = .ok (.iconst 1, 1) := (congrArg (fun b => decode b 638) lawc_eq).trans (by decide +kernel)
theorem d_L_law_639 : decode (mC M_L_law) 639 = .ok (.iadd, 1) := (congrArg (fun b => decode b 639) lawc_eq).trans (by decide +kernel)
theorem d_L_law_640 : decode (mC M_L_law) 640 = .ok (.iaload, 1) := (congrArg (fun b => decode b 640) lawc_eq).trans (by decide +kernel)
theorem d_L_law_641 : decode (mC M_L_law) 641 = .ok (.aload_n 0, 1) := (congrArg (fun b => decode b 641) lawc_eq).trans (by decide +kernel)
theorem d_L_law_642 : decode (mC M_L_law) 642 = .ok (.iload 4, 2) := (congrArg (fun b => decode b 642) lawc_eq).trans (by decide +kernel)
theorem d_L_law_644 : decode (mC M_L_law) 644 = .ok (.iconst 2, 1) := (congrArg (fun b => decode b 644) lawc_eq).trans (by decide +kernel)
theorem d_L_law_645 : decode (mC M_L_law) 645 = .ok (.iadd, 1) := (congrArg (fun b => decode b 645) lawc_eq).trans (by decide +kernel)
theorem d_L_law_646 : decode (mC M_L_law) 646 = .ok (.iaload, 1) := (congrArg (fun b => decode b 646) lawc_eq).trans (by decide +kernel)
theorem d_L_law_647 : decode (mC M_L_law) 647 = .ok (.invokevirtual 80, 3) := (congrArg (fun b => decode b 647) lawc_eq).trans (by decide +kernel)
theorem d_L_law_650 : decode (mC M_L_law) 650 = .ok (.aload_n 2, 1) := (congrArg (fun b => decode b 650) lawc_eq).trans (by decide +kernel)
theorem d_L_law_651 : decode (mC M_L_law) 651 = .ok (.aload_n 0, 1) := (congrArg (fun b => decode b 651) lawc_eq).trans (by decide +kernel)
theorem d_L_law_652 : decode (mC M_L_law) 652 = .ok (.iload 4, 2) := (congrArg (fun b => decode b 652) lawc_eq).trans (by decide +kernel)
theorem d_L_law_654 : decode (mC M_L_law) 654 = .ok (.iconst 1, 1) := (congrArg (fun b => decode b 654) lawc_eq).trans (by decide +kernel)
theorem d_L_law_655 : decode (mC M_L_law) 655 = .ok (.iadd, 1) := (congrArg (fun b => decode b 655) lawc_eq).trans (by decide +kernel)
theorem d_L_law_656 : decode (mC M_L_law) 656 = .ok (.iaload, 1) := (congrArg (fun b => decode b 656) lawc_eq).trans (by decide +kernel)
theorem d_L_law_657 : decode (mC M_L_law) 657 = .ok (.aload_n 0, 1) := (congrArg (fun b => decode b 657) lawc_eq).trans (by decide +kernel)
theorem d_L_law_658 : decode (mC M_L_law) 658 = .ok (.iload 4, 2) := (congrArg (fun b => decode b 658) lawc_eq).trans (by decide +kernel)
theorem d_L_law_660 : decode (mC M_L_law) 660 = .ok (.iconst 2, 1) := (congrArg (fun b => decode b 660) lawc_eq).trans (by decide +kernel)
theorem d_L_law_661 : decode (mC M_L_law) 661 = .ok (.iadd, 1) := (congrArg (fun b => decode b 661) lawc_eq).trans (by decide +kernel)
theorem d_L_law_662 : decode (mC M_L_law) 662 = .ok (.iaload, 1) := (congrArg (fun b => decode b 662) lawc_eq).trans (by decide +kernel)
theorem d_L_law_663 : decode (mC M_L_law) 663 = .ok (.invokevirtual 83, 3) := (congrArg (fun b => decode b 663) lawc_eq).trans (by decide +kernel)
theorem d_L_law_666 : decode (mC M_L_law) 666 = .ok (.if_icmp .eq 333, 3) := (congrArg (fun b => decode b 666) lawc_eq).trans (by decide +kernel)
theorem d_L_law_669 : decode (mC M_L_law) 669 = .ok (.iconst 0, 1) := (congrArg (fun b => decode b 669) lawc_eq).trans (by decide +kernel)
theorem d_L_law_670 : decode (mC M_L_law) 670 = .ok (.ireturn, 1) := (congrArg (fun b => decode b 670) lawc_eq).trans (by decide +kernel)
theorem d_L_law_671 : decode (mC M_L_law) 671 = .ok (.aload_n 1, 1) := (congrArg (fun b => decode b 671) lawc_eq).trans (by decide +kernel)
theorem d_L_law_672 : decode (mC M_L_law) 672 = .ok (.aload_n 0, 1) := (congrArg (fun b => decode b 672) lawc_eq).trans (by decide +kernel)
theorem d_L_law_673 : decode (mC M_L_law) 673 = .ok (.iload 4, 2) := (congrArg (fun b => decode b 673) lawc_eq).trans (by decide +kernel)
theorem d_L_law_675 : decode (mC M_L_law) 675 = .ok (.iconst 1, 1) := (congrArg (fun b => decode b 675) lawc_eq).trans (by decide +kernel)
theorem d_L_law_676 : decode (mC M_L_law) 676 = .ok (.iadd, 1) := (congrArg (fun b => decode b 676) lawc_eq).trans (by decide +kernel)
theorem d_L_law_677 : decode (mC M_L_law) 677 = .ok (.iaload, 1) := (congrArg (fun b => decode b 677) lawc_eq).trans (by decide +kernel)
theorem d_L_law_678 : decode (mC M_L_law) 678 = .ok (.aload_n 0, 1) := (congrArg (fun b => decode b 678) lawc_eq).trans (by decide +kernel)
theorem d_L_law_679 : decode (mC M_L_law) 679 = .ok (.iload 4, 2) := (congrArg (fun b => decode b 679) lawc_eq).trans (by decide +kernel)
theorem d_L_law_681 : decode (mC M_L_law) 681 = .ok (.iconst 2, 1) := (congrArg (fun b => decode b 681) lawc_eq).trans (by decide +kernel)
theorem d_L_law_682 : decode (mC M_L_law) 682 = .ok (.iadd, 1) := (congrArg (fun b => decode b 682) lawc_eq).trans (by decide +kernel)
theorem d_L_law_683 : decode (mC M_L_law) 683 = .ok (.iaload, 1) := (congrArg (fun b => decode b 683) lawc_eq).trans (by decide +kernel)
theorem d_L_law_684 : decode (mC M_L_law) 684 = .ok (.aload_n 0, 1) := (congrArg (fun b => decode b 684) lawc_eq).trans (by decide +kernel)
theorem d_L_law_685 : decode (mC M_L_law) 685 = .ok (.iload 4, 2) := (congrArg (fun b => decode b 685) lawc_eq).trans (by decide +kernel)
theorem d_L_law_687 : decode (mC M_L_law) 687 = .ok (.iconst 3, 1) := (congrArg (fun b => decode b 687) lawc_eq).trans (by decide +kernel)
theorem d_L_law_688 : decode (mC M_L_law) 688 = .ok (.iadd, 1) := (congrArg (fun b => decode b 688) lawc_eq).trans (by decide +kernel)
theorem d_L_law_689 : decode (mC M_L_law) 689 = .ok (.iaload, 1) := (congrArg (fun b => decode b 689) lawc_eq).trans (by decide +kernel)
theorem d_L_law_690 : decode (mC M_L_law) 690 = .ok (.aload_n 3, 1) := (congrArg (fun b => decode b 690) lawc_eq).trans (by decide +kernel)
theorem d_L_law_691 : decode (mC M_L_law) 691 = .ok (.invokestatic 84, 3) := (congrArg (fun b => decode b 691) lawc_eq).trans (by decide +kernel)
theorem d_L_law_694 : decode (mC M_L_law) 694 = .ok (.istore 5, 2) := (congrArg (fun b => decode b 694) lawc_eq).trans (by decide +kernel)
theorem d_L_law_696 : decode (mC M_L_law) 696 = .ok (.aload_n 2, 1) := (congrArg (fun b => decode b 696) lawc_eq).trans (by decide +kernel)
theorem d_L_law_697 : decode (mC M_L_law) 697 = .ok (.aload_n 0, 1) := (congrArg (fun b => decode b 697) lawc_eq).trans (by decide +kernel)
theorem d_L_law_698 : decode (mC M_L_law) 698 = .ok (.iload 4, 2) := (congrArg (fun b => decode b 698) lawc_eq).trans (by decide +kernel)
theorem d_L_law_700 : decode (mC M_L_law) 700 = .ok (.iconst 1, 1) := (congrArg (fun b => decode b 700) lawc_eq).trans (by decide +kernel)
theorem d_L_law_701 : decode (mC M_L_law) 701 = .ok (.iadd, 1) := (congrArg (fun b => decode b 701) lawc_eq).trans (by decide +kernel)
theorem d_L_law_702 : decode (mC M_L_law) 702 = .ok (.iaload, 1) := (congrArg (fun b => decode b 702) lawc_eq).trans (by decide +kernel)
theorem d_L_law_703 : decode (mC M_L_law) 703 = .ok (.aload_n 0, 1) := (congrArg (fun b => decode b 703) lawc_eq).trans (by decide +kernel)
theorem d_L_law_704 : decode (mC M_L_law) 704 = .ok (.iload 4, 2) := (congrArg (fun b => decode b 704) lawc_eq).trans (by decide +kernel)
theorem d_L_law_706 : decode (mC M_L_law) 706 = .ok (.iconst 2, 1) := (congrArg (fun b => decode b 706) lawc_eq).trans (by decide +kernel)
theorem d_L_law_707 : decode (mC M_L_law) 707 = .ok (.iadd, 1) := (congrArg (fun b => decode b 707) lawc_eq).trans (by decide +kernel)
theorem d_L_law_708 : decode (mC M_L_law) 708 = .ok (.iaload, 1) := (congrArg (fun b => decode b 708) lawc_eq).trans (by decide +kernel)
theorem d_L_law_709 : decode (mC M_L_law) 709 = .ok (.aload_n 0, 1) := (congrArg (fun b => decode b 709) lawc_eq).trans (by decide +kernel)
theorem d_L_law_710 : decode (mC M_L_law) 710 = .ok (.iload 4, 2) := (congrArg (fun b => decode b 710) lawc_eq).trans (by decide +kernel)
theorem d_L_law_712 : decode (mC M_L_law) 712 = .ok (.iconst 3, 1) := (congrArg (fun b => decode b 712) lawc_eq).trans (by decide +kernel)
theorem d_L_law_713 : decode (mC M_L_law) 713 = .ok (.iadd, 1) := (congrArg (fun b => decode b 713) lawc_eq).trans (by decide +kernel)
theorem d_L_law_714 : decode (mC M_L_law) 714 = .ok (.iaload, 1) := (congrArg (fun b => decode b 714) lawc_eq).trans (by decide +kernel)
theorem d_L_law_715 : decode (mC M_L_law) 715 = .ok (.invokevirtual 89, 3) := (congrArg (fun b => decode b 715) lawc_eq).trans (by decide +kernel)
theorem d_L_law_718 : decode (mC M_L_law) 718 = .ok (.istore 6, 2) := (congrArg (fun b => decode b 718) lawc_eq).trans (by decide +kernel)
theorem d_L_law_720 : decode (mC M_L_law) 720 = .ok (.aload_n 2, 1) := (congrArg (fun b => decode b 720) lawc_eq).trans (by decide +kernel)
theorem d_L_law_721 : decode (mC M_L_law) 721 = .ok (.invokevirtual 90, 3) := (congrArg (fun b => decode b 721) lawc_eq).trans (by decide +kernel)
theorem d_L_law_724 : decode (mC M_L_law) 724 = .ok (.iload 5, 2) := (congrArg (fun b => decode b 724) lawc_eq).trans (by decide +kernel)
theorem d_L_law_726 : decode (mC M_L_law) 726 = .ok (.if_icmp .eq 5, 3) := (congrArg (fun b => decode b 726) lawc_eq).trans (by decide +kernel)
theorem d_L_law_729 : decode (mC M_L_law) 729 = .ok (.iconst 0, 1) := (congrArg (fun b => decode b 729) lawc_eq).trans (by decide +kernel)
theorem d_L_law_730 : decode (mC M_L_law) 730 = .ok (.ireturn, 1) := (congrArg (fun b => decode b 730) lawc_eq).trans (by decide +kernel)
theorem d_L_law_731 : decode (mC M_L_law) 731 = .ok (.iload 5, 2) := (congrArg (fun b => decode b 731) lawc_eq).trans (by decide +kernel)
theorem d_L_law_733 : decode (mC M_L_law) 733 = .ok (.ifCond .ne 15, 3) := (congrArg (fun b => decode b 733) lawc_eq).trans (by decide +kernel)
theorem d_L_law_736 : decode (mC M_L_law) 736 = .ok (.aload_n 3, 1) := (congrArg (fun b => decode b 736) lawc_eq).trans (by decide +kernel)
theorem d_L_law_737 : decode (mC M_L_law) 737 = .ok (.iconst 0, 1) := (congrArg (fun b => decode b 737) lawc_eq).trans (by decide +kernel)
theorem d_L_law_738 : decode (mC M_L_law) 738 = .ok (.laload, 1) := (congrArg (fun b => decode b 738) lawc_eq).trans (by decide +kernel)
theorem d_L_law_739 : decode (mC M_L_law) 739 = .ok (.iload 6, 2) := (congrArg (fun b => decode b 739) lawc_eq).trans (by decide +kernel)
theorem d_L_law_741 : decode (mC M_L_law) 741 = .ok (.i2l, 1) := (congrArg (fun b => decode b 741) lawc_eq).trans (by decide +kernel)
theorem d_L_law_742 : decode (mC M_L_law) 742 = .ok (.lcmp, 1) := (congrArg (fun b => decode b 742) lawc_eq).trans (by decide +kernel)
theorem d_L_law_743 : decode (mC M_L_law) 743 = .ok (.ifCond .eq 5, 3) := (congrArg (fun b => decode b 743) lawc_eq).trans (by decide +kernel)
theorem d_L_law_746 : decode (mC M_L_law) 746 = .ok (.iconst 0, 1) := (congrArg (fun b => decode b 746) lawc_eq).trans (by decide +kernel)
theorem d_L_law_747 : decode (mC M_L_law) 747 = .ok (.ireturn, 1) := (congrArg (fun b => decode b 747) lawc_eq).trans (by decide +kernel)
theorem d_L_law_748 : decode (mC M_L_law) 748 = .ok (.goto 251, 3) := (congrArg (fun b => decode b 748) lawc_eq).trans (by decide +kernel)
theorem d_L_law_751 : decode (mC M_L_law) 751 = .ok (.aload_n 1, 1) := (congrArg (fun b => decode b 751) lawc_eq).trans (by decide +kernel)
theorem d_L_law_752 : decode (mC M_L_law) 752 = .ok (.aload_n 0, 1) := (congrArg (fun b => decode b 752) lawc_eq).trans (by decide +kernel)
theorem d_L_law_753 : decode (mC M_L_law) 753 = .ok (.iload 4, 2) := (congrArg (fun b => decode b 753) lawc_eq).trans (by decide +kernel)
theorem d_L_law_755 : decode (mC M_L_law) 755 = .ok (.iconst 1, 1) := (congrArg (fun b => decode b 755) lawc_eq).trans (by decide +kernel)
theorem d_L_law_756 : decode (mC M_L_law) 756 = .ok (.iadd, 1) := (congrArg (fun b => decode b 756) lawc_eq).trans (by decide +kernel)
theorem d_L_law_757 : decode (mC M_L_law) 757 = .ok (.iaload, 1) := (congrArg (fun b => decode b 757) lawc_eq).trans (by decide +kernel)
theorem d_L_law_758 : decode (mC M_L_law) 758 = .ok (.aload_n 0, 1) := (congrArg (fun b => decode b 758) lawc_eq).trans (by decide +kernel)
theorem d_L_law_759 : decode (mC M_L_law) 759 = .ok (.iload 4, 2) := (congrArg (fun b => decode b 759) lawc_eq).trans (by decide +kernel)
theorem d_L_law_761 : decode (mC M_L_law) 761 = .ok (.iconst 2, 1) := (congrArg (fun b => decode b 761) lawc_eq).trans (by decide +kernel)
theorem d_L_law_762 : decode (mC M_L_law) 762 = .ok (.iadd, 1) := (congrArg (fun b => decode b 762) lawc_eq).trans (by decide +kernel)
theorem d_L_law_763 : decode (mC M_L_law) 763 = .ok (.iaload, 1) := (congrArg (fun b => decode b 763) lawc_eq).trans (by decide +kernel)
theorem d_L_law_764 : decode (mC M_L_law) 764 = .ok (.invokevirtual 93, 3) := (congrArg (fun b => decode b 764) lawc_eq).trans (by decide +kernel)
theorem d_L_law_767 : decode (mC M_L_law) 767 = .ok (.aload_n 2, 1) := (congrArg (fun b => decode b 767) lawc_eq).trans (by decide +kernel)
theorem d_L_law_768 : decode (mC M_L_law) 768 = .ok (.aload_n 0, 1) := (congrArg (fun b => decode b 768) lawc_eq).trans (by decide +kernel)
theorem d_L_law_769 : decode (mC M_L_law) 769 = .ok (.iload 4, 2) := (congrArg (fun b => decode b 769) lawc_eq).trans (by decide +kernel)
theorem d_L_law_771 : decode (mC M_L_law) 771 = .ok (.iconst 1, 1) := (congrArg (fun b => decode b 771) lawc_eq).trans (by decide +kernel)
theorem d_L_law_772 : decode (mC M_L_law) 772 = .ok (.iadd, 1) := (congrArg (fun b => decode b 772) lawc_eq).trans (by decide +kernel)
theorem d_L_law_773 : decode (mC M_L_law) 773 = .ok (.iaload, 1) := (congrArg (fun b => decode b 773) lawc_eq).trans (by decide +kernel)
theorem d_L_law_774 : decode (mC M_L_law) 774 = .ok (.aload_n 0, 1) := (congrArg (fun b => decode b 774) lawc_eq).trans (by decide +kernel)
theorem d_L_law_775 : decode (mC M_L_law) 775 = .ok (.iload 4, 2) := (congrArg (fun b => decode b 775) lawc_eq).trans (by decide +kernel)
theorem d_L_law_777 : decode (mC M_L_law) 777 = .ok (.iconst 2, 1) := (congrArg (fun b => decode b 777) lawc_eq).trans (by decide +kernel)
theorem d_L_law_778 : decode (mC M_L_law) 778 = .ok (.iadd, 1) := (congrArg (fun b => decode b 778) lawc_eq).trans (by decide +kernel)
theorem d_L_law_779 : decode (mC M_L_law) 779 = .ok (.iaload, 1) := (congrArg (fun b => decode b 779) lawc_eq).trans (by decide +kernel)
theorem d_L_law_780 : decode (mC M_L_law) 780 = .ok (.invokevirtual 96, 3) := (congrArg (fun b => decode b 780) lawc_eq).trans (by decide +kernel)
theorem d_L_law_783 : decode (mC M_L_law) 783 = .ok (.if_icmp .eq 216, 3) := (congrArg (fun b => decode b 783) lawc_eq).trans (by decide +kernel)
theorem d_L_law_786 : decode (mC M_L_law) 786 = .ok (.iconst 0, 1) := (congrArg (fun b => decode b 786) lawc_eq).trans (by decide +kernel)
theorem d_L_law_787 : decode (mC M_L_law) 787 = .ok (.ireturn, 1) := (congrArg (fun b => decode b 787) lawc_eq).trans (by decide +kernel)
theorem d_L_law_788 : decode (mC M_L_law) 788 = .ok (.aload_n 1, 1) := (congrArg (fun b => decode b 788) lawc_eq).trans (by decide +kernel)
theorem d_L_law_789 : decode (mC M_L_law) 789 = .ok (.aload_n 0, 1) := (congrArg (fun b => decode b 789) lawc_eq).trans (by decide +kernel)
theorem d_L_law_790 : decode (mC M_L_law) 790 = .ok (.iload 4, 2) := (congrArg (fun b => decode b 790) lawc_eq).trans (by decide +kernel)
theorem d_L_law_792 : decode (mC M_L_law) 792 = .ok (.iconst 1, 1) := (congrArg (fun b => decode b 792) lawc_eq).trans (by decide +kernel)
theorem d_L_law_793 : decode (mC M_L_law) 793 = .ok (.iadd, 1) := (congrArg (fun b => decode b 793) lawc_eq).trans (by decide +kernel)
theorem d_L_law_794 : decode (mC M_L_law) 794 = .ok (.iaload, 1) := (congrArg (fun b => decode b 794) lawc_eq).trans (by decide +kernel)
theorem d_L_law_795 : decode (mC M_L_law) 795 = .ok (.invokevirtual 97, 3) := (congrArg (fun b => decode b 795) lawc_eq).trans (by decide +kernel)
theorem d_L_law_798 : decode (mC M_L_law) 798 = .ok (.aload_n 2, 1) := (congrArg (fun b => decode b 798) lawc_eq).trans (by decide +kernel)
theorem d_L_law_799 : decode (mC M_L_law) 799 = .ok (.aload_n 0, 1) := (congrArg (fun b => decode b 799) lawc_eq).trans (by decide +kernel)
theorem d_L_law_800 : decode (mC M_L_law) 800 = .ok (.iload 4, 2) := (congrArg (fun b => decode b 800) lawc_eq).trans (by decide +kernel)
theorem d_L_law_802 : decode (mC M_L_law) 802 = .ok (.iconst 1, 1) := (congrArg (fun b => decode b 802) lawc_eq).trans (by decide +kernel)
theorem d_L_law_803 : decode (mC M_L_law) 803 = .ok (.iadd, 1) := (congrArg (fun b => decode b 803) lawc_eq).trans (by decide +kernel)
theorem d_L_law_804 : decode (mC M_L_law) 804 = .ok (.iaload, 1) := (congrArg (fun b => decode b 804) lawc_eq).trans (by decide +kernel)
theorem d_L_law_805 : decode (mC M_L_law) 805 = .ok (.invokevirtual 100, 3) := (congrArg (fun b => decode b 805) lawc_eq).trans (by decide +kernel)
theorem d_L_law_808 : decode (mC M_L_law) 808 = .ok (.if_icmp .eq 191, 3) := (congrArg (fun b => decode b 808) lawc_eq).trans (by decide +kernel)
theorem d_L_law_811 : decode (mC M_L_law) 811 = .ok (.iconst 0, 1) := (congrArg (fun b => decode b 811) lawc_eq).trans (by decide +kernel)
theorem d_L_law_812 : decode (mC M_L_law) 812 = .ok (.ireturn, 1) := (congrArg (fun b => decode b 812) lawc_eq).trans (by decide +kernel)
theorem d_L_law_813 : decode (mC M_L_law) 813 = .ok (.aload_n 1, 1) := (congrArg (fun b => decode b 813) lawc_eq).trans (by decide +kernel)
theorem d_L_law_814 : decode (mC M_L_law) 814 = .ok (.aload_n 0, 1) := (congrArg (fun b => decode b 814) lawc_eq).trans (by decide +kernel)
theorem d_L_law_815 : decode (mC M_L_law) 815 = .ok (.iload 4, 2) := (congrArg (fun b => decode b 815) lawc_eq).trans (by decide +kernel)
theorem d_L_law_817 : decode (mC M_L_law) 817 = .ok (.iconst 1, 1) := (congrArg (fun b => decode b 817) lawc_eq).trans (by decide +kernel)
theorem d_L_law_818 : decode (mC M_L_law) 818 = .ok (.iadd, 1) := (congrArg (fun b => decode b 818) lawc_eq).trans (by decide +kernel)
theorem d_L_law_819 : decode (mC M_L_law) 819 = .ok (.iaload, 1) := (congrArg (fun b => decode b 819) lawc_eq).trans (by decide +kernel)
theorem d_L_law_820 : decode (mC M_L_law) 820 = .ok (.aload_n 0, 1) := (congrArg (fun b => decode b 820) lawc_eq).trans (by decide +kernel)
theorem d_L_law_821 : decode (mC M_L_law) 821 = .ok (.iload 4, 2) := (congrArg (fun b => decode b 821) lawc_eq).trans (by decide +kernel)
theorem d_L_law_823 : decode (mC M_L_law) 823 = .ok (.iconst 2, 1) := (congrArg (fun b => decode b 823) lawc_eq).trans (by decide +kernel)
theorem d_L_law_824 : decode (mC M_L_law) 824 = .ok (.iadd, 1) := (congrArg (fun b => decode b 824) lawc_eq).trans (by decide +kernel)
theorem d_L_law_825 : decode (mC M_L_law) 825 = .ok (.iaload, 1) := (congrArg (fun b => decode b 825) lawc_eq).trans (by decide +kernel)
theorem d_L_law_826 : decode (mC M_L_law) 826 = .ok (.invokevirtual 101, 3) := (congrArg (fun b => decode b 826) lawc_eq).trans (by decide +kernel)
theorem d_L_law_829 : decode (mC M_L_law) 829 = .ok (.aload_n 2, 1) := (congrArg (fun b => decode b 829) lawc_eq).trans (by decide +kernel)
theorem d_L_law_830 : decode (mC M_L_law) 830 = .ok (.aload_n 0, 1) := (congrArg (fun b => decode b 830) lawc_eq).trans (by decide +kernel)
theorem d_L_law_831 : decode (mC M_L_law) 831 = .ok (.iload 4, 2) := (congrArg (fun b => decode b 831) lawc_eq).trans (by decide +kernel)
theorem d_L_law_833 : decode (mC M_L_law) 833 = .ok (.iconst 1, 1) := (congrArg (fun b => decode b 833) lawc_eq).trans (by decide +kernel)
theorem d_L_law_834 : decode (mC M_L_law) 834 = .ok (.iadd, 1) := (congrArg (fun b => decode b 834) lawc_eq).trans (by decide +kernel)
theorem d_L_law_835 : decode (mC M_L_law) 835 = .ok (.iaload, 1) := (congrArg (fun b => decode b 835) lawc_eq).trans (by decide +kernel)
theorem d_L_law_836 : decode (mC M_L_law) 836 = .ok (.aload_n 0, 1) := (congrArg (fun b => decode b 836) lawc_eq).trans (by decide +kernel)
theorem d_L_law_837 : decode (mC M_L_law) 837 = .ok (.iload 4, 2) := (congrArg (fun b => decode b 837) lawc_eq).trans (by decide +kernel)
theorem d_L_law_839 : decode (mC M_L_law) 839 = .ok (.iconst 2, 1) := (congrArg (fun b => decode b 839) lawc_eq).trans (by decide +kernel)
theorem d_L_law_840 : decode (mC M_L_law) 840 = .ok (.iadd, 1) := (congrArg (fun b => decode b 840) lawc_eq).trans (by decide +kernel)
theorem d_L_law_841 : decode (mC M_L_law) 841 = .ok (.iaload, 1) := (congrArg (fun b => decode b 841) lawc_eq).trans (by decide +kernel)
theorem d_L_law_842 : decode (mC M_L_law) 842 = .ok (.invokevirtual 104, 3) := (congrArg (fun b => decode b 842) lawc_eq).trans (by decide +kernel)
theorem d_L_law_845 : decode (mC M_L_law) 845 = .ok (.if_icmp .eq 154, 3) := (congrArg (fun b => decode b 845) lawc_eq).trans (by decide +kernel)
theorem d_L_law_848 : decode (mC M_L_law) 848 = .ok (.iconst 0, 1) := (congrArg (fun b => decode b 848) lawc_eq).trans (by decide +kernel)
theorem d_L_law_849 : decode (mC M_L_law) 849 = .ok (.ireturn, 1) := (congrArg (fun b => decode b 849) lawc_eq).trans (by decide +kernel)
theorem d_L_law_850 : decode (mC M_L_law) 850 = .ok (.aload_n 1, 1) := (congrArg (fun b => decode b 850) lawc_eq).trans (by decide +kernel)
theorem d_L_law_851 : decode (mC M_L_law) 851 = .ok (.aload_n 0, 1) := (congrArg (fun b => decode b 851) lawc_eq).trans (by decide +kernel)
theorem d_L_law_852 : decode (mC M_L_law) 852 = .ok (.iload 4, 2) := (congrArg (fun b => decode b 852) lawc_eq).trans (by decide +kernel)
theorem d_L_law_854 : decode (mC M_L_law) 854 = .ok (.iconst 1, 1) := (congrArg (fun b => decode b 854) lawc_eq).trans (by decide +kernel)
theorem d_L_law_855 : decode (mC M_L_law) 855 = .ok (.iadd, 1) := (congrArg (fun b => decode b 855) lawc_eq).trans (by decide +kernel)
theorem d_L_law_856 : decode (mC M_L_law) 856 = .ok (.iaload, 1) := (congrArg (fun b => decode b 856) lawc_eq).trans (by decide +kernel)
theorem d_L_law_857 : decode (mC M_L_law) 857 = .ok (.aload_n 0, 1) := (congrArg (fun b => decode b 857) lawc_eq).trans (by decide +kernel)
theorem d_L_law_858 : decode (mC M_L_law) 858 = .ok (.iload 4, 2) := (congrArg (fun b => decode b 858) lawc_eq).trans (by decide +kernel)
theorem d_L_law_860 : decode (mC M_L_law) 860 = .ok (.iconst 2, 1) := (congrArg (fun b => decode b 860) lawc_eq).trans (by decide +kernel)
theorem d_L_law_861 : decode (mC M_L_law) 861 = .ok (.iadd, 1) := (congrArg (fun b => decode b 861) lawc_eq).trans (by decide +kernel)
theorem d_L_law_862 : decode (mC M_L_law) 862 = .ok (.iaload, 1) := (congrArg (fun b => decode b 862) lawc_eq).trans (by decide +kernel)
theorem d_L_law_863 : decode (mC M_L_law) 863 = .ok (.invokevirtual 105, 3) := (congrArg (fun b => decode b 863) lawc_eq).trans (by decide +kernel)
theorem d_L_law_866 : decode (mC M_L_law) 866 = .ok (.aload_n 2, 1) := (congrArg (fun b => decode b 866) lawc_eq).trans (by decide +kernel)
theorem d_L_law_867 : decode (mC M_L_law) 867 = .ok (.aload_n 0, 1) := (congrArg (fun b => decode b 867) lawc_eq).trans (by decide +kernel)
theorem d_L_law_868 : decode (mC M_L_law) 868 = .ok (.iload 4, 2) := (congrArg (fun b => decode b 868) lawc_eq).trans (by decide +kernel)
theorem d_L_law_870 : decode (mC M_L_law) 870 = .ok (.iconst 1, 1) := (congrArg (fun b => decode b 870) lawc_eq).trans (by decide +kernel)
theorem d_L_law_871 : decode (mC M_L_law) 871 = .ok (.iadd, 1) := (congrArg (fun b => decode b 871) lawc_eq).trans (by decide +kernel)
theorem d_L_law_872 : decode (mC M_L_law) 872 = .ok (.iaload, 1) := (congrArg (fun b => decode b 872) lawc_eq).trans (by decide +kernel)
theorem d_L_law_873 : decode (mC M_L_law) 873 = .ok (.aload_n 0, 1) := (congrArg (fun b => decode b 873) lawc_eq).trans (by decide +kernel)
theorem d_L_law_874 : decode (mC M_L_law) 874 = .ok (.iload 4, 2) := (congrArg (fun b => decode b 874) lawc_eq).trans (by decide +kernel)
theorem d_L_law_876 : decode (mC M_L_law) 876 = .ok (.iconst 2, 1) := (congrArg (fun b => decode b 876) lawc_eq).trans (by decide +kernel)
theorem d_L_law_877 : decode (mC M_L_law) 877 = .ok (.iadd, 1) := (congrArg (fun b => decode b 877) lawc_eq).trans (by decide +kernel)
theorem d_L_law_878 : decode (mC M_L_law) 878 = .ok (.iaload, 1) := (congrArg (fun b => decode b 878) lawc_eq).trans (by decide +kernel)
theorem d_L_law_879 : decode (mC M_L_law) 879 = .ok (.invokevirtual 108, 3) := (congrArg (fun b => decode b 879) lawc_eq).trans (by decide +kernel)
theorem d_L_law_882 : decode (mC M_L_law) 882 = .ok (.if_icmp .eq 117, 3) := (congrArg (fun b => decode b 882) lawc_eq).trans (by decide +kernel)
theorem d_L_law_885 : decode (mC M_L_law) 885 = .ok (.iconst 0, 1) := (congrArg (fun b => decode b 885) lawc_eq).trans (by decide +kernel)
theorem d_L_law_886 : decode (mC M_L_law) 886 = .ok (.ireturn, 1) := (congrArg (fun b => decode b 886) lawc_eq).trans (by decide +kernel)
theorem d_L_law_887 : decode (mC M_L_law) 887 = .ok (.aload_n 1, 1) := (congrArg (fun b => decode b 887) lawc_eq).trans (by decide +kernel)
theorem d_L_law_888 : decode (mC M_L_law) 888 = .ok (.aload_n 0, 1) := (congrArg (fun b => decode b 888) lawc_eq).trans (by decide +kernel)
theorem d_L_law_889 : decode (mC M_L_law) 889 = .ok (.iload 4, 2) := (congrArg (fun b => decode b 889) lawc_eq).trans (by decide +kernel)
theorem d_L_law_891 : decode (mC M_L_law) 891 = .ok (.iconst 1, 1) := (congrArg (fun b => decode b 891) lawc_eq).trans (by decide +kernel)
theorem d_L_law_892 : decode (mC M_L_law) 892 = .ok (.iadd, 1) := (congrArg (fun b => decode b 892) lawc_eq).trans (by decide +kernel)
theorem d_L_law_893 : decode (mC M_L_law) 893 = .ok (.iaload, 1) := (congrArg (fun b => decode b 893) lawc_eq).trans (by decide +kernel)
theorem d_L_law_894 : decode (mC M_L_law) 894 = .ok (.aload_n 0, 1) := (congrArg (fun b => decode b 894) lawc_eq).trans (by decide +kernel)
theorem d_L_law_895 : decode (mC M_L_law) 895 = .ok (.iload 4, 2) := (congrArg (fun b => decode b 895) lawc_eq).trans (by decide +kernel)
theorem d_L_law_897 : decode (mC M_L_law) 897 = .ok (.iconst 2, 1) := (congrArg (fun b => decode b 897) lawc_eq).trans (by decide +kernel)
theorem d_L_law_898 : decode (mC M_L_law) 898 = .ok (.iadd, 1) := (congrArg (fun b => decode b 898) lawc_eq).trans (by decide +kernel)
theorem d_L_law_899 : decode (mC M_L_law) 899 = .ok (.iaload, 1) := (congrArg (fun b => decode b 899) lawc_eq).trans (by decide +kernel)
theorem d_L_law_900 : decode (mC M_L_law) 900 = .ok (.invokevirtual 109, 3) := (congrArg (fun b => decode b 900) lawc_eq).trans (by decide +kernel)
theorem d_L_law_903 : decode (mC M_L_law) 903 = .ok (.aload_n 2, 1) := (congrArg (fun b => decode b 903) lawc_eq).trans (by decide +kernel)
theorem d_L_law_904 : decode (mC M_L_law) 904 = .ok (.aload_n 0, 1) := (congrArg (fun b => decode b 904) lawc_eq).trans (by decide +kernel)
theorem d_L_law_905 : decode (mC M_L_law) 905 = .ok (.iload 4, 2) := (congrArg (fun b => decode b 905) lawc_eq).trans (by decide +kernel)
theorem d_L_law_907 : decode (mC M_L_law) 907 = .ok (.iconst 1, 1) := (congrArg (fun b => decode b 907) lawc_eq).trans (by decide +kernel)
theorem d_L_law_908 : decode (mC M_L_law) 908 = .ok (.iadd, 1) := (congrArg (fun b => decode b 908) lawc_eq).trans (by decide +kernel)
theorem d_L_law_909 : decode (mC M_L_law) 909 = .ok (.iaload, 1) := (congrArg (fun b => decode b 909) lawc_eq).trans (by decide +kernel)
theorem d_L_law_910 : decode (mC M_L_law) 910 = .ok (.aload_n 0, 1) := (congrArg (fun b => decode b 910) lawc_eq).trans (by decide +kernel)
theorem d_L_law_911 : decode (mC M_L_law) 911 = .ok (.iload 4, 2) := (congrArg (fun b => decode b 911) lawc_eq).trans (by decide +kernel)
theorem d_L_law_913 : decode (mC M_L_law) 913 = .ok (.iconst 2, 1) := (congrArg (fun b => decode b 913) lawc_eq).trans (by decide +kernel)
theorem d_L_law_914 : decode (mC M_L_law) 914 = .ok (.iadd, 1) := (congrArg (fun b => decode b 914) lawc_eq).trans (by decide +kernel)
theorem d_L_law_915 : decode (mC M_L_law) 915 = .ok (.iaload, 1) := (congrArg (fun b => decode b 915) lawc_eq).trans (by decide +kernel)
theorem d_L_law_916 : decode (mC M_L_law) 916 = .ok (.invokevirtual 112, 3) := (congrArg (fun b => decode b 916) lawc_eq).trans (by decide +kernel)
theorem d_L_law_919 : decode (mC M_L_law) 919 = .ok (.if_icmp .eq 80, 3) := (congrArg (fun b => decode b 919) lawc_eq).trans (by decide +kernel)
theorem d_L_law_922 : decode (mC M_L_law) 922 = .ok (.iconst 0, 1) := (congrArg (fun b => decode b 922) lawc_eq).trans (by decide +kernel)
theorem d_L_law_923 : decode (mC M_L_law) 923 = .ok (.ireturn, 1) := (congrArg (fun b => decode b 923) lawc_eq).trans (by decide +kernel)
theorem d_L_law_924 : decode (mC M_L_law) 924 = .ok (.aload_n 1, 1) := (congrArg (fun b => decode b 924) lawc_eq).trans (by decide +kernel)
theorem d_L_law_925 : decode (mC M_L_law) 925 = .ok (.aload_n 0, 1) := (congrArg (fun b => decode b 925) lawc_eq).trans (by decide +kernel)
theorem d_L_law_926 : decode (mC M_L_law) 926 = .ok (.iload 4, 2) := (congrArg (fun b => decode b 926) lawc_eq).trans (by decide +kernel)
theorem d_L_law_928 : decode (mC M_L_law) 928 = .ok (.iconst 1, 1) := (congrArg (fun b => decode b 928) lawc_eq).trans (by decide +kernel)
theorem d_L_law_929 : decode (mC M_L_law) 929 = .ok (.iadd, 1) := (congrArg (fun b => decode b 929) lawc_eq).trans (by decide +kernel)
theorem d_L_law_930 : decode (mC M_L_law) 930 = .ok (.iaload, 1) := (congrArg (fun b => decode b 930) lawc_eq).trans (by decide +kernel)
theorem d_L_law_931 : decode (mC M_L_law) 931 = .ok (.aload_n 0, 1) := (congrArg (fun b => decode b 931) lawc_eq).trans (by decide +kernel)
theorem d_L_law_932 : decode (mC M_L_law) 932 = .ok (.iload 4, 2) := (congrArg (fun b => decode b 932) lawc_eq).trans (by decide +kernel)
theorem d_L_law_934 : decode (mC M_L_law) 934 = .ok (.iconst 2, 1) := (congrArg (fun b => decode b 934) lawc_eq).trans (by decide +kernel)
theorem d_L_law_935 : decode (mC M_L_law) 935 = .ok (.iadd, 1) := (congrArg (fun b => decode b 935) lawc_eq).trans (by decide +kernel)
theorem d_L_law_936 : decode (mC M_L_law) 936 = .ok (.iaload, 1) := (congrArg (fun b => decode b 936) lawc_eq).trans (by decide +kernel)
theorem d_L_law_937 : decode (mC M_L_law) 937 = .ok (.aload_n 0, 1) := (congrArg (fun b => decode b 937) lawc_eq).trans (by decide +kernel)
theorem d_L_law_938 : decode (mC M_L_law) 938 = .ok (.iload 4, 2) := (congrArg (fun b => decode b 938) lawc_eq).trans (by decide +kernel)
theorem d_L_law_940 : decode (mC M_L_law) 940 = .ok (.iconst 3, 1) := (congrArg (fun b => decode b 940) lawc_eq).trans (by decide +kernel)
theorem d_L_law_941 : decode (mC M_L_law) 941 = .ok (.iadd, 1) := (congrArg (fun b => decode b 941) lawc_eq).trans (by decide +kernel)
theorem d_L_law_942 : decode (mC M_L_law) 942 = .ok (.iaload, 1) := (congrArg (fun b => decode b 942) lawc_eq).trans (by decide +kernel)
theorem d_L_law_943 : decode (mC M_L_law) 943 = .ok (.invokevirtual 113, 3) := (congrArg (fun b => decode b 943) lawc_eq).trans (by decide +kernel)
theorem d_L_law_946 : decode (mC M_L_law) 946 = .ok (.aload_n 2, 1) := (congrArg (fun b => decode b 946) lawc_eq).trans (by decide +kernel)
theorem d_L_law_947 : decode (mC M_L_law) 947 = .ok (.aload_n 0, 1) := (congrArg (fun b => decode b 947) lawc_eq).trans (by decide +kernel)
theorem d_L_law_948 : decode (mC M_L_law) 948 = .ok (.iload 4, 2) := (congrArg (fun b => decode b 948) lawc_eq).trans (by decide +kernel)
theorem d_L_law_950 : decode (mC M_L_law) 950 = .ok (.iconst 1, 1) := (congrArg (fun b => decode b 950) lawc_eq).trans (by decide +kernel)
theorem d_L_law_951 : decode (mC M_L_law) 951 = .ok (.iadd, 1) := (congrArg (fun b => decode b 951) lawc_eq).trans (by decide +kernel)
theorem d_L_law_952 : decode (mC M_L_law) 952 = .ok (.iaload, 1) := (congrArg (fun b => decode b 952) lawc_eq).trans (by decide +kernel)
theorem d_L_law_953 : decode (mC M_L_law) 953 = .ok (.aload_n 0, 1) := (congrArg (fun b => decode b 953) lawc_eq).trans (by decide +kernel)
theorem d_L_law_954 : decode (mC M_L_law) 954 = .ok (.iload 4, 2) := (congrArg (fun b => decode b 954) lawc_eq).trans (by decide +kernel)
theorem d_L_law_956 : decode (mC M_L_law) 956 = .ok (.iconst 2, 1) := (congrArg (fun b => decode b 956) lawc_eq).trans (by decide +kernel)
theorem d_L_law_957 : decode (mC M_L_law) 957 = .ok (.iadd, 1) := (congrArg (fun b => decode b 957) lawc_eq).trans (by decide +kernel)
theorem d_L_law_958 : decode (mC M_L_law) 958 = .ok (.iaload, 1) := (congrArg (fun b => decode b 958) lawc_eq).trans (by decide +kernel)
theorem d_L_law_959 : decode (mC M_L_law) 959 = .ok (.aload_n 0, 1) := (congrArg (fun b => decode b 959) lawc_eq).trans (by decide +kernel)
theorem d_L_law_960 : decode (mC M_L_law) 960 = .ok (.iload 4, 2) := (congrArg (fun b => decode b 960) lawc_eq).trans (by decide +kernel)
theorem d_L_law_962 : decode (mC M_L_law) 962 = .ok (.iconst 3, 1) := (congrArg (fun b => decode b 962) lawc_eq).trans (by decide +kernel)
theorem d_L_law_963 : decode (mC M_L_law) 963 = .ok (.iadd, 1) := (congrArg (fun b => decode b 963) lawc_eq).trans (by decide +kernel)
theorem d_L_law_964 : decode (mC M_L_law) 964 = .ok (.iaload, 1) := (congrArg (fun b => decode b 964) lawc_eq).trans (by decide +kernel)
theorem d_L_law_965 : decode (mC M_L_law) 965 = .ok (.invokevirtual 117, 3) := (congrArg (fun b => decode b 965) lawc_eq).trans (by decide +kernel)
theorem d_L_law_968 : decode (mC M_L_law) 968 = .ok (.lcmp, 1) := (congrArg (fun b => decode b 968) lawc_eq).trans (by decide +kernel)
theorem d_L_law_969 : decode (mC M_L_law) 969 = .ok (.ifCond .eq 30, 3) := (congrArg (fun b => decode b 969) lawc_eq).trans (by decide +kernel)
theorem d_L_law_972 : decode (mC M_L_law) 972 = .ok (.iconst 0, 1) := (congrArg (fun b => decode b 972) lawc_eq).trans (by decide +kernel)
theorem d_L_law_973 : decode (mC M_L_law) 973 = .ok (.ireturn, 1) := (congrArg (fun b => decode b 973) lawc_eq).trans (by decide +kernel)
theorem d_L_law_974 : decode (mC M_L_law) 974 = .ok (.aload_n 1, 1) := (congrArg (fun b => decode b 974) lawc_eq).trans (by decide +kernel)
theorem d_L_law_975 : decode (mC M_L_law) 975 = .ok (.aload_n 0, 1) := (congrArg (fun b => decode b 975) lawc_eq).trans (by decide +kernel)
theorem d_L_law_976 : decode (mC M_L_law) 976 = .ok (.iload 4, 2) := (congrArg (fun b => decode b 976) lawc_eq).trans (by decide +kernel)
theorem d_L_law_978 : decode (mC M_L_law) 978 = .ok (.iconst 1, 1) := (congrArg (fun b => decode b 978) lawc_eq).trans (by decide +kernel)
theorem d_L_law_979 : decode (mC M_L_law) 979 = .ok (.iadd, 1) := (congrArg (fun b => decode b 979) lawc_eq).trans (by decide +kernel)
theorem d_L_law_980 : decode (mC M_L_law) 980 = .ok (.iaload, 1) := (congrArg (fun b => decode b 980) lawc_eq).trans (by decide +kernel)
theorem d_L_law_981 : decode (mC M_L_law) 981 = .ok (.invokevirtual 118, 3) := (congrArg (fun b => decode b 981) lawc_eq).trans (by decide +kernel)
theorem d_L_law_984 : decode (mC M_L_law) 984 = .ok (.aload_n 2, 1) := (congrArg (fun b => decode b 984) lawc_eq).trans (by decide +kernel)
theorem d_L_law_985 : decode (mC M_L_law) 985 = .ok (.aload_n 0, 1) := (congrArg (fun b => decode b 985) lawc_eq).trans (by decide +kernel)
theorem d_L_law_986 : decode (mC M_L_law) 986 = .ok (.iload 4, 2) := (congrArg (fun b => decode b 986) lawc_eq).trans (by decide +kernel)
theorem d_L_law_988 : decode (mC M_L_law) 988 = .ok (.iconst 1, 1) := (congrArg (fun b => decode b 988) lawc_eq).trans (by decide +kernel)
theorem d_L_law_989 : decode (mC M_L_law) 989 = .ok (.iadd, 1) := (congrArg (fun b => decode b 989) lawc_eq).trans (by decide +kernel)
theorem d_L_law_990 : decode (mC M_L_law) 990 = .ok (.iaload, 1) := (congrArg (fun b => decode b 990) lawc_eq).trans (by decide +kernel)
theorem d_L_law_991 : decode (mC M_L_law) 991 = .ok (.invokevirtual 121, 3) := (congrArg (fun b => decode b 991) lawc_eq).trans (by decide +kernel)
theorem d_L_law_994 : decode (mC M_L_law) 994 = .ok (.if_icmp .eq 5, 3) := (congrArg (fun b => decode b 994) lawc_eq).trans (by decide +kernel)
theorem d_L_law_997 : decode (mC M_L_law) 997 = .ok (.iconst 0, 1) := (congrArg (fun b => decode b 997) lawc_eq).trans (by decide +kernel)
theorem d_L_law_998 : decode (mC M_L_law) 998 = .ok (.ireturn, 1) := (congrArg (fun b => decode b 998) lawc_eq).trans (by decide +kernel)
theorem d_L_law_999 : decode (mC M_L_law) 999 = .ok (.iinc 4 6, 3) := (congrArg (fun b => decode b 999) lawc_eq).trans (by decide +kernel)
theorem d_L_law_1002 : decode (mC M_L_law) 1002 = .ok (.goto (-979), 3) := (congrArg (fun b => decode b 1002) lawc_eq).trans (by decide +kernel)
theorem d_L_law_1005 : decode (mC M_L_law) 1005 = .ok (.iconst 1, 1) := (congrArg (fun b => decode b 1005) lawc_eq).trans (by decide +kernel)
theorem d_L_law_1006 : decode (mC M_L_law) 1006 = .ok (.ireturn, 1) := (congrArg (fun b => decode b 1006) lawc_eq).trans (by decide +kernel)
theorem d_L_seen_0 : decode (mC M_L_seen) 0 = .ok (.aload 4, 2) := by decide +kernel
theorem d_L_seen_2 : decode (mC M_L_seen) 2 = .ok (.iconst 0, 1) := by decide +kernel
theorem d_L_seen_3 : decode (mC M_L_seen) 3 = .ok (.aload_n 0, 1) := by decide +kernel
theorem d_L_seen_4 : decode (mC M_L_seen) 4 = .ok (.iload_n 1, 1) := by decide +kernel
theorem d_L_seen_5 : decode (mC M_L_seen) 5 = .ok (.iload_n 2, 1) := by decide +kernel
theorem d_L_seen_6 : decode (mC M_L_seen) 6 = .ok (.iload_n 3, 1) := by decide +kernel
theorem d_L_seen_7 : decode (mC M_L_seen) 7 = .ok (.invokevirtual 7, 3) := by decide +kernel
theorem d_L_seen_10 : decode (mC M_L_seen) 10 = .ok (.i2l, 1) := by decide +kernel
theorem d_L_seen_11 : decode (mC M_L_seen) 11 = .ok (.lastore, 1) := by decide +kernel
theorem d_L_seen_12 : decode (mC M_L_seen) 12 = .ok (.goto 7, 3) := by decide +kernel
theorem d_L_seen_15 : decode (mC M_L_seen) 15 = .ok (.astore 5, 2) := by decide +kernel
theorem d_L_seen_17 : decode (mC M_L_seen) 17 = .ok (.iconst 1, 1) := by decide +kernel
theorem d_L_seen_18 : decode (mC M_L_seen) 18 = .ok (.ireturn, 1) := by decide +kernel
theorem d_L_seen_19 : decode (mC M_L_seen) 19 = .ok (.iconst 0, 1) := by decide +kernel
theorem d_L_seen_20 : decode (mC M_L_seen) 20 = .ok (.ireturn, 1) := by decide +kernel
theorem d_X0_init_0 : decode (mC M_X0_init) 0 = .ok (.aload_n 0, 1) := by decide +kernel
theorem d_X0_init_1 : decode (mC M_X0_init) 1 = .ok (.invokespecial 3, 3) := by decide +kernel
theorem d_X0_init_4 : decode (mC M_X0_init) 4 = .ok (.aload_n 0, 1) := by decide +kernel
theorem d_X0_init_5 : decode (mC M_X0_init) 5 = .ok (.new 9, 3) := by decide +kernel
theorem d_X0_init_8 : decode (mC M_X0_init) 8 = .ok (.dup, 1) := by decide +kernel
theorem d_X0_init_9 : decode (mC M_X0_init) 9 = .ok (.invokespecial 11, 3) := by decide +kernel
theorem d_X0_init_12 : decode (mC M_X0_init) 12 = .ok (.putfield 12, 3) := by decide +kernel
theorem d_X0_init_15 : decode (mC M_X0_init) 15 = .ok (.aload_n 0, 1) := by decide +kernel
theorem d_X0_init_16 : decode (mC M_X0_init) 16 = .ok (.iload_n 1, 1) := by decide +kernel
theorem d_X0_init_17 : decode (mC M_X0_init) 17 = .ok (.putfield 18, 3) := by decide +kernel
theorem d_X0_init_20 : decode (mC M_X0_init) 20 = .ok (.return_, 1) := by decide +kernel
theorem d_X0_readFrom_0 : decode (mC M_X0_readFrom) 0 = .ok (.aload_n 1, 1) := by decide +kernel
theorem d_X0_readFrom_1 : decode (mC M_X0_readFrom) 1 = .ok (.invokevirtual 22, 3) := by decide +kernel
theorem d_X0_readFrom_4 : decode (mC M_X0_readFrom) 4 = .ok (.iconst 0, 1) := by decide +kernel
theorem d_X0_readFrom_5 : decode (mC M_X0_readFrom) 5 = .ok (.istore_n 2, 1) := by decide +kernel
theorem d_X0_readFrom_6 : decode (mC M_X0_readFrom) 6 = .ok (.iload_n 2, 1) := by decide +kernel
theorem d_X0_readFrom_7 : decode (mC M_X0_readFrom) 7 = .ok (.bipush 8, 2) := by decide +kernel
theorem d_X0_readFrom_9 : decode (mC M_X0_readFrom) 9 = .ok (.if_icmp .gt 86, 3) := by decide +kernel
theorem d_X0_readFrom_12 : decode (mC M_X0_readFrom) 12 = .ok (.aload_n 1, 1) := by decide +kernel
theorem d_X0_readFrom_13 : decode (mC M_X0_readFrom) 13 = .ok (.invokevirtual 27, 3) := by decide +kernel
theorem d_X0_readFrom_16 : decode (mC M_X0_readFrom) 16 = .ok (.ifCond .ne 79, 3) := by decide +kernel
theorem d_X0_readFrom_19 : decode (mC M_X0_readFrom) 19 = .ok (.new 31, 3) := by decide +kernel
theorem d_X0_readFrom_22 : decode (mC M_X0_readFrom) 22 = .ok (.dup, 1) := by decide +kernel
theorem d_X0_readFrom_23 : decode (mC M_X0_readFrom) 23 = .ok (.aload_n 1, 1) := by decide +kernel
theorem d_X0_readFrom_24 : decode (mC M_X0_readFrom) 24 = .ok (.invokestatic 33, 3) := by decide +kernel
theorem d_X0_readFrom_27 : decode (mC M_X0_readFrom) 27 = .ok (.invokespecial 37, 3) := by decide +kernel
theorem d_X0_readFrom_30 : decode (mC M_X0_readFrom) 30 = .ok (.astore_n 3, 1) := by decide +kernel
theorem d_X0_readFrom_31 : decode (mC M_X0_readFrom) 31 = .ok (.aload_n 3, 1) := by decide +kernel
theorem d_X0_readFrom_32 : decode (mC M_X0_readFrom) 32 = .ok (.getfield 40, 3) := by decide +kernel
theorem d_X0_readFrom_35 : decode (mC M_X0_readFrom) 35 = .ok (.iconst (-1), 1) := by decide +kernel
theorem d_X0_readFrom_36 : decode (mC M_X0_readFrom) 36 = .ok (.if_icmp .ne 9, 3) := by decide +kernel
theorem d_X0_readFrom_39 : decode (mC M_X0_readFrom) 39 = .ok (.aload_n 1, 1) := by decide +kernel
theorem d_X0_readFrom_40 : decode (mC M_X0_readFrom) 40 = .ok (.iconst 1, 1) := by decide +kernel
theorem d_X0_readFrom_41 : decode (mC M_X0_readFrom) 41 = .ok (.invokevirtual 43, 3) := by decide +kernel
theorem d_X0_readFrom_44 : decode (mC M_X0_readFrom) 44 = .ok (.ireturn, 1) := by decide +kernel
theorem d_X0_readFrom_45 : decode (mC M_X0_readFrom) 45 = .ok (.iload_n 2, 1) := by decide +kernel
theorem d_X0_readFrom_46 : decode (mC M_X0_readFrom) 46 = .ok (.bipush 8, 2) := by decide +kernel
theorem d_X0_readFrom_48 : decode (mC M_X0_readFrom) 48 = .ok (.if_icmp .ne 9, 3) := by decide +kernel
theorem d_X0_readFrom_51 : decode (mC M_X0_readFrom) 51 = .ok (.aload_n 1, 1) := by decide +kernel
theorem d_X0_readFrom_52 : decode (mC M_X0_readFrom) 52 = .ok (.iconst 2, 1) := by decide +kernel
theorem d_X0_readFrom_53 : decode (mC M_X0_readFrom) 53 = .ok (.invokevirtual 43, 3) := by decide +kernel
theorem d_X0_readFrom_56 : decode (mC M_X0_readFrom) 56 = .ok (.ireturn, 1) := by decide +kernel
theorem d_X0_readFrom_57 : decode (mC M_X0_readFrom) 57 = .ok (.aload_n 1, 1) := by decide +kernel
theorem d_X0_readFrom_58 : decode (mC M_X0_readFrom) 58 = .ok (.invokevirtual 47, 3) := by decide +kernel
theorem d_X0_readFrom_61 : decode (mC M_X0_readFrom) 61 = .ok (.aload_n 3, 1) := by decide +kernel
theorem d_X0_readFrom_62 : decode (mC M_X0_readFrom) 62 = .ok (.aload_n 1, 1) := by decide +kernel
theorem d_X0_readFrom_63 : decode (mC M_X0_readFrom) 63 = .ok (.invokevirtual 50, 3) := by decide +kernel
theorem d_X0_readFrom_66 : decode (mC M_X0_readFrom) 66 = .ok (.ifCond .eq 12, 3) := by decide +kernel
theorem d_X0_readFrom_69 : decode (mC M_X0_readFrom) 69 = .ok (.aload_n 1, 1) := by decide +kernel
theorem d_X0_readFrom_70 : decode (mC M_X0_readFrom) 70 = .ok (.bipush 59, 2) := by decide +kernel
theorem d_X0_readFrom_72 : decode (mC M_X0_readFrom) 72 = .ok (.invokevirtual 54, 3) := by decide +kernel
theorem d_X0_readFrom_75 : decode (mC M_X0_readFrom) 75 = .ok (.ifCond .ne 5, 3) := by decide +kernel
theorem d_X0_readFrom_78 : decode (mC M_X0_readFrom) 78 = .ok (.iconst 0, 1) := by decide +kernel
theorem d_X0_readFrom_79 : decode (mC M_X0_readFrom) 79 = .ok (.ireturn, 1) := by decide +kernel
theorem d_X0_readFrom_80 : decode (mC M_X0_readFrom) 80 = .ok (.aload_n 0, 1) := by decide +kernel
theorem d_X0_readFrom_81 : decode (mC M_X0_readFrom) 81 = .ok (.getfield 12, 3) := by decide +kernel
theorem d_X0_readFrom_84 : decode (mC M_X0_readFrom) 84 = .ok (.aload_n 3, 1) := by decide +kernel
theorem d_X0_readFrom_85 : decode (mC M_X0_readFrom) 85 = .ok (.invokevirtual 58, 3) := by decide +kernel
theorem d_X0_readFrom_88 : decode (mC M_X0_readFrom) 88 = .ok (.pop, 1) := by decide +kernel
theorem d_X0_readFrom_89 : decode (mC M_X0_readFrom) 89 = .ok (.iinc 2 1, 3) := by decide +kernel
theorem d_X0_readFrom_92 : decode (mC M_X0_readFrom) 92 = .ok (.goto (-86), 3) := by decide +kernel
theorem d_X0_readFrom_95 : decode (mC M_X0_readFrom) 95 = .ok (.iconst 1, 1) := by decide +kernel
theorem d_X0_readFrom_96 : decode (mC M_X0_readFrom) 96 = .ok (.ireturn, 1) := by decide +kernel
theorem d_X0_worth_0 : decode (mC M_X0_worth) 0 = .ok (.iconst 0, 1) := by decide +kernel
theorem d_X0_worth_1 : decode (mC M_X0_worth) 1 = .ok (.istore_n 3, 1) := by decide +kernel
theorem d_X0_worth_2 : decode (mC M_X0_worth) 2 = .ok (.iconst 0, 1) := by decide +kernel
theorem d_X0_worth_3 : decode (mC M_X0_worth) 3 = .ok (.istore 4, 2) := by decide +kernel
theorem d_X0_worth_5 : decode (mC M_X0_worth) 5 = .ok (.iload 4, 2) := by decide +kernel
theorem d_X0_worth_7 : decode (mC M_X0_worth) 7 = .ok (.aload_n 0, 1) := by decide +kernel
theorem d_X0_worth_8 : decode (mC M_X0_worth) 8 = .ok (.getfield 12, 3) := by decide +kernel
theorem d_X0_worth_11 : decode (mC M_X0_worth) 11 = .ok (.invokevirtual 62, 3) := by decide +kernel
theorem d_X0_worth_14 : decode (mC M_X0_worth) 14 = .ok (.if_icmp .ge 29, 3) := by decide +kernel
theorem d_X0_worth_17 : decode (mC M_X0_worth) 17 = .ok (.iload_n 3, 1) := by decide +kernel
theorem d_X0_worth_18 : decode (mC M_X0_worth) 18 = .ok (.aload_n 0, 1) := by decide +kernel
theorem d_X0_worth_19 : decode (mC M_X0_worth) 19 = .ok (.getfield 12, 3) := by decide +kernel
theorem d_X0_worth_22 : decode (mC M_X0_worth) 22 = .ok (.iload 4, 2) := by decide +kernel
theorem d_X0_worth_24 : decode (mC M_X0_worth) 24 = .ok (.invokevirtual 66, 3) := by decide +kernel
theorem d_X0_worth_27 : decode (mC M_X0_worth) 27 = .ok (.checkcast 31, 3) := by decide +kernel
theorem d_X0_worth_30 : decode (mC M_X0_worth) 30 = .ok (.iload_n 1, 1) := by decide +kernel
theorem d_X0_worth_31 : decode (mC M_X0_worth) 31 = .ok (.iload_n 2, 1) := by decide +kernel
theorem d_X0_worth_32 : decode (mC M_X0_worth) 32 = .ok (.invokevirtual 70, 3) := by decide +kernel
theorem d_X0_worth_35 : decode (mC M_X0_worth) 35 = .ok (.iadd, 1) := by decide +kernel
theorem d_X0_worth_36 : decode (mC M_X0_worth) 36 = .ok (.istore_n 3, 1) := by decide +kernel
theorem d_X0_worth_37 : decode (mC M_X0_worth) 37 = .ok (.iinc 4 1, 3) := by decide +kernel
theorem d_X0_worth_40 : decode (mC M_X0_worth) 40 = .ok (.goto (-35), 3) := by decide +kernel
theorem d_X0_worth_43 : decode (mC M_X0_worth) 43 = .ok (.iload_n 3, 1) := by decide +kernel
theorem d_X0_worth_44 : decode (mC M_X0_worth) 44 = .ok (.ireturn, 1) := by decide +kernel
theorem d_X10_answer_0 : decode (mC M_X10_answer) 0 = .ok (.iload_n 1, 1) := by decide +kernel
theorem d_X10_answer_1 : decode (mC M_X10_answer) 1 = .ok (.tableswitch 92 0 6 #[43, 48, 53, 58, 63, 68, 87], 43) := by decide +kernel
theorem d_X10_answer_44 : decode (mC M_X10_answer) 44 = .ok (.aload_n 0, 1) := by decide +kernel
theorem d_X10_answer_45 : decode (mC M_X10_answer) 45 = .ok (.getfield 28, 3) := by decide +kernel
theorem d_X10_answer_48 : decode (mC M_X10_answer) 48 = .ok (.ireturn, 1) := by decide +kernel
theorem d_X10_answer_49 : decode (mC M_X10_answer) 49 = .ok (.aload_n 0, 1) := by decide +kernel
theorem d_X10_answer_50 : decode (mC M_X10_answer) 50 = .ok (.getfield 51, 3) := by decide +kernel
theorem d_X10_answer_53 : decode (mC M_X10_answer) 53 = .ok (.ireturn, 1) := by decide +kernel
theorem d_X10_answer_54 : decode (mC M_X10_answer) 54 = .ok (.aload_n 0, 1) := by decide +kernel
theorem d_X10_answer_55 : decode (mC M_X10_answer) 55 = .ok (.getfield 60, 3) := by decide +kernel
theorem d_X10_answer_58 : decode (mC M_X10_answer) 58 = .ok (.ireturn, 1) := by decide +kernel
theorem d_X10_answer_59 : decode (mC M_X10_answer) 59 = .ok (.aload_n 0, 1) := by decide +kernel
theorem d_X10_answer_60 : decode (mC M_X10_answer) 60 = .ok (.getfield 32, 3) := by decide +kernel
theorem d_X10_answer_63 : decode (mC M_X10_answer) 63 = .ok (.ireturn, 1) := by decide +kernel
theorem d_X10_answer_64 : decode (mC M_X10_answer) 64 = .ok (.aload_n 0, 1) := by decide +kernel
theorem d_X10_answer_65 : decode (mC M_X10_answer) 65 = .ok (.getfield 36, 3) := by decide +kernel
theorem d_X10_answer_68 : decode (mC M_X10_answer) 68 = .ok (.ireturn, 1) := by decide +kernel
theorem d_X10_answer_69 : decode (mC M_X10_answer) 69 = .ok (.aload_n 0, 1) := by decide +kernel
theorem d_X10_answer_70 : decode (mC M_X10_answer) 70 = .ok (.getfield 39, 3) := by decide +kernel
theorem d_X10_answer_73 : decode (mC M_X10_answer) 73 = .ok (.ifnonnull 7, 3) := by decide +kernel
theorem d_X10_answer_76 : decode (mC M_X10_answer) 76 = .ok (.iconst (-1), 1) := by decide +kernel
theorem d_X10_answer_77 : decode (mC M_X10_answer) 77 = .ok (.goto 10, 3) := by decide +kernel
theorem d_X10_answer_80 : decode (mC M_X10_answer) 80 = .ok (.aload_n 0, 1) := by decide +kernel
theorem d_X10_answer_81 : decode (mC M_X10_answer) 81 = .ok (.getfield 39, 3) := by decide +kernel
theorem d_X10_answer_84 : decode (mC M_X10_answer) 84 = .ok (.getfield 63, 3) := by decide +kernel
theorem d_X10_answer_87 : decode (mC M_X10_answer) 87 = .ok (.ireturn, 1) := by decide +kernel
theorem d_X10_answer_88 : decode (mC M_X10_answer) 88 = .ok (.aload_n 0, 1) := by decide +kernel
theorem d_X10_answer_89 : decode (mC M_X10_answer) 89 = .ok (.invokevirtual 66, 3) := by decide +kernel
theorem d_X10_answer_92 : decode (mC M_X10_answer) 92 = .ok (.ireturn, 1) := by decide +kernel
theorem d_X10_answer_93 : decode (mC M_X10_answer) 93 = .ok (.iconst (-1), 1) := by decide +kernel
theorem d_X10_answer_94 : decode (mC M_X10_answer) 94 = .ok (.ireturn, 1) := by decide +kernel
theorem d_X10_earned_0 : decode (mC M_X10_earned) 0 = .ok (.aload_n 0, 1) := by decide +kernel
theorem d_X10_earned_1 : decode (mC M_X10_earned) 1 = .ok (.getfield 39, 3) := by decide +kernel
theorem d_X10_earned_4 : decode (mC M_X10_earned) 4 = .ok (.ifnonnull 7, 3) := by decide +kernel
theorem d_X10_earned_7 : decode (mC M_X10_earned) 7 = .ok (.iconst 0, 1) := by decide +kernel
theorem d_X10_earned_8 : decode (mC M_X10_earned) 8 = .ok (.goto 18, 3) := by decide +kernel
theorem d_X10_earned_11 : decode (mC M_X10_earned) 11 = .ok (.aload_n 0, 1) := by decide +kernel
theorem d_X10_earned_12 : decode (mC M_X10_earned) 12 = .ok (.getfield 39, 3) := by decide +kernel
theorem d_X10_earned_15 : decode (mC M_X10_earned) 15 = .ok (.aload_n 0, 1) := by decide +kernel
theorem d_X10_earned_16 : decode (mC M_X10_earned) 16 = .ok (.getfield 51, 3) := by decide +kernel
theorem d_X10_earned_19 : decode (mC M_X10_earned) 19 = .ok (.aload_n 0, 1) := by decide +kernel
theorem d_X10_earned_20 : decode (mC M_X10_earned) 20 = .ok (.getfield 36, 3) := by decide +kernel
theorem d_X10_earned_23 : decode (mC M_X10_earned) 23 = .ok (.invokevirtual 54, 3) := by decide +kernel
theorem d_X10_earned_26 : decode (mC M_X10_earned) 26 = .ok (.ireturn, 1) := by decide +kernel
theorem d_X10_init_0 : decode (mC M_X10_init) 0 = .ok (.aload_n 0, 1) := by decide +kernel
theorem d_X10_init_1 : decode (mC M_X10_init) 1 = .ok (.invokespecial 3, 3) := by decide +kernel
theorem d_X10_init_4 : decode (mC M_X10_init) 4 = .ok (.aload_n 0, 1) := by decide +kernel
theorem d_X10_init_5 : decode (mC M_X10_init) 5 = .ok (.aload_n 1, 1) := by decide +kernel
theorem d_X10_init_6 : decode (mC M_X10_init) 6 = .ok (.putfield 9, 3) := by decide +kernel
theorem d_X10_init_9 : decode (mC M_X10_init) 9 = .ok (.aload_n 0, 1) := by decide +kernel
theorem d_X10_init_10 : decode (mC M_X10_init) 10 = .ok (.iload_n 2, 1) := by decide +kernel
theorem d_X10_init_11 : decode (mC M_X10_init) 11 = .ok (.putfield 15, 3) := by decide +kernel
theorem d_X10_init_14 : decode (mC M_X10_init) 14 = .ok (.aload_n 0, 1) := by decide +kernel
theorem d_X10_init_15 : decode (mC M_X10_init) 15 = .ok (.aload_n 3, 1) := by decide +kernel
theorem d_X10_init_16 : decode (mC M_X10_init) 16 = .ok (.putfield 19, 3) := by decide +kernel
theorem d_X10_init_19 : decode (mC M_X10_init) 19 = .ok (.aload_n 0, 1) := by decide +kernel
theorem d_X10_init_20 : decode (mC M_X10_init) 20 = .ok (.aload_n 3, 1) := by decide +kernel
theorem d_X10_init_21 : decode (mC M_X10_init) 21 = .ok (.getfield 23, 3) := by decide +kernel
theorem d_X10_init_24 : decode (mC M_X10_init) 24 = .ok (.putfield 28, 3) := by decide +kernel
theorem d_X10_init_27 : decode (mC M_X10_init) 27 = .ok (.return_, 1) := by decide +kernel
theorem d_X10_send_0 : decode (mC M_X10_send) 0 = .ok (.aload_n 0, 1) := by decide +kernel
theorem d_X10_send_1 : decode (mC M_X10_send) 1 = .ok (.aload_n 0, 1) := by decide +kernel
theorem d_X10_send_2 : decode (mC M_X10_send) 2 = .ok (.getfield 19, 3) := by decide +kernel
theorem d_X10_send_5 : decode (mC M_X10_send) 5 = .ok (.getfield 29, 3) := by decide +kernel
theorem d_X10_send_8 : decode (mC M_X10_send) 8 = .ok (.putfield 32, 3) := by decide +kernel
theorem d_X10_send_11 : decode (mC M_X10_send) 11 = .ok (.aload_n 0, 1) := by decide +kernel
theorem d_X10_send_12 : decode (mC M_X10_send) 12 = .ok (.aload_n 0, 1) := by decide +kernel
theorem d_X10_send_13 : decode (mC M_X10_send) 13 = .ok (.getfield 32, 3) := by decide +kernel
theorem d_X10_send_16 : decode (mC M_X10_send) 16 = .ok (.aload_n 0, 1) := by decide +kernel
theorem d_X10_send_17 : decode (mC M_X10_send) 17 = .ok (.getfield 19, 3) := by decide +kernel
theorem d_X10_send_20 : decode (mC M_X10_send) 20 = .ok (.getfield 33, 3) := by decide +kernel
theorem d_X10_send_23 : decode (mC M_X10_send) 23 = .ok (.iadd, 1) := by decide +kernel
theorem d_X10_send_24 : decode (mC M_X10_send) 24 = .ok (.putfield 36, 3) := by decide +kernel
theorem d_X10_send_27 : decode (mC M_X10_send) 27 = .ok (.aload_n 0, 1) := by decide +kernel
theorem d_X10_send_28 : decode (mC M_X10_send) 28 = .ok (.aload_n 1, 1) := by decide +kernel
theorem d_X10_send_29 : decode (mC M_X10_send) 29 = .ok (.putfield 39, 3) := by decide +kernel
theorem d_X10_send_32 : decode (mC M_X10_send) 32 = .ok (.aload_n 0, 1) := by decide +kernel
theorem d_X10_send_33 : decode (mC M_X10_send) 33 = .ok (.getfield 9, 3) := by decide +kernel
theorem d_X10_send_36 : decode (mC M_X10_send) 36 = .ok (.dup, 1) := by decide +kernel
theorem d_X10_send_37 : decode (mC M_X10_send) 37 = .ok (.getfield 43, 3) := by decide +kernel
theorem d_X10_send_40 : decode (mC M_X10_send) 40 = .ok (.iconst 1, 1) := by decide +kernel
theorem d_X10_send_41 : decode (mC M_X10_send) 41 = .ok (.iadd, 1) := by decide +kernel
theorem d_X10_send_42 : decode (mC M_X10_send) 42 = .ok (.putfield 43, 3) := by decide +kernel
theorem d_X10_send_45 : decode (mC M_X10_send) 45 = .ok (.aload_n 0, 1) := by decide +kernel
theorem d_X10_send_46 : decode (mC M_X10_send) 46 = .ok (.getfield 9, 3) := by decide +kernel
theorem d_X10_send_49 : decode (mC M_X10_send) 49 = .ok (.sipush 1440, 3) := by decide +kernel
theorem d_X10_send_52 : decode (mC M_X10_send) 52 = .ok (.aload_n 0, 1) := by decide +kernel
theorem d_X10_send_53 : decode (mC M_X10_send) 53 = .ok (.getfield 15, 3) := by decide +kernel
theorem d_X10_send_56 : decode (mC M_X10_send) 56 = .ok (.imul, 1) := by decide +kernel
theorem d_X10_send_57 : decode (mC M_X10_send) 57 = .ok (.aload_n 0, 1) := by decide +kernel
theorem d_X10_send_58 : decode (mC M_X10_send) 58 = .ok (.getfield 36, 3) := by decide +kernel
theorem d_X10_send_61 : decode (mC M_X10_send) 61 = .ok (.iadd, 1) := by decide +kernel
theorem d_X10_send_62 : decode (mC M_X10_send) 62 = .ok (.sipush 660, 3) := by decide +kernel
theorem d_X10_send_65 : decode (mC M_X10_send) 65 = .ok (.iadd, 1) := by decide +kernel
theorem d_X10_send_66 : decode (mC M_X10_send) 66 = .ok (.putfield 48, 3) := by decide +kernel
theorem d_X10_send_69 : decode (mC M_X10_send) 69 = .ok (.return_, 1) := by decide +kernel
theorem d_X11_about_0 : decode (mC M_X11_about) 0 = .ok (.aload_n 0, 1) := by decide +kernel
theorem d_X11_about_1 : decode (mC M_X11_about) 1 = .ok (.iload_n 1, 1) := by decide +kernel
theorem d_X11_about_2 : decode (mC M_X11_about) 2 = .ok (.invokevirtual 93, 3) := by decide +kernel
theorem d_X11_about_5 : decode (mC M_X11_about) 5 = .ok (.astore_n 3, 1) := by decide +kernel
theorem d_X11_about_6 : decode (mC M_X11_about) 6 = .ok (.aload_n 3, 1) := by decide +kernel
theorem d_X11_about_7 : decode (mC M_X11_about) 7 = .ok (.ifnonnull 7, 3) := by decide +kernel
theorem d_X11_about_10 : decode (mC M_X11_about) 10 = .ok (.iconst (-1), 1) := by decide +kernel
theorem d_X11_about_11 : decode (mC M_X11_about) 11 = .ok (.goto 8, 3) := by decide +kernel
theorem d_X11_about_14 : decode (mC M_X11_about) 14 = .ok (.aload_n 3, 1) := by decide +kernel
theorem d_X11_about_15 : decode (mC M_X11_about) 15 = .ok (.iload_n 2, 1) := by decide +kernel
theorem d_X11_about_16 : decode (mC M_X11_about) 16 = .ok (.invokevirtual 234, 3) := by decide +kernel
theorem d_X11_about_19 : decode (mC M_X11_about) 19 = .ok (.ireturn, 1) := by decide +kernel
theorem d_X11_addBytes_0 : decode (mC M_X11_addBytes) 0 = .ok (.bipush 24, 2) := by decide +kernel
theorem d_X11_addBytes_2 : decode (mC M_X11_addBytes) 2 = .ok (.istore_n 2, 1) := by decide +kernel
theorem d_X11_addBytes_3 : decode (mC M_X11_addBytes) 3 = .ok (.iload_n 2, 1) := by decide +kernel
theorem d_X11_addBytes_4 : decode (mC M_X11_addBytes) 4 = .ok (.ifCond .lt 23, 3) := by decide +kernel
theorem d_X11_addBytes_7 : decode (mC M_X11_addBytes) 7 = .ok (.aload_n 0, 1) := by decide +kernel
theorem d_X11_addBytes_8 : decode (mC M_X11_addBytes) 8 = .ok (.getfield 21, 3) := by decide +kernel
theorem d_X11_addBytes_11 : decode (mC M_X11_addBytes) 11 = .ok (.iload_n 1, 1) := by decide +kernel
theorem d_X11_addBytes_12 : decode (mC M_X11_addBytes) 12 = .ok (.iload_n 2, 1) := by decide +kernel
theorem d_X11_addBytes_13 : decode (mC M_X11_addBytes) 13 = .ok (.iushr, 1) := by decide +kernel
theorem d_X11_addBytes_14 : decode (mC M_X11_addBytes) 14 = .ok (.sipush 255, 3) := by decide +kernel
theorem d_X11_addBytes_17 : decode (mC M_X11_addBytes) 17 = .ok (.iand, 1) := by decide +kernel
theorem d_X11_addBytes_18 : decode (mC M_X11_addBytes) 18 = .ok (.invokevirtual 228, 3) := by decide +kernel
theorem d_X11_addBytes_21 : decode (mC M_X11_addBytes) 21 = .ok (.iinc 2 (-8), 3) := by decide +kernel
theorem d_X11_addBytes_24 : decode (mC M_X11_addBytes) 24 = .ok (.goto (-21), 3) := by decide +kernel
theorem d_X11_addBytes_27 : decode (mC M_X11_addBytes) 27 = .ok (.return_, 1) := by decide +kernel
theorem d_X11_agree_0 : decode (mC M_X11_agree) 0 = .ok (.aload_n 0, 1) := by decide +kernel
theorem d_X11_agree_1 : decode (mC M_X11_agree) 1 = .ok (.getfield 43, 3) := by decide +kernel
theorem d_X11_agree_4 : decode (mC M_X11_agree) 4 = .ok (.invokevirtual 80, 3) := by decide +kernel
theorem d_X11_agree_7 : decode (mC M_X11_agree) 7 = .ok (.bipush 30, 2) := by decide +kernel
theorem d_X11_agree_9 : decode (mC M_X11_agree) 9 = .ok (.if_icmp .lt 6, 3) := by decide +kernel
theorem d_X11_agree_12 : decode (mC M_X11_agree) 12 = .ok (.bipush (-2), 2) := by decide +kernel
theorem d_X11_agree_14 : decode (mC M_X11_agree) 14 = .ok (.ireturn, 1) := by decide +kernel
theorem d_X11_agree_15 : decode (mC M_X11_agree) 15 = .ok (.new 121, 3) := by decide +kernel
theorem d_X11_agree_18 : decode (mC M_X11_agree) 18 = .ok (.dup, 1) := by decide +kernel
theorem d_X11_agree_19 : decode (mC M_X11_agree) 19 = .ok (.aload_n 0, 1) := by decide +kernel
theorem d_X11_agree_20 : decode (mC M_X11_agree) 20 = .ok (.getfield 43, 3) := by decide +kernel
theorem d_X11_agree_23 : decode (mC M_X11_agree) 23 = .ok (.invokevirtual 80, 3) := by decide +kernel
theorem d_X11_agree_26 : decode (mC M_X11_agree) 26 = .ok (.invokespecial 123, 3) := by decide +kernel
theorem d_X11_agree_29 : decode (mC M_X11_agree) 29 = .ok (.astore_n 1, 1) := by decide +kernel
theorem d_X11_agree_30 : decode (mC M_X11_agree) 30 = .ok (.aload_n 1, 1) := by decide +kernel
theorem d_X11_agree_31 : decode (mC M_X11_agree) 31 = .ok (.aload_n 0, 1) := by decide +kernel
theorem d_X11_agree_32 : decode (mC M_X11_agree) 32 = .ok (.getfield 30, 3) := by decide +kernel
theorem d_X11_agree_35 : decode (mC M_X11_agree) 35 = .ok (.invokevirtual 124, 3) := by decide +kernel
theorem d_X11_agree_38 : decode (mC M_X11_agree) 38 = .ok (.istore_n 2, 1) := by decide +kernel
theorem d_X11_agree_39 : decode (mC M_X11_agree) 39 = .ok (.aload_n 0, 1) := by decide +kernel
theorem d_X11_agree_40 : decode (mC M_X11_agree) 40 = .ok (.getfield 21, 3) := by decide +kernel
theorem d_X11_agree_43 : decode (mC M_X11_agree) 43 = .ok (.iconst 0, 1) := by decide +kernel
theorem d_X11_agree_44 : decode (mC M_X11_agree) 44 = .ok (.putfield 105, 3) := by decide +kernel
theorem d_X11_agree_47 : decode (mC M_X11_agree) 47 = .ok (.iload_n 2, 1) := by decide +kernel
theorem d_X11_agree_48 : decode (mC M_X11_agree) 48 = .ok (.ifCond .ne 14, 3) := by decide +kernel
theorem d_X11_agree_51 : decode (mC M_X11_agree) 51 = .ok (.bipush (-2), 2) := by decide +kernel
theorem d_X11_agree_53 : decode (mC M_X11_agree) 53 = .ok (.aload_n 0, 1) := by decide +kernel
theorem d_X11_agree_54 : decode (mC M_X11_agree) 54 = .ok (.getfield 30, 3) := by decide +kernel
theorem d_X11_agree_57 : decode (mC M_X11_agree) 57 = .ok (.getfield 115, 3) := by decide +kernel
theorem d_X11_agree_60 : decode (mC M_X11_agree) 60 = .ok (.isub, 1) := by decide +kernel
theorem d_X11_agree_61 : decode (mC M_X11_agree) 61 = .ok (.ireturn, 1) := by decide +kernel
theorem d_X11_agree_62 : decode (mC M_X11_agree) 62 = .ok (.aload_n 0, 1) := by decide +kernel
theorem d_X11_agree_63 : decode (mC M_X11_agree) 63 = .ok (.getfield 43, 3) := by decide +kernel
theorem d_X11_agree_66 : decode (mC M_X11_agree) 66 = .ok (.aload_n 1, 1) := by decide +kernel
theorem d_X11_agree_67 : decode (mC M_X11_agree) 67 = .ok (.invokevirtual 89, 3) := by decide +kernel
theorem d_X11_agree_70 : decode (mC M_X11_agree) 70 = .ok (.pop, 1) := by decide +kernel
theorem d_X11_agree_71 : decode (mC M_X11_agree) 71 = .ok (.aload_n 1, 1) := by decide +kernel
theorem d_X11_agree_72 : decode (mC M_X11_agree) 72 = .ok (.getfield 128, 3) := by decide +kernel
theorem d_X11_agree_75 : decode (mC M_X11_agree) 75 = .ok (.ireturn, 1) := by decide +kernel
theorem d_X11_ask_0 : decode (mC M_X11_ask) 0 = .ok (.aload_n 0, 1) := by decide +kernel
theorem d_X11_ask_1 : decode (mC M_X11_ask) 1 = .ok (.getfield 58, 3) := by decide +kernel
theorem d_X11_ask_4 : decode (mC M_X11_ask) 4 = .ok (.iload_n 1, 1) := by decide +kernel
theorem d_X11_ask_5 : decode (mC M_X11_ask) 5 = .ok (.invokevirtual 134, 3) := by decide +kernel
theorem d_X11_ask_8 : decode (mC M_X11_ask) 8 = .ok (.astore_n 3, 1) := by decide +kernel
theorem d_X11_ask_9 : decode (mC M_X11_ask) 9 = .ok (.aload_n 3, 1) := by decide +kernel
theorem d_X11_ask_10 : decode (mC M_X11_ask) 10 = .ok (.ifnonnull 7, 3) := by decide +kernel
theorem d_X11_ask_13 : decode (mC M_X11_ask) 13 = .ok (.iconst (-1), 1) := by decide +kernel
theorem d_X11_ask_14 : decode (mC M_X11_ask) 14 = .ok (.goto 8, 3) := by decide +kernel
theorem d_X11_ask_17 : decode (mC M_X11_ask) 17 = .ok (.aload_n 3, 1) := by decide +kernel
theorem d_X11_ask_18 : decode (mC M_X11_ask) 18 = .ok (.iload_n 2, 1) := by decide +kernel
theorem d_X11_ask_19 : decode (mC M_X11_ask) 19 = .ok (.invokevirtual 233, 3) := by decide +kernel
theorem d_X11_ask_22 : decode (mC M_X11_ask) 22 = .ok (.ireturn, 1) := by decide +kernel
theorem d_X11_asks_0 : decode (mC M_X11_asks) 0 = .ok (.aload_n 0, 1) := by decide +kernel
theorem d_X11_asks_1 : decode (mC M_X11_asks) 1 = .ok (.getfield 39, 3) := by decide +kernel
theorem d_X11_asks_4 : decode (mC M_X11_asks) 4 = .ok (.invokevirtual 111, 3) := by decide +kernel
theorem d_X11_asks_7 : decode (mC M_X11_asks) 7 = .ok (.astore_n 1, 1) := by decide +kernel
theorem d_X11_asks_8 : decode (mC M_X11_asks) 8 = .ok (.aload_n 0, 1) := by decide +kernel
theorem d_X11_asks_9 : decode (mC M_X11_asks) 9 = .ok (.getfield 21, 3) := by decide +kernel
theorem d_X11_asks_12 : decode (mC M_X11_asks) 12 = .ok (.iconst 0, 1) := by decide +kernel
theorem d_X11_asks_13 : decode (mC M_X11_asks) 13 = .ok (.putfield 105, 3) := by decide +kernel
theorem d_X11_asks_16 : decode (mC M_X11_asks) 16 = .ok (.aload_n 1, 1) := by decide +kernel
theorem d_X11_asks_17 : decode (mC M_X11_asks) 17 = .ok (.ifnonnull 14, 3) := by decide +kernel
theorem d_X11_asks_20 : decode (mC M_X11_asks) 20 = .ok (.bipush (-2), 2) := by decide +kernel
theorem d_X11_asks_22 : decode (mC M_X11_asks) 22 = .ok (.aload_n 0, 1) := by decide +kernel
theorem d_X11_asks_23 : decode (mC M_X11_asks) 23 = .ok (.getfield 30, 3) := by decide +kernel
theorem d_X11_asks_26 : decode (mC M_X11_asks) 26 = .ok (.getfield 115, 3) := by decide +kernel
theorem d_X11_asks_29 : decode (mC M_X11_asks) 29 = .ok (.isub, 1) := by decide +kernel
theorem d_X11_asks_30 : decode (mC M_X11_asks) 30 = .ok (.ireturn, 1) := by decide +kernel
theorem d_X11_asks_31 : decode (mC M_X11_asks) 31 = .ok (.aload_n 0, 1) := by decide +kernel
theorem d_X11_asks_32 : decode (mC M_X11_asks) 32 = .ok (.getfield 58, 3) := by decide +kernel
theorem d_X11_asks_35 : decode (mC M_X11_asks) 35 = .ok (.aload_n 1, 1) := by decide +kernel
theorem d_X11_asks_36 : decode (mC M_X11_asks) 36 = .ok (.invokevirtual 118, 3) := by decide +kernel
theorem d_X11_asks_39 : decode (mC M_X11_asks) 39 = .ok (.aload_n 1, 1) := by decide +kernel
theorem d_X11_asks_40 : decode (mC M_X11_asks) 40 = .ok (.invokevirtual 80, 3) := by decide +kernel
theorem d_X11_asks_43 : decode (mC M_X11_asks) 43 = .ok (.ireturn, 1) := by decide +kernel
theorem d_X11_away_0 : decode (mC M_X11_away) 0 = .ok (.aload_n 0, 1) := by decide +kernel
theorem d_X11_away_1 : decode (mC M_X11_away) 1 = .ok (.iload_n 1, 1) := by decide +kernel
theorem d_X11_away_2 : decode (mC M_X11_away) 2 = .ok (.invokevirtual 93, 3) := by decide +kernel
theorem d_X11_away_5 : decode (mC M_X11_away) 5 = .ok (.astore_n 3, 1) := by decide +kernel
theorem d_X11_away_6 : decode (mC M_X11_away) 6 = .ok (.aload_n 3, 1) := by decide +kernel
theorem d_X11_away_7 : decode (mC M_X11_away) 7 = .ok (.ifnull 10, 3) := by decide +kernel
theorem d_X11_away_10 : decode (mC M_X11_away) 10 = .ok (.aload_n 3, 1) := by decide +kernel
theorem d_X11_away_11 : decode (mC M_X11_away) 11 = .ok (.getfield 97, 3) := by decide +kernel
theorem d_X11_away_14 : decode (mC M_X11_away) 14 = .ok (.ifnull 5, 3) := by decide +kernel
theorem d_X11_away_17 : decode (mC M_X11_away) 17 = .ok (.iconst 0, 1) := by decide +kernel
theorem d_X11_away_18 : decode (mC M_X11_away) 18 = .ok (.ireturn, 1) := by decide +kernel
theorem d_X11_away_19 : decode (mC M_X11_away) 19 = .ok (.aload_n 3, 1) := by decide +kernel
theorem d_X11_away_20 : decode (mC M_X11_away) 20 = .ok (.iload_n 2, 1) := by decide +kernel
theorem d_X11_away_21 : decode (mC M_X11_away) 21 = .ok (.putfield 101, 3) := by decide +kernel
theorem d_X11_away_24 : decode (mC M_X11_away) 24 = .ok (.iconst 1, 1) := by decide +kernel
theorem d_X11_away_25 : decode (mC M_X11_away) 25 = .ok (.ireturn, 1) := by decide +kernel
theorem d_X11_buses_0 : decode (mC M_X11_buses) 0 = .ok (.iload_n 1, 1) := by decide +kernel
theorem d_X11_buses_1 : decode (mC M_X11_buses) 1 = .ok (.iconst 0, 1) := by decide +kernel
theorem d_X11_buses_2 : decode (mC M_X11_buses) 2 = .ok (.iconst 3, 1) := by decide +kernel
theorem d_X11_buses_3 : decode (mC M_X11_buses) 3 = .ok (.invokestatic 75, 3) := by decide +kernel
theorem d_X11_buses_6 : decode (mC M_X11_buses) 6 = .ok (.ifCond .eq 13, 3) := by decide +kernel
theorem d_X11_buses_9 : decode (mC M_X11_buses) 9 = .ok (.iload_n 2, 1) := by decide +kernel
theorem d_X11_buses_10 : decode (mC M_X11_buses) 10 = .ok (.iconst 1, 1) := by decide +kernel
theorem d_X11_buses_11 : decode (mC M_X11_buses) 11 = .ok (.bipush 100, 2) := by decide +kernel
theorem d_X11_buses_13 : decode (mC M_X11_buses) 13 = .ok (.invokestatic 75, 3) := by decide +kernel
theorem d_X11_buses_16 : decode (mC M_X11_buses) 16 = .ok (.ifCond .ne 5, 3) := by decide +kernel
theorem d_X11_buses_19 : decode (mC M_X11_buses) 19 = .ok (.iconst (-1), 1) := by decide +kernel
theorem d_X11_buses_20 : decode (mC M_X11_buses) 20 = .ok (.ireturn, 1) := by decide +kernel
theorem d_X11_buses_21 : decode (mC M_X11_buses) 21 = .ok (.iconst 0, 1) := by decide +kernel
theorem d_X11_buses_22 : decode (mC M_X11_buses) 22 = .ok (.istore_n 3, 1) := by decide +kernel
theorem d_X11_buses_23 : decode (mC M_X11_buses) 23 = .ok (.iconst 0, 1) := by decide +kernel
theorem d_X11_buses_24 : decode (mC M_X11_buses) 24 = .ok (.istore 4, 2) := by decide +kernel
theorem d_X11_buses_26 : decode (mC M_X11_buses) 26 = .ok (.iload 4, 2) := by decide +kernel
theorem d_X11_buses_28 : decode (mC M_X11_buses) 28 = .ok (.aload_n 0, 1) := by decide +kernel
theorem d_X11_buses_29 : decode (mC M_X11_buses) 29 = .ok (.getfield 10, 3) := by decide +kernel
theorem d_X11_buses_32 : decode (mC M_X11_buses) 32 = .ok (.invokevirtual 80, 3) := by decide +kernel
theorem d_X11_buses_35 : decode (mC M_X11_buses) 35 = .ok (.if_icmp .ge 43, 3) := by decide +kernel
theorem d_X11_buses_38 : decode (mC M_X11_buses) 38 = .ok (.aload_n 0, 1) := by decide +kernel
theorem d_X11_buses_39 : decode (mC M_X11_buses) 39 = .ok (.getfield 10, 3) := by decide +kernel
theorem d_X11_buses_42 : decode (mC M_X11_buses) 42 = .ok (.iload 4, 2) := by decide +kernel
theorem d_X11_buses_44 : decode (mC M_X11_buses) 44 = .ok (.invokevirtual 218, 3) := by decide +kernel
theorem d_X11_buses_47 : decode (mC M_X11_buses) 47 = .ok (.checkcast 84, 3) := by decide +kernel
theorem d_X11_buses_50 : decode (mC M_X11_buses) 50 = .ok (.astore 5, 2) := by decide +kernel
theorem d_X11_buses_52 : decode (mC M_X11_buses) 52 = .ok (.aload 5, 2) := by decide +kernel
theorem d_X11_buses_54 : decode (mC M_X11_buses) 54 = .ok (.getfield 97, 3) := by decide +kernel
theorem d_X11_buses_57 : decode (mC M_X11_buses) 57 = .ok (.ifnull 15, 3) := by decide +kernel
theorem d_X11_buses_60 : decode (mC M_X11_buses) 60 = .ok (.aload 5, 2) := by decide +kernel
theorem d_X11_buses_62 : decode (mC M_X11_buses) 62 = .ok (.getfield 230, 3) := by decide +kernel
theorem d_X11_buses_65 : decode (mC M_X11_buses) 65 = .ok (.iload_n 1, 1) := by decide +kernel
theorem d_X11_buses_66 : decode (mC M_X11_buses) 66 = .ok (.if_icmp .ne 6, 3) := by decide +kernel
theorem d_X11_buses_69 : decode (mC M_X11_buses) 69 = .ok (.iinc 3 1, 3) := by decide +kernel
theorem d_X11_buses_72 : decode (mC M_X11_buses) 72 = .ok (.iinc 4 1, 3) := by decide +kernel
theorem d_X11_buses_75 : decode (mC M_X11_buses) 75 = .ok (.goto (-49), 3) := by decide +kernel
theorem d_X11_buses_78 : decode (mC M_X11_buses) 78 = .ok (.iload_n 3, 1) := by decide +kernel
theorem d_X11_buses_79 : decode (mC M_X11_buses) 79 = .ok (.iload_n 2, 1) := by decide +kernel
theorem d_X11_buses_80 : decode (mC M_X11_buses) 80 = .ok (.iadd, 1) := by decide +kernel
theorem d_X11_buses_81 : decode (mC M_X11_buses) 81 = .ok (.iconst 1, 1) := by decide +kernel
theorem d_X11_buses_82 : decode (mC M_X11_buses) 82 = .ok (.isub, 1) := by decide +kernel
theorem d_X11_buses_83 : decode (mC M_X11_buses) 83 = .ok (.iload_n 2, 1) := by decide +kernel
theorem d_X11_buses_84 : decode (mC M_X11_buses) 84 = .ok (.idiv, 1) := by decide +kernel
theorem d_X11_buses_85 : decode (mC M_X11_buses) 85 = .ok (.ireturn, 1) := by decide +kernel
theorem d_X11_called_0 : decode (mC M_X11_called) 0 = .ok (.aload_n 0, 1) := by decide +kernel
theorem d_X11_called_1 : decode (mC M_X11_called) 1 = .ok (.iload_n 1, 1) := by decide +kernel
theorem d_X11_called_2 : decode (mC M_X11_called) 2 = .ok (.invokevirtual 93, 3) := by decide +kernel
theorem d_X11_called_5 : decode (mC M_X11_called) 5 = .ok (.astore_n 2, 1) := by decide +kernel
theorem d_X11_called_6 : decode (mC M_X11_called) 6 = .ok (.aload_n 2, 1) := by decide +kernel
theorem d_X11_called_7 : decode (mC M_X11_called) 7 = .ok (.ifnull 10, 3) := by decide +kernel
theorem d_X11_called_10 : decode (mC M_X11_called) 10 = .ok (.aload_n 2, 1) := by decide +kernel
theorem d_X11_called_11 : decode (mC M_X11_called) 11 = .ok (.getfield 97, 3) := by decide +kernel
theorem d_X11_called_14 : decode (mC M_X11_called) 14 = .ok (.ifnonnull 7, 3) := by decide +kernel
theorem d_X11_called_17 : decode (mC M_X11_called) 17 = .ok (.iconst (-1), 1) := by decide +kernel
theorem d_X11_called_18 : decode (mC M_X11_called) 18 = .ok (.goto 10, 3) := by decide +kernel
theorem d_X11_called_21 : decode (mC M_X11_called) 21 = .ok (.aload_n 2, 1) := by decide +kernel
theorem d_X11_called_22 : decode (mC M_X11_called) 22 = .ok (.getfield 97, 3) := by decide +kernel
theorem d_X11_called_25 : decode (mC M_X11_called) 25 = .ok (.getfield 161, 3) := by decide +kernel
theorem d_X11_called_28 : decode (mC M_X11_called) 28 = .ok (.ireturn, 1) := by decide +kernel
theorem d_X11_count_0 : decode (mC M_X11_count) 0 = .ok (.iload_n 1, 1) := by decide +kernel
theorem d_X11_count_1 : decode (mC M_X11_count) 1 = .ok (.tableswitch 111 0 7 #[47, 55, 66, 74, 82, 87, 95, 103], 47) := by decide +kernel
theorem d_X11_count_48 : decode (mC M_X11_count) 48 = .ok (.aload_n 0, 1) := by decide +kernel
theorem d_X11_count_49 : decode (mC M_X11_count) 49 = .ok (.getfield 10, 3) := by decide +kernel
theorem d_X11_count_52 : decode (mC M_X11_count) 52 = .ok (.invokevirtual 80, 3) := by decide +kernel
theorem d_X11_count_55 : decode (mC M_X11_count) 55 = .ok (.ireturn, 1) := by decide +kernel
theorem d_X11_count_56 : decode (mC M_X11_count) 56 = .ok (.aload_n 0, 1) := by decide +kernel
theorem d_X11_count_57 : decode (mC M_X11_count) 57 = .ok (.getfield 58, 3) := by decide +kernel
theorem d_X11_count_60 : decode (mC M_X11_count) 60 = .ok (.getfield 150, 3) := by decide +kernel
theorem d_X11_count_63 : decode (mC M_X11_count) 63 = .ok (.invokevirtual 80, 3) := by decide +kernel
theorem d_X11_count_66 : decode (mC M_X11_count) 66 = .ok (.ireturn, 1) := by decide +kernel
theorem d_X11_count_67 : decode (mC M_X11_count) 67 = .ok (.aload_n 0, 1) := by decide +kernel
theorem d_X11_count_68 : decode (mC M_X11_count) 68 = .ok (.getfield 43, 3) := by decide +kernel
theorem d_X11_count_71 : decode (mC M_X11_count) 71 = .ok (.invokevirtual 80, 3) := by decide +kernel
theorem d_X11_count_74 : decode (mC M_X11_count) 74 = .ok (.ireturn, 1) := by decide +kernel
theorem d_X11_count_75 : decode (mC M_X11_count) 75 = .ok (.aload_n 0, 1) := by decide +kernel
theorem d_X11_count_76 : decode (mC M_X11_count) 76 = .ok (.getfield 49, 3) := by decide +kernel
theorem d_X11_count_79 : decode (mC M_X11_count) 79 = .ok (.invokevirtual 206, 3) := by decide +kernel
theorem d_X11_count_82 : decode (mC M_X11_count) 82 = .ok (.ireturn, 1) := by decide +kernel
theorem d_X11_count_83 : decode (mC M_X11_count) 83 = .ok (.aload_n 0, 1) := by decide +kernel
theorem d_X11_count_84 : decode (mC M_X11_count) 84 = .ok (.getfield 143, 3) := by decide +kernel
theorem d_X11_count_87 : decode (mC M_X11_count) 87 = .ok (.ireturn, 1) := by decide +kernel
theorem d_X11_count_88 : decode (mC M_X11_count) 88 = .ok (.aload_n 0, 1) := by decide +kernel
theorem d_X11_count_89 : decode (mC M_X11_count) 89 = .ok (.getfield 58, 3) := by decide +kernel
theorem d_X11_count_92 : decode (mC M_X11_count) 92 = .ok (.invokevirtual 160, 3) := by decide +kernel
theorem d_X11_count_95 : decode (mC M_X11_count) 95 = .ok (.ireturn, 1) := by decide +kernel
theorem d_X11_count_96 : decode (mC M_X11_count) 96 = .ok (.aload_n 0, 1) := by decide +kernel
theorem d_X11_count_97 : decode (mC M_X11_count) 97 = .ok (.getfield 21, 3) := by decide +kernel
theorem d_X11_count_100 : decode (mC M_X11_count) 100 = .ok (.getfield 105, 3) := by decide +kernel
theorem d_X11_count_103 : decode (mC M_X11_count) 103 = .ok (.ireturn, 1) := by decide +kernel
theorem d_X11_count_104 : decode (mC M_X11_count) 104 = .ok (.aload_n 0, 1) := by decide +kernel
theorem d_X11_count_105 : decode (mC M_X11_count) 105 = .ok (.getfield 69, 3) := by decide +kernel
theorem d_X11_count_108 : decode (mC M_X11_count) 108 = .ok (.invokevirtual 80, 3) := by decide +kernel
theorem d_X11_count_111 : decode (mC M_X11_count) 111 = .ok (.ireturn, 1) := by decide +kernel
theorem d_X11_count_112 : decode (mC M_X11_count) 112 = .ok (.iconst (-1), 1) := by decide +kernel
theorem d_X11_count_113 : decode (mC M_X11_count) 113 = .ok (.ireturn, 1) := by decide +kernel
theorem d_X11_end_0 : decode (mC M_X11_end) 0 = .ok (.iload_n 1, 1) := by decide +kernel
theorem d_X11_end_1 : decode (mC M_X11_end) 1 = .ok (.iconst 0, 1) := by decide +kernel
theorem d_X11_end_2 : decode (mC M_X11_end) 2 = .ok (.aload_n 0, 1) := by decide +kernel
theorem d_X11_end_3 : decode (mC M_X11_end) 3 = .ok (.getfield 21, 3) := by decide +kernel
theorem d_X11_end_6 : decode (mC M_X11_end) 6 = .ok (.getfield 105, 3) := by decide +kernel
theorem d_X11_end_9 : decode (mC M_X11_end) 9 = .ok (.invokestatic 75, 3) := by decide +kernel
theorem d_X11_end_12 : decode (mC M_X11_end) 12 = .ok (.ifCond .ne 5, 3) := by decide +kernel
theorem d_X11_end_15 : decode (mC M_X11_end) 15 = .ok (.iconst (-1), 1) := by decide +kernel
theorem d_X11_end_16 : decode (mC M_X11_end) 16 = .ok (.ireturn, 1) := by decide +kernel
theorem d_X11_end_17 : decode (mC M_X11_end) 17 = .ok (.aload_n 0, 1) := by decide +kernel
theorem d_X11_end_18 : decode (mC M_X11_end) 18 = .ok (.getfield 21, 3) := by decide +kernel
theorem d_X11_end_21 : decode (mC M_X11_end) 21 = .ok (.iload_n 1, 1) := by decide +kernel
theorem d_X11_end_22 : decode (mC M_X11_end) 22 = .ok (.putfield 105, 3) := by decide +kernel
theorem d_X11_end_25 : decode (mC M_X11_end) 25 = .ok (.iload_n 1, 1) := by decide +kernel
theorem d_X11_end_26 : decode (mC M_X11_end) 26 = .ok (.ireturn, 1) := by decide +kernel
theorem d_X11_feed_0 : decode (mC M_X11_feed) 0 = .ok (.aload_n 0, 1) := by decide +kernel
theorem d_X11_feed_1 : decode (mC M_X11_feed) 1 = .ok (.getfield 21, 3) := by decide +kernel
theorem d_X11_feed_4 : decode (mC M_X11_feed) 4 = .ok (.getfield 105, 3) := by decide +kernel
theorem d_X11_feed_7 : decode (mC M_X11_feed) 7 = .ok (.bipush 20, 2) := by decide +kernel
theorem d_X11_feed_9 : decode (mC M_X11_feed) 9 = .ok (.iadd, 1) := by decide +kernel
theorem d_X11_feed_10 : decode (mC M_X11_feed) 10 = .ok (.sipush 1000, 3) := by decide +kernel
theorem d_X11_feed_13 : decode (mC M_X11_feed) 13 = .ok (.if_icmp .le 5, 3) := by decide +kernel
theorem d_X11_feed_16 : decode (mC M_X11_feed) 16 = .ok (.iconst (-1), 1) := by decide +kernel
theorem d_X11_feed_17 : decode (mC M_X11_feed) 17 = .ok (.ireturn, 1) := by decide +kernel
theorem d_X11_feed_18 : decode (mC M_X11_feed) 18 = .ok (.aload_n 0, 1) := by decide +kernel
theorem d_X11_feed_19 : decode (mC M_X11_feed) 19 = .ok (.iload_n 1, 1) := by decide +kernel
theorem d_X11_feed_20 : decode (mC M_X11_feed) 20 = .ok (.invokevirtual 108, 3) := by decide +kernel
theorem d_X11_feed_23 : decode (mC M_X11_feed) 23 = .ok (.aload_n 0, 1) := by decide +kernel
theorem d_X11_feed_24 : decode (mC M_X11_feed) 24 = .ok (.iload_n 2, 1) := by decide +kernel
theorem d_X11_feed_25 : decode (mC M_X11_feed) 25 = .ok (.invokevirtual 108, 3) := by decide +kernel
theorem d_X11_feed_28 : decode (mC M_X11_feed) 28 = .ok (.aload_n 0, 1) := by decide +kernel
theorem d_X11_feed_29 : decode (mC M_X11_feed) 29 = .ok (.iload_n 3, 1) := by decide +kernel
theorem d_X11_feed_30 : decode (mC M_X11_feed) 30 = .ok (.invokevirtual 108, 3) := by decide +kernel
theorem d_X11_feed_33 : decode (mC M_X11_feed) 33 = .ok (.aload_n 0, 1) := by decide +kernel
theorem d_X11_feed_34 : decode (mC M_X11_feed) 34 = .ok (.iload 4, 2) := by decide +kernel
theorem d_X11_feed_36 : decode (mC M_X11_feed) 36 = .ok (.invokevirtual 108, 3) := by decide +kernel
theorem d_X11_feed_39 : decode (mC M_X11_feed) 39 = .ok (.aload_n 0, 1) := by decide +kernel
theorem d_X11_feed_40 : decode (mC M_X11_feed) 40 = .ok (.iload 5, 2) := by decide +kernel
theorem d_X11_feed_42 : decode (mC M_X11_feed) 42 = .ok (.invokevirtual 108, 3) := by decide +kernel
theorem d_X11_feed_45 : decode (mC M_X11_feed) 45 = .ok (.aload_n 0, 1) := by decide +kernel
theorem d_X11_feed_46 : decode (mC M_X11_feed) 46 = .ok (.getfield 21, 3) := by decide +kernel
theorem d_X11_feed_49 : decode (mC M_X11_feed) 49 = .ok (.getfield 105, 3) := by decide +kernel
theorem d_X11_feed_52 : decode (mC M_X11_feed) 52 = .ok (.ireturn, 1) := by decide +kernel
theorem d_X11_find_0 : decode (mC M_X11_find) 0 = .ok (.iload_n 1, 1) := by decide +kernel
theorem d_X11_find_1 : decode (mC M_X11_find) 1 = .ok (.ifCond .lt 28, 3) := by decide +kernel
theorem d_X11_find_4 : decode (mC M_X11_find) 4 = .ok (.iload_n 1, 1) := by decide +kernel
theorem d_X11_find_5 : decode (mC M_X11_find) 5 = .ok (.aload_n 0, 1) := by decide +kernel
theorem d_X11_find_6 : decode (mC M_X11_find) 6 = .ok (.getfield 10, 3) := by decide +kernel
theorem d_X11_find_9 : decode (mC M_X11_find) 9 = .ok (.invokevirtual 80, 3) := by decide +kernel
theorem d_X11_find_12 : decode (mC M_X11_find) 12 = .ok (.if_icmp .ge 17, 3) := by decide +kernel
theorem d_X11_find_15 : decode (mC M_X11_find) 15 = .ok (.aload_n 0, 1) := by decide +kernel
theorem d_X11_find_16 : decode (mC M_X11_find) 16 = .ok (.getfield 10, 3) := by decide +kernel
theorem d_X11_find_19 : decode (mC M_X11_find) 19 = .ok (.iload_n 1, 1) := by decide +kernel
theorem d_X11_find_20 : decode (mC M_X11_find) 20 = .ok (.invokevirtual 218, 3) := by decide +kernel
theorem d_X11_find_23 : decode (mC M_X11_find) 23 = .ok (.checkcast 84, 3) := by decide +kernel
theorem d_X11_find_26 : decode (mC M_X11_find) 26 = .ok (.goto 4, 3) := by decide +kernel
theorem d_X11_find_29 : decode (mC M_X11_find) 29 = .ok (.aconst_null, 1) := by decide +kernel
theorem d_X11_find_30 : decode (mC M_X11_find) 30 = .ok (.areturn, 1) := by decide +kernel
theorem d_X11_findRecord_0 : decode (mC M_X11_findRecord) 0 = .ok (.iconst 0, 1) := by decide +kernel
theorem d_X11_findRecord_1 : decode (mC M_X11_findRecord) 1 = .ok (.istore_n 3, 1) := by decide +kernel
theorem d_X11_findRecord_2 : decode (mC M_X11_findRecord) 2 = .ok (.iload_n 3, 1) := by decide +kernel
theorem d_X11_findRecord_3 : decode (mC M_X11_findRecord) 3 = .ok (.aload_n 0, 1) := by decide +kernel
theorem d_X11_findRecord_4 : decode (mC M_X11_findRecord) 4 = .ok (.getfield 69, 3) := by decide +kernel
theorem d_X11_findRecord_7 : decode (mC M_X11_findRecord) 7 = .ok (.invokevirtual 80, 3) := by decide +kernel
theorem d_X11_findRecord_10 : decode (mC M_X11_findRecord) 10 = .ok (.if_icmp .ge 46, 3) := by decide +kernel
theorem d_X11_findRecord_13 : decode (mC M_X11_findRecord) 13 = .ok (.aload_n 0, 1) := by decide +kernel
theorem d_X11_findRecord_14 : decode (mC M_X11_findRecord) 14 = .ok (.getfield 69, 3) := by decide +kernel
theorem d_X11_findRecord_17 : decode (mC M_X11_findRecord) 17 = .ok (.iload_n 3, 1) := by decide +kernel
theorem d_X11_findRecord_18 : decode (mC M_X11_findRecord) 18 = .ok (.invokevirtual 218, 3) := by decide +kernel
theorem d_X11_findRecord_21 : decode (mC M_X11_findRecord) 21 = .ok (.checkcast 192, 3) := by decide +kernel
theorem d_X11_findRecord_24 : decode (mC M_X11_findRecord) 24 = .ok (.astore 4, 2) := by decide +kernel
theorem d_X11_findRecord_26 : decode (mC M_X11_findRecord) 26 = .ok (.aload 4, 2) := by decide +kernel
theorem d_X11_findRecord_28 : decode (mC M_X11_findRecord) 28 = .ok (.getfield 235, 3) := by decide +kernel
theorem d_X11_findRecord_31 : decode (mC M_X11_findRecord) 31 = .ok (.getfield 239, 3) := by decide +kernel
theorem d_X11_findRecord_34 : decode (mC M_X11_findRecord) 34 = .ok (.iload_n 1, 1) := by decide +kernel
theorem d_X11_findRecord_35 : decode (mC M_X11_findRecord) 35 = .ok (.if_icmp .ne 15, 3) := by decide +kernel
theorem d_X11_findRecord_38 : decode (mC M_X11_findRecord) 38 = .ok (.aload 4, 2) := by decide +kernel
theorem d_X11_findRecord_40 : decode (mC M_X11_findRecord) 40 = .ok (.getfield 240, 3) := by decide +kernel
theorem d_X11_findRecord_43 : decode (mC M_X11_findRecord) 43 = .ok (.iload_n 2, 1) := by decide +kernel
theorem d_X11_findRecord_44 : decode (mC M_X11_findRecord) 44 = .ok (.if_icmp .ne 6, 3) := by decide +kernel
theorem d_X11_findRecord_47 : decode (mC M_X11_findRecord) 47 = .ok (.aload 4, 2) := by decide +kernel
theorem d_X11_findRecord_49 : decode (mC M_X11_findRecord) 49 = .ok (.areturn, 1) := by decide +kernel
theorem d_X11_findRecord_50 : decode (mC M_X11_findRecord) 50 = .ok (.iinc 3 1, 3) := by decide +kernel
theorem d_X11_findRecord_53 : decode (mC M_X11_findRecord) 53 = .ok (.goto (-51), 3) := by decide +kernel
theorem d_X11_findRecord_56 : decode (mC M_X11_findRecord) 56 = .ok (.aconst_null, 1) := by decide +kernel
theorem d_X11_findRecord_57 : decode (mC M_X11_findRecord) 57 = .ok (.areturn, 1) := by decide +kernel
theorem d_X11_fits_0 : decode (mC M_X11_fits) 0 = .ok (.aload_n 0, 1) := by decide +kernel
theorem d_X11_fits_1 : decode (mC M_X11_fits) 1 = .ok (.iload_n 1, 1) := by decide +kernel
theorem d_X11_fits_2 : decode (mC M_X11_fits) 2 = .ok (.invokevirtual 93, 3) := by decide +kernel
theorem d_X11_fits_5 : decode (mC M_X11_fits) 5 = .ok (.astore 4, 2) := by decide +kernel
theorem d_X11_fits_7 : decode (mC M_X11_fits) 7 = .ok (.aload_n 0, 1) := by decide +kernel
theorem d_X11_fits_8 : decode (mC M_X11_fits) 8 = .ok (.getfield 58, 3) := by decide +kernel
theorem d_X11_fits_11 : decode (mC M_X11_fits) 11 = .ok (.iload_n 2, 1) := by decide +kernel
theorem d_X11_fits_12 : decode (mC M_X11_fits) 12 = .ok (.invokevirtual 134, 3) := by decide +kernel
theorem d_X11_fits_15 : decode (mC M_X11_fits) 15 = .ok (.astore 5, 2) := by decide +kernel
theorem d_X11_fits_17 : decode (mC M_X11_fits) 17 = .ok (.aload 4, 2) := by decide +kernel
theorem d_X11_fits_19 : decode (mC M_X11_fits) 19 = .ok (.ifnull 17, 3) := by decide +kernel
theorem d_X11_fits_22 : decode (mC M_X11_fits) 22 = .ok (.aload 5, 2) := by decide +kernel
theorem d_X11_fits_24 : decode (mC M_X11_fits) 24 = .ok (.ifnull 12, 3) := by decide +kernel
theorem d_X11_fits_27 : decode (mC M_X11_fits) 27 = .ok (.iload_n 3, 1) := by decide +kernel
theorem d_X11_fits_28 : decode (mC M_X11_fits) 28 = .ok (.iconst 0, 1) := by decide +kernel
theorem d_X11_fits_29 : decode (mC M_X11_fits) 29 = .ok (.iconst 1, 1) := by decide +kernel
theorem d_X11_fits_30 : decode (mC M_X11_fits) 30 = .ok (.invokestatic 75, 3) := by decide +kernel
theorem d_X11_fits_33 : decode (mC M_X11_fits) 33 = .ok (.ifCond .ne 5, 3) := by decide +kernel
theorem d_X11_fits_36 : decode (mC M_X11_fits) 36 = .ok (.iconst (-1), 1) := by decide +kernel
theorem d_X11_fits_37 : decode (mC M_X11_fits) 37 = .ok (.ireturn, 1) := by decide +kernel
theorem d_X11_fits_38 : decode (mC M_X11_fits) 38 = .ok (.iload_n 3, 1) := by decide +kernel
theorem d_X11_fits_39 : decode (mC M_X11_fits) 39 = .ok (.ifCond .ne 13, 3) := by decide +kernel
theorem d_X11_fits_42 : decode (mC M_X11_fits) 42 = .ok (.aload 5, 2) := by decide +kernel
theorem d_X11_fits_44 : decode (mC M_X11_fits) 44 = .ok (.aload 4, 2) := by decide +kernel
theorem d_X11_fits_46 : decode (mC M_X11_fits) 46 = .ok (.invokevirtual 137, 3) := by decide +kernel
theorem d_X11_fits_49 : decode (mC M_X11_fits) 49 = .ok (.goto 14, 3) := by decide +kernel
theorem d_X11_fits_52 : decode (mC M_X11_fits) 52 = .ok (.aload 5, 2) := by decide +kernel
theorem d_X11_fits_54 : decode (mC M_X11_fits) 54 = .ok (.aload 4, 2) := by decide +kernel
theorem d_X11_fits_56 : decode (mC M_X11_fits) 56 = .ok (.aload_n 0, 1) := by decide +kernel
theorem d_X11_fits_57 : decode (mC M_X11_fits) 57 = .ok (.getfield 143, 3) := by decide +kernel
theorem d_X11_fits_60 : decode (mC M_X11_fits) 60 = .ok (.invokevirtual 146, 3) := by decide +kernel
theorem d_X11_fits_63 : decode (mC M_X11_fits) 63 = .ok (.istore 6, 2) := by decide +kernel
theorem d_X11_fits_65 : decode (mC M_X11_fits) 65 = .ok (.iload 6, 2) := by decide +kernel
theorem d_X11_fits_67 : decode (mC M_X11_fits) 67 = .ok (.ifCond .eq 7, 3) := by decide +kernel
theorem d_X11_fits_70 : decode (mC M_X11_fits) 70 = .ok (.iconst 1, 1) := by decide +kernel
theorem d_X11_fits_71 : decode (mC M_X11_fits) 71 = .ok (.goto 4, 3) := by decide +kernel
theorem d_X11_fits_74 : decode (mC M_X11_fits) 74 = .ok (.iconst 0, 1) := by decide +kernel
theorem d_X11_fits_75 : decode (mC M_X11_fits) 75 = .ok (.ireturn, 1) := by decide +kernel
theorem d_X11_init_0 : decode (mC M_X11_init) 0 = .ok (.aload_n 0, 1) := by decide +kernel
theorem d_X11_init_1 : decode (mC M_X11_init) 1 = .ok (.invokespecial 1, 3) := by decide +kernel
theorem d_X11_init_4 : decode (mC M_X11_init) 4 = .ok (.aload_n 0, 1) := by decide +kernel
theorem d_X11_init_5 : decode (mC M_X11_init) 5 = .ok (.new 7, 3) := by decide +kernel
theorem d_X11_init_8 : decode (mC M_X11_init) 8 = .ok (.dup, 1) := by decide +kernel
theorem d_X11_init_9 : decode (mC M_X11_init) 9 = .ok (.invokespecial 9, 3) := by decide +kernel
theorem d_X11_init_12 : decode (mC M_X11_init) 12 = .ok (.putfield 10, 3) := by decide +kernel
theorem d_X11_init_15 : decode (mC M_X11_init) 15 = .ok (.aload_n 0, 1) := by decide +kernel
theorem d_X11_init_16 : decode (mC M_X11_init) 16 = .ok (.new 16, 3) := by decide +kernel
theorem d_X11_init_19 : decode (mC M_X11_init) 19 = .ok (.dup, 1) := by decide +kernel
theorem d_X11_init_20 : decode (mC M_X11_init) 20 = .ok (.sipush 1000, 3) := by decide +kernel
theorem d_X11_init_23 : decode (mC M_X11_init) 23 = .ok (.invokespecial 18, 3) := by decide +kernel
theorem d_X11_init_26 : decode (mC M_X11_init) 26 = .ok (.putfield 21, 3) := by decide +kernel
theorem d_X11_init_29 : decode (mC M_X11_init) 29 = .ok (.aload_n 0, 1) := by decide +kernel
theorem d_X11_init_30 : decode (mC M_X11_init) 30 = .ok (.new 25, 3) := by decide +kernel
theorem d_X11_init_33 : decode (mC M_X11_init) 33 = .ok (.dup, 1) := by decide +kernel
theorem d_X11_init_34 : decode (mC M_X11_init) 34 = .ok (.aload_n 0, 1) := by decide +kernel
theorem d_X11_init_35 : decode (mC M_X11_init) 35 = .ok (.getfield 21, 3) := by decide +kernel
theorem d_X11_init_38 : decode (mC M_X11_init) 38 = .ok (.invokespecial 27, 3) := by decide +kernel
theorem d_X11_init_41 : decode (mC M_X11_init) 41 = .ok (.putfield 30, 3) := by decide +kernel
theorem d_X11_init_44 : decode (mC M_X11_init) 44 = .ok (.aload_n 0, 1) := by decide +kernel
theorem d_X11_init_45 : decode (mC M_X11_init) 45 = .ok (.new 34, 3) := by decide +kernel
theorem d_X11_init_48 : decode (mC M_X11_init) 48 = .ok (.dup, 1) := by decide +kernel
theorem d_X11_init_49 : decode (mC M_X11_init) 49 = .ok (.aload_n 0, 1) := by decide +kernel
theorem d_X11_init_50 : decode (mC M_X11_init) 50 = .ok (.getfield 30, 3) := by decide +kernel
theorem d_X11_init_53 : decode (mC M_X11_init) 53 = .ok (.invokespecial 36, 3) := by decide +kernel
theorem d_X11_init_56 : decode (mC M_X11_init) 56 = .ok (.putfield 39, 3) := by decide +kernel
theorem d_X11_init_59 : decode (mC M_X11_init) 59 = .ok (.aload_n 0, 1) := by decide +kernel
theorem d_X11_init_60 : decode (mC M_X11_init) 60 = .ok (.new 7, 3) := by decide +kernel
theorem d_X11_init_63 : decode (mC M_X11_init) 63 = .ok (.dup, 1) := by decide +kernel
theorem d_X11_init_64 : decode (mC M_X11_init) 64 = .ok (.invokespecial 9, 3) := by decide +kernel
theorem d_X11_init_67 : decode (mC M_X11_init) 67 = .ok (.putfield 43, 3) := by decide +kernel
theorem d_X11_init_70 : decode (mC M_X11_init) 70 = .ok (.aload_n 0, 1) := by decide +kernel
theorem d_X11_init_71 : decode (mC M_X11_init) 71 = .ok (.new 46, 3) := by decide +kernel
theorem d_X11_init_74 : decode (mC M_X11_init) 74 = .ok (.dup, 1) := by decide +kernel
theorem d_X11_init_75 : decode (mC M_X11_init) 75 = .ok (.invokespecial 48, 3) := by decide +kernel
theorem d_X11_init_78 : decode (mC M_X11_init) 78 = .ok (.putfield 49, 3) := by decide +kernel
theorem d_X11_init_81 : decode (mC M_X11_init) 81 = .ok (.aload_n 0, 1) := by decide +kernel
theorem d_X11_init_82 : decode (mC M_X11_init) 82 = .ok (.new 53, 3) := by decide +kernel
theorem d_X11_init_85 : decode (mC M_X11_init) 85 = .ok (.dup, 1) := by decide +kernel
theorem d_X11_init_86 : decode (mC M_X11_init) 86 = .ok (.aload_n 0, 1) := by decide +kernel
theorem d_X11_init_87 : decode (mC M_X11_init) 87 = .ok (.getfield 10, 3) := by decide +kernel
theorem d_X11_init_90 : decode (mC M_X11_init) 90 = .ok (.invokespecial 55, 3) := by decide +kernel
theorem d_X11_init_93 : decode (mC M_X11_init) 93 = .ok (.putfield 58, 3) := by decide +kernel
theorem d_X11_init_96 : decode (mC M_X11_init) 96 = .ok (.aload_n 0, 1) := by decide +kernel
theorem d_X11_init_97 : decode (mC M_X11_init) 97 = .ok (.new 62, 3) := by decide +kernel
theorem d_X11_init_100 : decode (mC M_X11_init) 100 = .ok (.dup, 1) := by decide +kernel
theorem d_X11_init_101 : decode (mC M_X11_init) 101 = .ok (.invokespecial 64, 3) := by decide +kernel
theorem d_X11_init_104 : decode (mC M_X11_init) 104 = .ok (.putfield 65, 3) := by decide +kernel
theorem d_X11_init_107 : decode (mC M_X11_init) 107 = .ok (.aload_n 0, 1) := by decide +kernel
theorem d_X11_init_108 : decode (mC M_X11_init) 108 = .ok (.new 7, 3) := by decide +kernel
theorem d_X11_init_111 : decode (mC M_X11_init) 111 = .ok (.dup, 1) := by decide +kernel
theorem d_X11_init_112 : decode (mC M_X11_init) 112 = .ok (.invokespecial 9, 3) := by decide +kernel
theorem d_X11_init_115 : decode (mC M_X11_init) 115 = .ok (.putfield 69, 3) := by decide +kernel
theorem d_X11_init_118 : decode (mC M_X11_init) 118 = .ok (.aload_n 0, 1) := by decide +kernel
theorem d_X11_init_119 : decode (mC M_X11_init) 119 = .ok (.new 16, 3) := by decide +kernel
theorem d_X11_init_122 : decode (mC M_X11_init) 122 = .ok (.dup, 1) := by decide +kernel
theorem d_X11_init_123 : decode (mC M_X11_init) 123 = .ok (.bipush 40, 2) := by decide +kernel
theorem d_X11_init_125 : decode (mC M_X11_init) 125 = .ok (.invokespecial 18, 3) := by decide +kernel
theorem d_X11_init_128 : decode (mC M_X11_init) 128 = .ok (.putfield 72, 3) := by decide +kernel
theorem d_X11_init_131 : decode (mC M_X11_init) 131 = .ok (.return_, 1) := by decide +kernel
theorem d_X11_isScene_0 : decode (mC M_X11_isScene) 0 = .ok (.iload_n 0, 1) := by decide +kernel
theorem d_X11_isScene_1 : decode (mC M_X11_isScene) 1 = .ok (.iconst 0, 1) := by decide +kernel
theorem d_X11_isScene_2 : decode (mC M_X11_isScene) 2 = .ok (.bipush 19, 2) := by decide +kernel
theorem d_X11_isScene_4 : decode (mC M_X11_isScene) 4 = .ok (.invokestatic 75, 3) := by decide +kernel
theorem d_X11_isScene_7 : decode (mC M_X11_isScene) 7 = .ok (.ireturn, 1) := by decide +kernel
theorem d_X11_lacks_0 : decode (mC M_X11_lacks) 0 = .ok (.aload_n 0, 1) := by decide +kernel
theorem d_X11_lacks_1 : decode (mC M_X11_lacks) 1 = .ok (.getfield 72, 3) := by decide +kernel
theorem d_X11_lacks_4 : decode (mC M_X11_lacks) 4 = .ok (.iload_n 1, 1) := by decide +kernel
theorem d_X11_lacks_5 : decode (mC M_X11_lacks) 5 = .ok (.invokevirtual 173, 3) := by decide +kernel
theorem d_X11_lacks_8 : decode (mC M_X11_lacks) 8 = .ok (.ireturn, 1) := by decide +kernel
theorem d_X11_lay_0 : decode (mC M_X11_lay) 0 = .ok (.aload_n 0, 1) := by decide +kernel
theorem d_X11_lay_1 : decode (mC M_X11_lay) 1 = .ok (.getfield 58, 3) := by decide +kernel
theorem d_X11_lay_4 : decode (mC M_X11_lay) 4 = .ok (.getfield 150, 3) := by decide +kernel
theorem d_X11_lay_7 : decode (mC M_X11_lay) 7 = .ok (.invokevirtual 153, 3) := by decide +kernel
theorem d_X11_lay_10 : decode (mC M_X11_lay) 10 = .ok (.ifCond .eq 5, 3) := by decide +kernel
theorem d_X11_lay_13 : decode (mC M_X11_lay) 13 = .ok (.iconst (-1), 1) := by decide +kernel
theorem d_X11_lay_14 : decode (mC M_X11_lay) 14 = .ok (.ireturn, 1) := by decide +kernel
theorem d_X11_lay_15 : decode (mC M_X11_lay) 15 = .ok (.aload_n 0, 1) := by decide +kernel
theorem d_X11_lay_16 : decode (mC M_X11_lay) 16 = .ok (.getfield 58, 3) := by decide +kernel
theorem d_X11_lay_19 : decode (mC M_X11_lay) 19 = .ok (.aload_n 0, 1) := by decide +kernel
theorem d_X11_lay_20 : decode (mC M_X11_lay) 20 = .ok (.getfield 143, 3) := by decide +kernel
theorem d_X11_lay_23 : decode (mC M_X11_lay) 23 = .ok (.invokevirtual 157, 3) := by decide +kernel
theorem d_X11_lay_26 : decode (mC M_X11_lay) 26 = .ok (.aload_n 0, 1) := by decide +kernel
theorem d_X11_lay_27 : decode (mC M_X11_lay) 27 = .ok (.getfield 58, 3) := by decide +kernel
theorem d_X11_lay_30 : decode (mC M_X11_lay) 30 = .ok (.invokevirtual 160, 3) := by decide +kernel
theorem d_X11_lay_33 : decode (mC M_X11_lay) 33 = .ok (.ireturn, 1) := by decide +kernel
theorem d_X11_moved_0 : decode (mC M_X11_moved) 0 = .ok (.aload_n 0, 1) := by decide +kernel
theorem d_X11_moved_1 : decode (mC M_X11_moved) 1 = .ok (.getfield 58, 3) := by decide +kernel
theorem d_X11_moved_4 : decode (mC M_X11_moved) 4 = .ok (.getfield 170, 3) := by decide +kernel
theorem d_X11_moved_7 : decode (mC M_X11_moved) 7 = .ok (.iload_n 1, 1) := by decide +kernel
theorem d_X11_moved_8 : decode (mC M_X11_moved) 8 = .ok (.invokevirtual 173, 3) := by decide +kernel
theorem d_X11_moved_11 : decode (mC M_X11_moved) 11 = .ok (.ireturn, 1) := by decide +kernel
theorem d_X11_no_0 : decode (mC M_X11_no) 0 = .ok (.aload_n 0, 1) := by decide +kernel
theorem d_X11_no_1 : decode (mC M_X11_no) 1 = .ok (.iload_n 1, 1) := by decide +kernel
theorem d_X11_no_2 : decode (mC M_X11_no) 2 = .ok (.invokevirtual 93, 3) := by decide +kernel
theorem d_X11_no_5 : decode (mC M_X11_no) 5 = .ok (.astore_n 2, 1) := by decide +kernel
theorem d_X11_no_6 : decode (mC M_X11_no) 6 = .ok (.aload_n 2, 1) := by decide +kernel
theorem d_X11_no_7 : decode (mC M_X11_no) 7 = .ok (.ifnull 10, 3) := by decide +kernel
theorem d_X11_no_10 : decode (mC M_X11_no) 10 = .ok (.aload_n 2, 1) := by decide +kernel
theorem d_X11_no_11 : decode (mC M_X11_no) 11 = .ok (.getfield 97, 3) := by decide +kernel
theorem d_X11_no_14 : decode (mC M_X11_no) 14 = .ok (.ifnonnull 5, 3) := by decide +kernel
theorem d_X11_no_17 : decode (mC M_X11_no) 17 = .ok (.iconst (-1), 1) := by decide +kernel
theorem d_X11_no_18 : decode (mC M_X11_no) 18 = .ok (.ireturn, 1) := by decide +kernel
theorem d_X11_no_19 : decode (mC M_X11_no) 19 = .ok (.aload_n 2, 1) := by decide +kernel
theorem d_X11_no_20 : decode (mC M_X11_no) 20 = .ok (.getfield 97, 3) := by decide +kernel
theorem d_X11_no_23 : decode (mC M_X11_no) 23 = .ok (.astore_n 3, 1) := by decide +kernel
theorem d_X11_no_24 : decode (mC M_X11_no) 24 = .ok (.aload_n 2, 1) := by decide +kernel
theorem d_X11_no_25 : decode (mC M_X11_no) 25 = .ok (.aconst_null, 1) := by decide +kernel
theorem d_X11_no_26 : decode (mC M_X11_no) 26 = .ok (.invokevirtual 162, 3) := by decide +kernel
theorem d_X11_no_29 : decode (mC M_X11_no) 29 = .ok (.aload_n 2, 1) := by decide +kernel
theorem d_X11_no_30 : decode (mC M_X11_no) 30 = .ok (.iconst 1, 1) := by decide +kernel
theorem d_X11_no_31 : decode (mC M_X11_no) 31 = .ok (.putfield 101, 3) := by decide +kernel
theorem d_X11_no_34 : decode (mC M_X11_no) 34 = .ok (.aload_n 0, 1) := by decide +kernel
theorem d_X11_no_35 : decode (mC M_X11_no) 35 = .ok (.getfield 58, 3) := by decide +kernel
theorem d_X11_no_38 : decode (mC M_X11_no) 38 = .ok (.aload_n 3, 1) := by decide +kernel
theorem d_X11_no_39 : decode (mC M_X11_no) 39 = .ok (.aload_n 0, 1) := by decide +kernel
theorem d_X11_no_40 : decode (mC M_X11_no) 40 = .ok (.getfield 143, 3) := by decide +kernel
theorem d_X11_no_43 : decode (mC M_X11_no) 43 = .ok (.invokevirtual 166, 3) := by decide +kernel
theorem d_X11_no_46 : decode (mC M_X11_no) 46 = .ok (.aload_n 0, 1) := by decide +kernel
theorem d_X11_no_47 : decode (mC M_X11_no) 47 = .ok (.getfield 58, 3) := by decide +kernel
theorem d_X11_no_50 : decode (mC M_X11_no) 50 = .ok (.getfield 170, 3) := by decide +kernel
theorem d_X11_no_53 : decode (mC M_X11_no) 53 = .ok (.getfield 105, 3) := by decide +kernel
theorem d_X11_no_56 : decode (mC M_X11_no) 56 = .ok (.ireturn, 1) := by decide +kernel
theorem d_X11_pay_0 : decode (mC M_X11_pay) 0 = .ok (.lconst 0, 1) := by decide +kernel
theorem d_X11_pay_1 : decode (mC M_X11_pay) 1 = .ok (.lstore 4, 2) := by decide +kernel
theorem d_X11_pay_3 : decode (mC M_X11_pay) 3 = .ok (.iconst 0, 1) := by decide +kernel
theorem d_X11_pay_4 : decode (mC M_X11_pay) 4 = .ok (.istore 6, 2) := by decide +kernel
theorem d_X11_pay_6 : decode (mC M_X11_pay) 6 = .ok (.iload 6, 2) := by decide +kernel
theorem d_X11_pay_8 : decode (mC M_X11_pay) 8 = .ok (.aload_n 0, 1) := by decide +kernel
theorem d_X11_pay_9 : decode (mC M_X11_pay) 9 = .ok (.getfield 69, 3) := by decide +kernel
theorem d_X11_pay_12 : decode (mC M_X11_pay) 12 = .ok (.invokevirtual 80, 3) := by decide +kernel
theorem d_X11_pay_15 : decode (mC M_X11_pay) 15 = .ok (.if_icmp .ge 59, 3) := by decide +kernel
theorem d_X11_pay_18 : decode (mC M_X11_pay) 18 = .ok (.aload_n 0, 1) := by decide +kernel
theorem d_X11_pay_19 : decode (mC M_X11_pay) 19 = .ok (.getfield 69, 3) := by decide +kernel
theorem d_X11_pay_22 : decode (mC M_X11_pay) 22 = .ok (.iload 6, 2) := by decide +kernel
theorem d_X11_pay_24 : decode (mC M_X11_pay) 24 = .ok (.invokevirtual 218, 3) := by decide +kernel
theorem d_X11_pay_27 : decode (mC M_X11_pay) 27 = .ok (.checkcast 192, 3) := by decide +kernel
theorem d_X11_pay_30 : decode (mC M_X11_pay) 30 = .ok (.astore 7, 2) := by decide +kernel
theorem d_X11_pay_32 : decode (mC M_X11_pay) 32 = .ok (.aload 7, 2) := by decide +kernel
theorem d_X11_pay_34 : decode (mC M_X11_pay) 34 = .ok (.getfield 235, 3) := by decide +kernel
theorem d_X11_pay_37 : decode (mC M_X11_pay) 37 = .ok (.getfield 239, 3) := by decide +kernel
theorem d_X11_pay_40 : decode (mC M_X11_pay) 40 = .ok (.iload_n 1, 1) := by decide +kernel
theorem d_X11_pay_41 : decode (mC M_X11_pay) 41 = .ok (.if_icmp .ne 27, 3) := by decide +kernel
theorem d_X11_pay_44 : decode (mC M_X11_pay) 44 = .ok (.aload 7, 2) := by decide +kernel
theorem d_X11_pay_46 : decode (mC M_X11_pay) 46 = .ok (.getfield 240, 3) := by decide +kernel
theorem d_X11_pay_49 : decode (mC M_X11_pay) 49 = .ok (.iload_n 2, 1) := by decide +kernel
theorem d_X11_pay_50 : decode (mC M_X11_pay) 50 = .ok (.iload_n 3, 1) := by decide +kernel
theorem d_X11_pay_51 : decode (mC M_X11_pay) 51 = .ok (.invokestatic 75, 3) := by decide +kernel
theorem d_X11_pay_54 : decode (mC M_X11_pay) 54 = .ok (.ifCond .eq 14, 3) := by decide +kernel
theorem d_X11_pay_57 : decode (mC M_X11_pay) 57 = .ok (.lload 4, 2) := by decide +kernel
theorem d_X11_pay_59 : decode (mC M_X11_pay) 59 = .ok (.aload 7, 2) := by decide +kernel
theorem d_X11_pay_61 : decode (mC M_X11_pay) 61 = .ok (.invokevirtual 241, 3) := by decide +kernel
theorem d_X11_pay_64 : decode (mC M_X11_pay) 64 = .ok (.i2l, 1) := by decide +kernel
theorem d_X11_pay_65 : decode (mC M_X11_pay) 65 = .ok (.ladd, 1) := by decide +kernel
theorem d_X11_pay_66 : decode (mC M_X11_pay) 66 = .ok (.lstore 4, 2) := by decide +kernel
theorem d_X11_pay_68 : decode (mC M_X11_pay) 68 = .ok (.iinc 6 1, 3) := by decide +kernel
theorem d_X11_pay_71 : decode (mC M_X11_pay) 71 = .ok (.goto (-65), 3) := by decide +kernel
theorem d_X11_pay_74 : decode (mC M_X11_pay) 74 = .ok (.lload 4, 2) := by decide +kernel
theorem d_X11_pay_76 : decode (mC M_X11_pay) 76 = .ok (.lreturn, 1) := by decide +kernel
theorem d_X11_person_0 : decode (mC M_X11_person) 0 = .ok (.iload_n 1, 1) := by decide +kernel
theorem d_X11_person_1 : decode (mC M_X11_person) 1 = .ok (.iconst 0, 1) := by decide +kernel
theorem d_X11_person_2 : decode (mC M_X11_person) 2 = .ok (.bipush 99, 2) := by decide +kernel
theorem d_X11_person_4 : decode (mC M_X11_person) 4 = .ok (.invokestatic 75, 3) := by decide +kernel
theorem d_X11_person_7 : decode (mC M_X11_person) 7 = .ok (.ifCond .eq 50, 3) := by decide +kernel
theorem d_X11_person_10 : decode (mC M_X11_person) 10 = .ok (.iload_n 2, 1) := by decide +kernel
theorem d_X11_person_11 : decode (mC M_X11_person) 11 = .ok (.bipush 50, 2) := by decide +kernel
theorem d_X11_person_13 : decode (mC M_X11_person) 13 = .ok (.sipush 230, 3) := by decide +kernel
theorem d_X11_person_16 : decode (mC M_X11_person) 16 = .ok (.invokestatic 75, 3) := by decide +kernel
theorem d_X11_person_19 : decode (mC M_X11_person) 19 = .ok (.ifCond .eq 38, 3) := by decide +kernel
theorem d_X11_person_22 : decode (mC M_X11_person) 22 = .ok (.iload_n 3, 1) := by decide +kernel
theorem d_X11_person_23 : decode (mC M_X11_person) 23 = .ok (.iconst 0, 1) := by decide +kernel
theorem d_X11_person_24 : decode (mC M_X11_person) 24 = .ok (.ldc 79, 2) := by decide +kernel
theorem d_X11_person_26 : decode (mC M_X11_person) 26 = .ok (.invokestatic 75, 3) := by decide +kernel
theorem d_X11_person_29 : decode (mC M_X11_person) 29 = .ok (.ifCond .eq 28, 3) := by decide +kernel
theorem d_X11_person_32 : decode (mC M_X11_person) 32 = .ok (.iload 4, 2) := by decide +kernel
theorem d_X11_person_34 : decode (mC M_X11_person) 34 = .ok (.iconst 0, 1) := by decide +kernel
theorem d_X11_person_35 : decode (mC M_X11_person) 35 = .ok (.iconst 3, 1) := by decide +kernel
theorem d_X11_person_36 : decode (mC M_X11_person) 36 = .ok (.invokestatic 75, 3) := by decide +kernel
theorem d_X11_person_39 : decode (mC M_X11_person) 39 = .ok (.ifCond .eq 18, 3) := by decide +kernel
theorem d_X11_person_42 : decode (mC M_X11_person) 42 = .ok (.iload 5, 2) := by decide +kernel
theorem d_X11_person_44 : decode (mC M_X11_person) 44 = .ok (.iconst 1, 1) := by decide +kernel
theorem d_X11_person_45 : decode (mC M_X11_person) 45 = .ok (.bipush 30, 2) := by decide +kernel
theorem d_X11_person_47 : decode (mC M_X11_person) 47 = .ok (.invokestatic 75, 3) := by decide +kernel
theorem d_X11_person_50 : decode (mC M_X11_person) 50 = .ok (.ifCond .eq 7, 3) := by decide +kernel
theorem d_X11_person_53 : decode (mC M_X11_person) 53 = .ok (.iconst 1, 1) := by decide +kernel
theorem d_X11_person_54 : decode (mC M_X11_person) 54 = .ok (.goto 4, 3) := by decide +kernel
theorem d_X11_person_57 : decode (mC M_X11_person) 57 = .ok (.iconst 0, 1) := by decide +kernel
theorem d_X11_person_58 : decode (mC M_X11_person) 58 = .ok (.istore 6, 2) := by decide +kernel
theorem d_X11_person_60 : decode (mC M_X11_person) 60 = .ok (.iload 6, 2) := by decide +kernel
theorem d_X11_person_62 : decode (mC M_X11_person) 62 = .ok (.ifCond .eq 15, 3) := by decide +kernel
theorem d_X11_person_65 : decode (mC M_X11_person) 65 = .ok (.aload_n 0, 1) := by decide +kernel
theorem d_X11_person_66 : decode (mC M_X11_person) 66 = .ok (.getfield 10, 3) := by decide +kernel
theorem d_X11_person_69 : decode (mC M_X11_person) 69 = .ok (.invokevirtual 80, 3) := by decide +kernel
theorem d_X11_person_72 : decode (mC M_X11_person) 72 = .ok (.bipush 40, 2) := by decide +kernel
theorem d_X11_person_74 : decode (mC M_X11_person) 74 = .ok (.if_icmp .lt 5, 3) := by decide +kernel
theorem d_X11_person_77 : decode (mC M_X11_person) 77 = .ok (.iconst (-1), 1) := by decide +kernel
theorem d_X11_person_78 : decode (mC M_X11_person) 78 = .ok (.ireturn, 1) := by decide +kernel
theorem d_X11_person_79 : decode (mC M_X11_person) 79 = .ok (.aload_n 0, 1) := by decide +kernel
theorem d_X11_person_80 : decode (mC M_X11_person) 80 = .ok (.getfield 10, 3) := by decide +kernel
theorem d_X11_person_83 : decode (mC M_X11_person) 83 = .ok (.invokevirtual 80, 3) := by decide +kernel
theorem d_X11_person_86 : decode (mC M_X11_person) 86 = .ok (.istore 7, 2) := by decide +kernel
theorem d_X11_person_88 : decode (mC M_X11_person) 88 = .ok (.aload_n 0, 1) := by decide +kernel
theorem d_X11_person_89 : decode (mC M_X11_person) 89 = .ok (.getfield 10, 3) := by decide +kernel
theorem d_X11_person_92 : decode (mC M_X11_person) 92 = .ok (.new 84, 3) := by decide +kernel
theorem d_X11_person_95 : decode (mC M_X11_person) 95 = .ok (.dup, 1) := by decide +kernel
theorem d_X11_person_96 : decode (mC M_X11_person) 96 = .ok (.iload 7, 2) := by decide +kernel
theorem d_X11_person_98 : decode (mC M_X11_person) 98 = .ok (.iload_n 1, 1) := by decide +kernel
theorem d_X11_person_99 : decode (mC M_X11_person) 99 = .ok (.iload_n 2, 1) := by decide +kernel
theorem d_X11_person_100 : decode (mC M_X11_person) 100 = .ok (.iload_n 3, 1) := by decide +kernel
theorem d_X11_person_101 : decode (mC M_X11_person) 101 = .ok (.iload 4, 2) := by decide +kernel
theorem d_X11_person_103 : decode (mC M_X11_person) 103 = .ok (.iload 5, 2) := by decide +kernel
theorem d_X11_person_105 : decode (mC M_X11_person) 105 = .ok (.invokespecial 86, 3) := by decide +kernel
theorem d_X11_person_108 : decode (mC M_X11_person) 108 = .ok (.invokevirtual 89, 3) := by decide +kernel
theorem d_X11_person_111 : decode (mC M_X11_person) 111 = .ok (.pop, 1) := by decide +kernel
theorem d_X11_person_112 : decode (mC M_X11_person) 112 = .ok (.iload 7, 2) := by decide +kernel
theorem d_X11_person_114 : decode (mC M_X11_person) 114 = .ok (.ireturn, 1) := by decide +kernel
theorem d_X11_place_0 : decode (mC M_X11_place) 0 = .ok (.aload_n 0, 1) := by decide +kernel
theorem d_X11_place_1 : decode (mC M_X11_place) 1 = .ok (.getfield 30, 3) := by decide +kernel
theorem d_X11_place_4 : decode (mC M_X11_place) 4 = .ok (.getfield 131, 3) := by decide +kernel
theorem d_X11_place_7 : decode (mC M_X11_place) 7 = .ok (.ireturn, 1) := by decide +kernel
theorem d_X11_record_0 : decode (mC M_X11_record) 0 = .ok (.aload_n 0, 1) := by decide +kernel
theorem d_X11_record_1 : decode (mC M_X11_record) 1 = .ok (.iload_n 1, 1) := by decide +kernel
theorem d_X11_record_2 : decode (mC M_X11_record) 2 = .ok (.iload_n 2, 1) := by decide +kernel
theorem d_X11_record_3 : decode (mC M_X11_record) 3 = .ok (.invokevirtual 187, 3) := by decide +kernel
theorem d_X11_record_6 : decode (mC M_X11_record) 6 = .ok (.astore 4, 2) := by decide +kernel
theorem d_X11_record_8 : decode (mC M_X11_record) 8 = .ok (.aload 4, 2) := by decide +kernel
theorem d_X11_record_10 : decode (mC M_X11_record) 10 = .ok (.ifnonnull 7, 3) := by decide +kernel
theorem d_X11_record_13 : decode (mC M_X11_record) 13 = .ok (.iconst (-1), 1) := by decide +kernel
theorem d_X11_record_14 : decode (mC M_X11_record) 14 = .ok (.goto 9, 3) := by decide +kernel
theorem d_X11_record_17 : decode (mC M_X11_record) 17 = .ok (.aload 4, 2) := by decide +kernel
theorem d_X11_record_19 : decode (mC M_X11_record) 19 = .ok (.iload_n 3, 1) := by decide +kernel
theorem d_X11_record_20 : decode (mC M_X11_record) 20 = .ok (.invokevirtual 191, 3) := by decide +kernel
theorem d_X11_record_23 : decode (mC M_X11_record) 23 = .ok (.ireturn, 1) := by decide +kernel
theorem d_X11_retake_0 : decode (mC M_X11_retake) 0 = .ok (.iload_n 1, 1) := by decide +kernel
theorem d_X11_retake_1 : decode (mC M_X11_retake) 1 = .ok (.invokestatic 196, 3) := by decide +kernel
theorem d_X11_retake_4 : decode (mC M_X11_retake) 4 = .ok (.ifCond .eq 14, 3) := by decide +kernel
theorem d_X11_retake_7 : decode (mC M_X11_retake) 7 = .ok (.iload_n 2, 1) := by decide +kernel
theorem d_X11_retake_8 : decode (mC M_X11_retake) 8 = .ok (.iconst 0, 1) := by decide +kernel
theorem d_X11_retake_9 : decode (mC M_X11_retake) 9 = .ok (.sipush 1439, 3) := by decide +kernel
theorem d_X11_retake_12 : decode (mC M_X11_retake) 12 = .ok (.invokestatic 75, 3) := by decide +kernel
theorem d_X11_retake_15 : decode (mC M_X11_retake) 15 = .ok (.ifCond .ne 5, 3) := by decide +kernel
theorem d_X11_retake_18 : decode (mC M_X11_retake) 18 = .ok (.iconst (-1), 1) := by decide +kernel
theorem d_X11_retake_19 : decode (mC M_X11_retake) 19 = .ok (.ireturn, 1) := by decide +kernel
theorem d_X11_retake_20 : decode (mC M_X11_retake) 20 = .ok (.aload_n 0, 1) := by decide +kernel
theorem d_X11_retake_21 : decode (mC M_X11_retake) 21 = .ok (.getfield 72, 3) := by decide +kernel
theorem d_X11_retake_24 : decode (mC M_X11_retake) 24 = .ok (.iconst 0, 1) := by decide +kernel
theorem d_X11_retake_25 : decode (mC M_X11_retake) 25 = .ok (.putfield 105, 3) := by decide +kernel
theorem d_X11_retake_28 : decode (mC M_X11_retake) 28 = .ok (.iconst 0, 1) := by decide +kernel
theorem d_X11_retake_29 : decode (mC M_X11_retake) 29 = .ok (.istore_n 3, 1) := by decide +kernel
theorem d_X11_retake_30 : decode (mC M_X11_retake) 30 = .ok (.iload_n 3, 1) := by decide +kernel
theorem d_X11_retake_31 : decode (mC M_X11_retake) 31 = .ok (.aload_n 0, 1) := by decide +kernel
theorem d_X11_retake_32 : decode (mC M_X11_retake) 32 = .ok (.getfield 10, 3) := by decide +kernel
theorem d_X11_retake_35 : decode (mC M_X11_retake) 35 = .ok (.invokevirtual 80, 3) := by decide +kernel
theorem d_X11_retake_38 : decode (mC M_X11_retake) 38 = .ok (.if_icmp .ge 77, 3) := by decide +kernel
theorem d_X11_retake_41 : decode (mC M_X11_retake) 41 = .ok (.aload_n 0, 1) := by decide +kernel
theorem d_X11_retake_42 : decode (mC M_X11_retake) 42 = .ok (.getfield 10, 3) := by decide +kernel
theorem d_X11_retake_45 : decode (mC M_X11_retake) 45 = .ok (.iload_n 3, 1) := by decide +kernel
theorem d_X11_retake_46 : decode (mC M_X11_retake) 46 = .ok (.invokevirtual 218, 3) := by decide +kernel
theorem d_X11_retake_49 : decode (mC M_X11_retake) 49 = .ok (.checkcast 84, 3) := by decide +kernel
theorem d_X11_retake_52 : decode (mC M_X11_retake) 52 = .ok (.astore 4, 2) := by decide +kernel
theorem d_X11_retake_54 : decode (mC M_X11_retake) 54 = .ok (.aload 4, 2) := by decide +kernel
theorem d_X11_retake_56 : decode (mC M_X11_retake) 56 = .ok (.getfield 101, 3) := by decide +kernel
theorem d_X11_retake_59 : decode (mC M_X11_retake) 59 = .ok (.ifCond .ne 25, 3) := by decide +kernel
theorem d_X11_retake_62 : decode (mC M_X11_retake) 62 = .ok (.aload 4, 2) := by decide +kernel
theorem d_X11_retake_64 : decode (mC M_X11_retake) 64 = .ok (.getfield 222, 3) := by decide +kernel
theorem d_X11_retake_67 : decode (mC M_X11_retake) 67 = .ok (.sipush 1440, 3) := by decide +kernel
theorem d_X11_retake_70 : decode (mC M_X11_retake) 70 = .ok (.aload_n 0, 1) := by decide +kernel
theorem d_X11_retake_71 : decode (mC M_X11_retake) 71 = .ok (.getfield 143, 3) := by decide +kernel
theorem d_X11_retake_74 : decode (mC M_X11_retake) 74 = .ok (.imul, 1) := by decide +kernel
theorem d_X11_retake_75 : decode (mC M_X11_retake) 75 = .ok (.iload_n 2, 1) := by decide +kernel
theorem d_X11_retake_76 : decode (mC M_X11_retake) 76 = .ok (.iadd, 1) := by decide +kernel
theorem d_X11_retake_77 : decode (mC M_X11_retake) 77 = .ok (.if_icmp .gt 7, 3) := by decide +kernel
theorem d_X11_retake_80 : decode (mC M_X11_retake) 80 = .ok (.iconst 1, 1) := by decide +kernel
theorem d_X11_retake_81 : decode (mC M_X11_retake) 81 = .ok (.goto 4, 3) := by decide +kernel
theorem d_X11_retake_84 : decode (mC M_X11_retake) 84 = .ok (.iconst 0, 1) := by decide +kernel
theorem d_X11_retake_85 : decode (mC M_X11_retake) 85 = .ok (.istore 5, 2) := by decide +kernel
theorem d_X11_retake_87 : decode (mC M_X11_retake) 87 = .ok (.aload 4, 2) := by decide +kernel
theorem d_X11_retake_89 : decode (mC M_X11_retake) 89 = .ok (.iload_n 1, 1) := by decide +kernel
theorem d_X11_retake_90 : decode (mC M_X11_retake) 90 = .ok (.invokevirtual 225, 3) := by decide +kernel
theorem d_X11_retake_93 : decode (mC M_X11_retake) 93 = .ok (.ifCond .eq 16, 3) := by decide +kernel
theorem d_X11_retake_96 : decode (mC M_X11_retake) 96 = .ok (.iload 5, 2) := by decide +kernel
theorem d_X11_retake_98 : decode (mC M_X11_retake) 98 = .ok (.ifCond .ne 11, 3) := by decide +kernel
theorem d_X11_retake_101 : decode (mC M_X11_retake) 101 = .ok (.aload_n 0, 1) := by decide +kernel
theorem d_X11_retake_102 : decode (mC M_X11_retake) 102 = .ok (.getfield 72, 3) := by decide +kernel
theorem d_X11_retake_105 : decode (mC M_X11_retake) 105 = .ok (.iload_n 3, 1) := by decide +kernel
theorem d_X11_retake_106 : decode (mC M_X11_retake) 106 = .ok (.invokevirtual 228, 3) := by decide +kernel
theorem d_X11_retake_109 : decode (mC M_X11_retake) 109 = .ok (.iinc 3 1, 3) := by decide +kernel
theorem d_X11_retake_112 : decode (mC M_X11_retake) 112 = .ok (.goto (-82), 3) := by decide +kernel
theorem d_X11_retake_115 : decode (mC M_X11_retake) 115 = .ok (.aload_n 0, 1) := by decide +kernel
theorem d_X11_retake_116 : decode (mC M_X11_retake) 116 = .ok (.getfield 72, 3) := by decide +kernel
theorem d_X11_retake_119 : decode (mC M_X11_retake) 119 = .ok (.getfield 105, 3) := by decide +kernel
theorem d_X11_retake_122 : decode (mC M_X11_retake) 122 = .ok (.ireturn, 1) := by decide +kernel
theorem d_X11_seen_0 : decode (mC M_X11_seen) 0 = .ok (.aload_n 0, 1) := by decide +kernel
theorem d_X11_seen_1 : decode (mC M_X11_seen) 1 = .ok (.iload_n 1, 1) := by decide +kernel
theorem d_X11_seen_2 : decode (mC M_X11_seen) 2 = .ok (.invokevirtual 93, 3) := by decide +kernel
theorem d_X11_seen_5 : decode (mC M_X11_seen) 5 = .ok (.ifnull 25, 3) := by decide +kernel
theorem d_X11_seen_8 : decode (mC M_X11_seen) 8 = .ok (.iload_n 2, 1) := by decide +kernel
theorem d_X11_seen_9 : decode (mC M_X11_seen) 9 = .ok (.invokestatic 196, 3) := by decide +kernel
theorem d_X11_seen_12 : decode (mC M_X11_seen) 12 = .ok (.ifCond .eq 18, 3) := by decide +kernel
theorem d_X11_seen_15 : decode (mC M_X11_seen) 15 = .ok (.iload_n 3, 1) := by decide +kernel
theorem d_X11_seen_16 : decode (mC M_X11_seen) 16 = .ok (.iconst 0, 1) := by decide +kernel
theorem d_X11_seen_17 : decode (mC M_X11_seen) 17 = .ok (.aload_n 0, 1) := by decide +kernel
theorem d_X11_seen_18 : decode (mC M_X11_seen) 18 = .ok (.getfield 49, 3) := by decide +kernel
theorem d_X11_seen_21 : decode (mC M_X11_seen) 21 = .ok (.invokevirtual 206, 3) := by decide +kernel
theorem d_X11_seen_24 : decode (mC M_X11_seen) 24 = .ok (.invokestatic 75, 3) := by decide +kernel
theorem d_X11_seen_27 : decode (mC M_X11_seen) 27 = .ok (.ifCond .ne 13, 3) := by decide +kernel
theorem d_X11_seen_30 : decode (mC M_X11_seen) 30 = .ok (.new 207, 3) := by decide +kernel
theorem d_X11_seen_33 : decode (mC M_X11_seen) 33 = .ok (.dup, 1) := by decide +kernel
theorem d_X11_seen_34 : decode (mC M_X11_seen) 34 = .ok (.ldc 209, 2) := by decide +kernel
theorem d_X11_seen_36 : decode (mC M_X11_seen) 36 = .ok (.invokespecial 211, 3) := by decide +kernel
theorem d_X11_seen_39 : decode (mC M_X11_seen) 39 = .ok (.athrow, 1) := by decide +kernel
theorem d_X11_seen_40 : decode (mC M_X11_seen) 40 = .ok (.aload_n 0, 1) := by decide +kernel
theorem d_X11_seen_41 : decode (mC M_X11_seen) 41 = .ok (.getfield 49, 3) := by decide +kernel
theorem d_X11_seen_44 : decode (mC M_X11_seen) 44 = .ok (.iload_n 1, 1) := by decide +kernel
theorem d_X11_seen_45 : decode (mC M_X11_seen) 45 = .ok (.iload_n 2, 1) := by decide +kernel
theorem d_X11_seen_46 : decode (mC M_X11_seen) 46 = .ok (.iload_n 3, 1) := by decide +kernel
theorem d_X11_seen_47 : decode (mC M_X11_seen) 47 = .ok (.invokevirtual 214, 3) := by decide +kernel
theorem d_X11_seen_50 : decode (mC M_X11_seen) 50 = .ok (.ireturn, 1) := by decide +kernel
theorem d_X11_sendAll_0 : decode (mC M_X11_sendAll) 0 = .ok (.aload_n 0, 1) := by decide +kernel
theorem d_X11_sendAll_1 : decode (mC M_X11_sendAll) 1 = .ok (.getfield 43, 3) := by decide +kernel
theorem d_X11_sendAll_4 : decode (mC M_X11_sendAll) 4 = .ok (.invokevirtual 153, 3) := by decide +kernel
theorem d_X11_sendAll_7 : decode (mC M_X11_sendAll) 7 = .ok (.ifCond .eq 7, 3) := by decide +kernel
theorem d_X11_sendAll_10 : decode (mC M_X11_sendAll) 10 = .ok (.aconst_null, 1) := by decide +kernel
theorem d_X11_sendAll_11 : decode (mC M_X11_sendAll) 11 = .ok (.goto 22, 3) := by decide +kernel
theorem d_X11_sendAll_14 : decode (mC M_X11_sendAll) 14 = .ok (.aload_n 0, 1) := by decide +kernel
theorem d_X11_sendAll_15 : decode (mC M_X11_sendAll) 15 = .ok (.getfield 43, 3) := by decide +kernel
theorem d_X11_sendAll_18 : decode (mC M_X11_sendAll) 18 = .ok (.aload_n 0, 1) := by decide +kernel
theorem d_X11_sendAll_19 : decode (mC M_X11_sendAll) 19 = .ok (.getfield 43, 3) := by decide +kernel
theorem d_X11_sendAll_22 : decode (mC M_X11_sendAll) 22 = .ok (.invokevirtual 80, 3) := by decide +kernel
theorem d_X11_sendAll_25 : decode (mC M_X11_sendAll) 25 = .ok (.iconst 1, 1) := by decide +kernel
theorem d_X11_sendAll_26 : decode (mC M_X11_sendAll) 26 = .ok (.isub, 1) := by decide +kernel
theorem d_X11_sendAll_27 : decode (mC M_X11_sendAll) 27 = .ok (.invokevirtual 218, 3) := by decide +kernel
theorem d_X11_sendAll_30 : decode (mC M_X11_sendAll) 30 = .ok (.checkcast 121, 3) := by decide +kernel
theorem d_X11_sendAll_33 : decode (mC M_X11_sendAll) 33 = .ok (.astore_n 1, 1) := by decide +kernel
theorem d_X11_sendAll_34 : decode (mC M_X11_sendAll) 34 = .ok (.iconst (-1), 1) := by decide +kernel
theorem d_X11_sendAll_35 : decode (mC M_X11_sendAll) 35 = .ok (.istore_n 2, 1) := by decide +kernel
theorem d_X11_sendAll_36 : decode (mC M_X11_sendAll) 36 = .ok (.iconst 0, 1) := by decide +kernel
theorem d_X11_sendAll_37 : decode (mC M_X11_sendAll) 37 = .ok (.istore_n 3, 1) := by decide +kernel
theorem d_X11_sendAll_38 : decode (mC M_X11_sendAll) 38 = .ok (.iload_n 3, 1) := by decide +kernel
theorem d_X11_sendAll_39 : decode (mC M_X11_sendAll) 39 = .ok (.aload_n 0, 1) := by decide +kernel
theorem d_X11_sendAll_40 : decode (mC M_X11_sendAll) 40 = .ok (.getfield 65, 3) := by decide +kernel
theorem d_X11_sendAll_43 : decode (mC M_X11_sendAll) 43 = .ok (.getfield 244, 3) := by decide +kernel
theorem d_X11_sendAll_46 : decode (mC M_X11_sendAll) 46 = .ok (.invokevirtual 80, 3) := by decide +kernel
theorem d_X11_sendAll_49 : decode (mC M_X11_sendAll) 49 = .ok (.if_icmp .ge 69, 3) := by decide +kernel
theorem d_X11_sendAll_52 : decode (mC M_X11_sendAll) 52 = .ok (.aload_n 0, 1) := by decide +kernel
theorem d_X11_sendAll_53 : decode (mC M_X11_sendAll) 53 = .ok (.getfield 65, 3) := by decide +kernel
theorem d_X11_sendAll_56 : decode (mC M_X11_sendAll) 56 = .ok (.getfield 244, 3) := by decide +kernel
theorem d_X11_sendAll_59 : decode (mC M_X11_sendAll) 59 = .ok (.iload_n 3, 1) := by decide +kernel
theorem d_X11_sendAll_60 : decode (mC M_X11_sendAll) 60 = .ok (.invokevirtual 218, 3) := by decide +kernel
theorem d_X11_sendAll_63 : decode (mC M_X11_sendAll) 63 = .ok (.checkcast 192, 3) := by decide +kernel
theorem d_X11_sendAll_66 : decode (mC M_X11_sendAll) 66 = .ok (.astore 4, 2) := by decide +kernel
theorem d_X11_sendAll_68 : decode (mC M_X11_sendAll) 68 = .ok (.aload 4, 2) := by decide +kernel
theorem d_X11_sendAll_70 : decode (mC M_X11_sendAll) 70 = .ok (.aload_n 1, 1) := by decide +kernel
theorem d_X11_sendAll_71 : decode (mC M_X11_sendAll) 71 = .ok (.invokevirtual 247, 3) := by decide +kernel
theorem d_X11_sendAll_74 : decode (mC M_X11_sendAll) 74 = .ok (.aload_n 0, 1) := by decide +kernel
theorem d_X11_sendAll_75 : decode (mC M_X11_sendAll) 75 = .ok (.getfield 49, 3) := by decide +kernel
theorem d_X11_sendAll_78 : decode (mC M_X11_sendAll) 78 = .ok (.aload 4, 2) := by decide +kernel
theorem d_X11_sendAll_80 : decode (mC M_X11_sendAll) 80 = .ok (.getfield 235, 3) := by decide +kernel
theorem d_X11_sendAll_83 : decode (mC M_X11_sendAll) 83 = .ok (.aload 4, 2) := by decide +kernel
theorem d_X11_sendAll_85 : decode (mC M_X11_sendAll) 85 = .ok (.getfield 251, 3) := by decide +kernel
theorem d_X11_sendAll_88 : decode (mC M_X11_sendAll) 88 = .ok (.invokevirtual 203, 3) := by decide +kernel
theorem d_X11_sendAll_91 : decode (mC M_X11_sendAll) 91 = .ok (.pop, 1) := by decide +kernel
theorem d_X11_sendAll_92 : decode (mC M_X11_sendAll) 92 = .ok (.aload_n 0, 1) := by decide +kernel
theorem d_X11_sendAll_93 : decode (mC M_X11_sendAll) 93 = .ok (.getfield 69, 3) := by decide +kernel
theorem d_X11_sendAll_96 : decode (mC M_X11_sendAll) 96 = .ok (.aload 4, 2) := by decide +kernel
theorem d_X11_sendAll_98 : decode (mC M_X11_sendAll) 98 = .ok (.invokevirtual 89, 3) := by decide +kernel
theorem d_X11_sendAll_101 : decode (mC M_X11_sendAll) 101 = .ok (.pop, 1) := by decide +kernel
theorem d_X11_sendAll_102 : decode (mC M_X11_sendAll) 102 = .ok (.iload_n 2, 1) := by decide +kernel
theorem d_X11_sendAll_103 : decode (mC M_X11_sendAll) 103 = .ok (.aload 4, 2) := by decide +kernel
theorem d_X11_sendAll_105 : decode (mC M_X11_sendAll) 105 = .ok (.getfield 254, 3) := by decide +kernel
theorem d_X11_sendAll_108 : decode (mC M_X11_sendAll) 108 = .ok (.invokestatic 257, 3) := by decide +kernel
theorem d_X11_sendAll_111 : decode (mC M_X11_sendAll) 111 = .ok (.istore_n 2, 1) := by decide +kernel
theorem d_X11_sendAll_112 : decode (mC M_X11_sendAll) 112 = .ok (.iinc 3 1, 3) := by decide +kernel
theorem d_X11_sendAll_115 : decode (mC M_X11_sendAll) 115 = .ok (.goto (-77), 3) := by decide +kernel
theorem d_X11_sendAll_118 : decode (mC M_X11_sendAll) 118 = .ok (.iload_n 2, 1) := by decide +kernel
theorem d_X11_sendAll_119 : decode (mC M_X11_sendAll) 119 = .ok (.ireturn, 1) := by decide +kernel
theorem d_X11_step_0 : decode (mC M_X11_step) 0 = .ok (.iload_n 1, 1) := by decide +kernel
theorem d_X11_step_1 : decode (mC M_X11_step) 1 = .ok (.iconst 1, 1) := by decide +kernel
theorem d_X11_step_2 : decode (mC M_X11_step) 2 = .ok (.iconst 5, 1) := by decide +kernel
theorem d_X11_step_3 : decode (mC M_X11_step) 3 = .ok (.invokestatic 75, 3) := by decide +kernel
theorem d_X11_step_6 : decode (mC M_X11_step) 6 = .ok (.ifCond .eq 22, 3) := by decide +kernel
theorem d_X11_step_9 : decode (mC M_X11_step) 9 = .ok (.aload_n 0, 1) := by decide +kernel
theorem d_X11_step_10 : decode (mC M_X11_step) 10 = .ok (.getfield 58, 3) := by decide +kernel
theorem d_X11_step_13 : decode (mC M_X11_step) 13 = .ok (.invokevirtual 160, 3) := by decide +kernel
theorem d_X11_step_16 : decode (mC M_X11_step) 16 = .ok (.ifCond .eq 12, 3) := by decide +kernel
theorem d_X11_step_19 : decode (mC M_X11_step) 19 = .ok (.aload_n 0, 1) := by decide +kernel
theorem d_X11_step_20 : decode (mC M_X11_step) 20 = .ok (.getfield 143, 3) := by decide +kernel
theorem d_X11_step_23 : decode (mC M_X11_step) 23 = .ok (.bipush 60, 2) := by decide +kernel
theorem d_X11_step_25 : decode (mC M_X11_step) 25 = .ok (.if_icmp .lt 5, 3) := by decide +kernel
theorem d_X11_step_28 : decode (mC M_X11_step) 28 = .ok (.iconst (-1), 1) := by decide +kernel
theorem d_X11_step_29 : decode (mC M_X11_step) 29 = .ok (.ireturn, 1) := by decide +kernel
theorem d_X11_step_30 : decode (mC M_X11_step) 30 = .ok (.aload_n 0, 1) := by decide +kernel
theorem d_X11_step_31 : decode (mC M_X11_step) 31 = .ok (.getfield 65, 3) := by decide +kernel
theorem d_X11_step_34 : decode (mC M_X11_step) 34 = .ok (.aload_n 0, 1) := by decide +kernel
theorem d_X11_step_35 : decode (mC M_X11_step) 35 = .ok (.getfield 10, 3) := by decide +kernel
theorem d_X11_step_38 : decode (mC M_X11_step) 38 = .ok (.iload_n 2, 1) := by decide +kernel
theorem d_X11_step_39 : decode (mC M_X11_step) 39 = .ok (.aload_n 0, 1) := by decide +kernel
theorem d_X11_step_40 : decode (mC M_X11_step) 40 = .ok (.getfield 143, 3) := by decide +kernel
theorem d_X11_step_43 : decode (mC M_X11_step) 43 = .ok (.invokevirtual 177, 3) := by decide +kernel
theorem d_X11_step_46 : decode (mC M_X11_step) 46 = .ok (.aload_n 0, 1) := by decide +kernel
theorem d_X11_step_47 : decode (mC M_X11_step) 47 = .ok (.getfield 65, 3) := by decide +kernel
theorem d_X11_step_50 : decode (mC M_X11_step) 50 = .ok (.iload_n 1, 1) := by decide +kernel
theorem d_X11_step_51 : decode (mC M_X11_step) 51 = .ok (.invokevirtual 181, 3) := by decide +kernel
theorem d_X11_step_54 : decode (mC M_X11_step) 54 = .ok (.aload_n 0, 1) := by decide +kernel
theorem d_X11_step_55 : decode (mC M_X11_step) 55 = .ok (.invokevirtual 184, 3) := by decide +kernel
theorem d_X11_step_58 : decode (mC M_X11_step) 58 = .ok (.istore_n 3, 1) := by decide +kernel
theorem d_X11_step_59 : decode (mC M_X11_step) 59 = .ok (.aload_n 0, 1) := by decide +kernel
theorem d_X11_step_60 : decode (mC M_X11_step) 60 = .ok (.getfield 58, 3) := by decide +kernel
theorem d_X11_step_63 : decode (mC M_X11_step) 63 = .ok (.new 7, 3) := by decide +kernel
theorem d_X11_step_66 : decode (mC M_X11_step) 66 = .ok (.dup, 1) := by decide +kernel
theorem d_X11_step_67 : decode (mC M_X11_step) 67 = .ok (.invokespecial 9, 3) := by decide +kernel
theorem d_X11_step_70 : decode (mC M_X11_step) 70 = .ok (.invokevirtual 118, 3) := by decide +kernel
theorem d_X11_step_73 : decode (mC M_X11_step) 73 = .ok (.aload_n 0, 1) := by decide +kernel
theorem d_X11_step_74 : decode (mC M_X11_step) 74 = .ok (.dup, 1) := by decide +kernel
theorem d_X11_step_75 : decode (mC M_X11_step) 75 = .ok (.getfield 143, 3) := by decide +kernel
theorem d_X11_step_78 : decode (mC M_X11_step) 78 = .ok (.iconst 1, 1) := by decide +kernel
theorem d_X11_step_79 : decode (mC M_X11_step) 79 = .ok (.iadd, 1) := by decide +kernel
theorem d_X11_step_80 : decode (mC M_X11_step) 80 = .ok (.putfield 143, 3) := by decide +kernel
theorem d_X11_step_83 : decode (mC M_X11_step) 83 = .ok (.iload_n 3, 1) := by decide +kernel
theorem d_X11_step_84 : decode (mC M_X11_step) 84 = .ok (.ireturn, 1) := by decide +kernel
theorem d_X11_tell_0 : decode (mC M_X11_tell) 0 = .ok (.aload_n 0, 1) := by decide +kernel
theorem d_X11_tell_1 : decode (mC M_X11_tell) 1 = .ok (.iload_n 1, 1) := by decide +kernel
theorem d_X11_tell_2 : decode (mC M_X11_tell) 2 = .ok (.invokevirtual 93, 3) := by decide +kernel
theorem d_X11_tell_5 : decode (mC M_X11_tell) 5 = .ok (.astore_n 3, 1) := by decide +kernel
theorem d_X11_tell_6 : decode (mC M_X11_tell) 6 = .ok (.aload_n 3, 1) := by decide +kernel
theorem d_X11_tell_7 : decode (mC M_X11_tell) 7 = .ok (.ifnull 23, 3) := by decide +kernel
theorem d_X11_tell_10 : decode (mC M_X11_tell) 10 = .ok (.iload_n 2, 1) := by decide +kernel
theorem d_X11_tell_11 : decode (mC M_X11_tell) 11 = .ok (.invokestatic 196, 3) := by decide +kernel
theorem d_X11_tell_14 : decode (mC M_X11_tell) 14 = .ok (.ifCond .eq 16, 3) := by decide +kernel
theorem d_X11_tell_17 : decode (mC M_X11_tell) 17 = .ok (.aload_n 0, 1) := by decide +kernel
theorem d_X11_tell_18 : decode (mC M_X11_tell) 18 = .ok (.getfield 49, 3) := by decide +kernel
theorem d_X11_tell_21 : decode (mC M_X11_tell) 21 = .ok (.getfield 200, 3) := by decide +kernel
theorem d_X11_tell_24 : decode (mC M_X11_tell) 24 = .ok (.sipush 200, 3) := by decide +kernel
theorem d_X11_tell_27 : decode (mC M_X11_tell) 27 = .ok (.if_icmp .lt 5, 3) := by decide +kernel
theorem d_X11_tell_30 : decode (mC M_X11_tell) 30 = .ok (.iconst (-1), 1) := by decide +kernel
theorem d_X11_tell_31 : decode (mC M_X11_tell) 31 = .ok (.ireturn, 1) := by decide +kernel
theorem d_X11_tell_32 : decode (mC M_X11_tell) 32 = .ok (.aload_n 0, 1) := by decide +kernel
theorem d_X11_tell_33 : decode (mC M_X11_tell) 33 = .ok (.getfield 49, 3) := by decide +kernel
theorem d_X11_tell_36 : decode (mC M_X11_tell) 36 = .ok (.dup, 1) := by decide +kernel
theorem d_X11_tell_37 : decode (mC M_X11_tell) 37 = .ok (.getfield 200, 3) := by decide +kernel
theorem d_X11_tell_40 : decode (mC M_X11_tell) 40 = .ok (.iconst 1, 1) := by decide +kernel
theorem d_X11_tell_41 : decode (mC M_X11_tell) 41 = .ok (.iadd, 1) := by decide +kernel
theorem d_X11_tell_42 : decode (mC M_X11_tell) 42 = .ok (.putfield 200, 3) := by decide +kernel
theorem d_X11_tell_45 : decode (mC M_X11_tell) 45 = .ok (.aload_n 0, 1) := by decide +kernel
theorem d_X11_tell_46 : decode (mC M_X11_tell) 46 = .ok (.getfield 49, 3) := by decide +kernel
theorem d_X11_tell_49 : decode (mC M_X11_tell) 49 = .ok (.aload_n 3, 1) := by decide +kernel
theorem d_X11_tell_50 : decode (mC M_X11_tell) 50 = .ok (.iload_n 2, 1) := by decide +kernel
theorem d_X11_tell_51 : decode (mC M_X11_tell) 51 = .ok (.invokevirtual 203, 3) := by decide +kernel
theorem d_X11_tell_54 : decode (mC M_X11_tell) 54 = .ok (.ireturn, 1) := by decide +kernel
theorem d_X11_within_0 : decode (mC M_X11_within) 0 = .ok (.iload_n 0, 1) := by decide +kernel
theorem d_X11_within_1 : decode (mC M_X11_within) 1 = .ok (.iload_n 1, 1) := by decide +kernel
theorem d_X11_within_2 : decode (mC M_X11_within) 2 = .ok (.if_icmp .lt 12, 3) := by decide +kernel
theorem d_X11_within_5 : decode (mC M_X11_within) 5 = .ok (.iload_n 0, 1) := by decide +kernel
theorem d_X11_within_6 : decode (mC M_X11_within) 6 = .ok (.iload_n 2, 1) := by decide +kernel
theorem d_X11_within_7 : decode (mC M_X11_within) 7 = .ok (.if_icmp .gt 7, 3) := by decide +kernel
theorem d_X11_within_10 : decode (mC M_X11_within) 10 = .ok (.iconst 1, 1) := by decide +kernel
theorem d_X11_within_11 : decode (mC M_X11_within) 11 = .ok (.goto 4, 3) := by decide +kernel
theorem d_X11_within_14 : decode (mC M_X11_within) 14 = .ok (.iconst 0, 1) := by decide +kernel
theorem d_X11_within_15 : decode (mC M_X11_within) 15 = .ok (.ireturn, 1) := by decide +kernel
theorem d_X12_about_0 : decode (mC M_X12_about) 0 = .ok (.aload_n 0, 1) := by decide +kernel
theorem d_X12_about_1 : decode (mC M_X12_about) 1 = .ok (.iconst 0, 1) := by decide +kernel
theorem d_X12_about_2 : decode (mC M_X12_about) 2 = .ok (.putfield 1, 3) := by decide +kernel
theorem d_X12_about_5 : decode (mC M_X12_about) 5 = .ok (.aload_n 0, 1) := by decide +kernel
theorem d_X12_about_6 : decode (mC M_X12_about) 6 = .ok (.iload_n 1, 1) := by decide +kernel
theorem d_X12_about_7 : decode (mC M_X12_about) 7 = .ok (.invokevirtual 159, 3) := by decide +kernel
theorem d_X12_about_10 : decode (mC M_X12_about) 10 = .ok (.ifCond .ne 5, 3) := by decide +kernel
theorem d_X12_about_13 : decode (mC M_X12_about) 13 = .ok (.iconst (-1), 1) := by decide +kernel
theorem d_X12_about_14 : decode (mC M_X12_about) 14 = .ok (.ireturn, 1) := by decide +kernel
theorem d_X12_about_15 : decode (mC M_X12_about) 15 = .ok (.iload_n 2, 1) := by decide +kernel
theorem d_X12_about_16 : decode (mC M_X12_about) 16 = .ok (.tableswitch 112 0 7 #[48, 55, 62, 69, 76, 83, 98, 105], 48) := by decide +kernel
theorem d_X12_about_64 : decode (mC M_X12_about) 64 = .ok (.aload_n 0, 1) := by decide +kernel
theorem d_X12_about_65 : decode (mC M_X12_about) 65 = .ok (.getfield 13, 3) := by decide +kernel
theorem d_X12_about_68 : decode (mC M_X12_about) 68 = .ok (.iload_n 1, 1) := by decide +kernel
theorem d_X12_about_69 : decode (mC M_X12_about) 69 = .ok (.iaload, 1) := by decide +kernel
theorem d_X12_about_70 : decode (mC M_X12_about) 70 = .ok (.ireturn, 1) := by decide +kernel
theorem d_X12_about_71 : decode (mC M_X12_about) 71 = .ok (.aload_n 0, 1) := by decide +kernel
theorem d_X12_about_72 : decode (mC M_X12_about) 72 = .ok (.getfield 17, 3) := by decide +kernel
theorem d_X12_about_75 : decode (mC M_X12_about) 75 = .ok (.iload_n 1, 1) := by decide +kernel
theorem d_X12_about_76 : decode (mC M_X12_about) 76 = .ok (.iaload, 1) := by decide +kernel
theorem d_X12_about_77 : decode (mC M_X12_about) 77 = .ok (.ireturn, 1) := by decide +kernel
theorem d_X12_about_78 : decode (mC M_X12_about) 78 = .ok (.aload_n 0, 1) := by decide +kernel
theorem d_X12_about_79 : decode (mC M_X12_about) 79 = .ok (.getfield 20, 3) := by decide +kernel
theorem d_X12_about_82 : decode (mC M_X12_about) 82 = .ok (.iload_n 1, 1) := by decide +kernel
theorem d_X12_about_83 : decode (mC M_X12_about) 83 = .ok (.iaload, 1) := by decide +kernel
theorem d_X12_about_84 : decode (mC M_X12_about) 84 = .ok (.ireturn, 1) := by decide +kernel
theorem d_X12_about_85 : decode (mC M_X12_about) 85 = .ok (.aload_n 0, 1) := by decide +kernel
theorem d_X12_about_86 : decode (mC M_X12_about) 86 = .ok (.getfield 23, 3) := by decide +kernel
theorem d_X12_about_89 : decode (mC M_X12_about) 89 = .ok (.iload_n 1, 1) := by decide +kernel
theorem d_X12_about_90 : decode (mC M_X12_about) 90 = .ok (.iaload, 1) := by decide +kernel
theorem d_X12_about_91 : decode (mC M_X12_about) 91 = .ok (.ireturn, 1) := by decide +kernel
theorem d_X12_about_92 : decode (mC M_X12_about) 92 = .ok (.aload_n 0, 1) := by decide +kernel
theorem d_X12_about_93 : decode (mC M_X12_about) 93 = .ok (.getfield 26, 3) := by decide +kernel
theorem d_X12_about_96 : decode (mC M_X12_about) 96 = .ok (.iload_n 1, 1) := by decide +kernel
theorem d_X12_about_97 : decode (mC M_X12_about) 97 = .ok (.iaload, 1) := by decide +kernel
theorem d_X12_about_98 : decode (mC M_X12_about) 98 = .ok (.ireturn, 1) := by decide +kernel
theorem d_X12_about_99 : decode (mC M_X12_about) 99 = .ok (.aload_n 0, 1) := by decide +kernel
theorem d_X12_about_100 : decode (mC M_X12_about) 100 = .ok (.getfield 29, 3) := by decide +kernel
theorem d_X12_about_103 : decode (mC M_X12_about) 103 = .ok (.iload_n 1, 1) := by decide +kernel
theorem d_X12_about_104 : decode (mC M_X12_about) 104 = .ok (.baload, 1) := by decide +kernel
theorem d_X12_about_105 : decode (mC M_X12_about) 105 = .ok (.ifCond .eq 7, 3) := by decide +kernel
theorem d_X12_about_108 : decode (mC M_X12_about) 108 = .ok (.iconst 1, 1) := by decide +kernel
theorem d_X12_about_109 : decode (mC M_X12_about) 109 = .ok (.goto 4, 3) := by decide +kernel
theorem d_X12_about_112 : decode (mC M_X12_about) 112 = .ok (.iconst 0, 1) := by decide +kernel
theorem d_X12_about_113 : decode (mC M_X12_about) 113 = .ok (.ireturn, 1) := by decide +kernel
theorem d_X12_about_114 : decode (mC M_X12_about) 114 = .ok (.aload_n 0, 1) := by decide +kernel
theorem d_X12_about_115 : decode (mC M_X12_about) 115 = .ok (.getfield 33, 3) := by decide +kernel
theorem d_X12_about_118 : decode (mC M_X12_about) 118 = .ok (.iload_n 1, 1) := by decide +kernel
theorem d_X12_about_119 : decode (mC M_X12_about) 119 = .ok (.iaload, 1) := by decide +kernel
theorem d_X12_about_120 : decode (mC M_X12_about) 120 = .ok (.ireturn, 1) := by decide +kernel
theorem d_X12_about_121 : decode (mC M_X12_about) 121 = .ok (.aload_n 0, 1) := by decide +kernel
theorem d_X12_about_122 : decode (mC M_X12_about) 122 = .ok (.getfield 36, 3) := by decide +kernel
theorem d_X12_about_125 : decode (mC M_X12_about) 125 = .ok (.iload_n 1, 1) := by decide +kernel
theorem d_X12_about_126 : decode (mC M_X12_about) 126 = .ok (.iaload, 1) := by decide +kernel
theorem d_X12_about_127 : decode (mC M_X12_about) 127 = .ok (.ireturn, 1) := by decide +kernel
theorem d_X12_about_128 : decode (mC M_X12_about) 128 = .ok (.iconst (-1), 1) := by decide +kernel
theorem d_X12_about_129 : decode (mC M_X12_about) 129 = .ok (.ireturn, 1) := by decide +kernel
theorem d_X12_agree_0 : decode (mC M_X12_agree) 0 = .ok (.aload_n 0, 1) := by decide +kernel
theorem d_X12_agree_1 : decode (mC M_X12_agree) 1 = .ok (.iconst 0, 1) := by decide +kernel
theorem d_X12_agree_2 : decode (mC M_X12_agree) 2 = .ok (.putfield 1, 3) := by decide +kernel
theorem d_X12_agree_5 : decode (mC M_X12_agree) 5 = .ok (.aload_n 0, 1) := by decide +kernel
theorem d_X12_agree_6 : decode (mC M_X12_agree) 6 = .ok (.getfield 345, 3) := by decide +kernel
theorem d_X12_agree_9 : decode (mC M_X12_agree) 9 = .ok (.bipush 30, 2) := by decide +kernel
theorem d_X12_agree_11 : decode (mC M_X12_agree) 11 = .ok (.if_icmp .ne 6, 3) := by decide +kernel
theorem d_X12_agree_14 : decode (mC M_X12_agree) 14 = .ok (.bipush (-2), 2) := by decide +kernel
theorem d_X12_agree_16 : decode (mC M_X12_agree) 16 = .ok (.ireturn, 1) := by decide +kernel
theorem d_X12_agree_17 : decode (mC M_X12_agree) 17 = .ok (.aload_n 0, 1) := by decide +kernel
theorem d_X12_agree_18 : decode (mC M_X12_agree) 18 = .ok (.iconst 0, 1) := by decide +kernel
theorem d_X12_agree_19 : decode (mC M_X12_agree) 19 = .ok (.putfield 221, 3) := by decide +kernel
theorem d_X12_agree_22 : decode (mC M_X12_agree) 22 = .ok (.aload_n 0, 1) := by decide +kernel
theorem d_X12_agree_23 : decode (mC M_X12_agree) 23 = .ok (.getfield 103, 3) := by decide +kernel
theorem d_X12_agree_26 : decode (mC M_X12_agree) 26 = .ok (.aload_n 0, 1) := by decide +kernel
theorem d_X12_agree_27 : decode (mC M_X12_agree) 27 = .ok (.getfield 345, 3) := by decide +kernel
theorem d_X12_agree_30 : decode (mC M_X12_agree) 30 = .ok (.iconst 0, 1) := by decide +kernel
theorem d_X12_agree_31 : decode (mC M_X12_agree) 31 = .ok (.iastore, 1) := by decide +kernel
theorem d_X12_agree_32 : decode (mC M_X12_agree) 32 = .ok (.aload_n 0, 1) := by decide +kernel
theorem d_X12_agree_33 : decode (mC M_X12_agree) 33 = .ok (.aload_n 0, 1) := by decide +kernel
theorem d_X12_agree_34 : decode (mC M_X12_agree) 34 = .ok (.getfield 48, 3) := by decide +kernel
theorem d_X12_agree_37 : decode (mC M_X12_agree) 37 = .ok (.aload_n 0, 1) := by decide +kernel
theorem d_X12_agree_38 : decode (mC M_X12_agree) 38 = .ok (.getfield 177, 3) := by decide +kernel
theorem d_X12_agree_41 : decode (mC M_X12_agree) 41 = .ok (.iconst 0, 1) := by decide +kernel
theorem d_X12_agree_42 : decode (mC M_X12_agree) 42 = .ok (.invokevirtual 288, 3) := by decide +kernel
theorem d_X12_agree_45 : decode (mC M_X12_agree) 45 = .ok (.aload_n 0, 1) := by decide +kernel
theorem d_X12_agree_46 : decode (mC M_X12_agree) 46 = .ok (.getfield 221, 3) := by decide +kernel
theorem d_X12_agree_49 : decode (mC M_X12_agree) 49 = .ok (.ifCond .ne 17, 3) := by decide +kernel
theorem d_X12_agree_52 : decode (mC M_X12_agree) 52 = .ok (.aload_n 0, 1) := by decide +kernel
theorem d_X12_agree_53 : decode (mC M_X12_agree) 53 = .ok (.getfield 192, 3) := by decide +kernel
theorem d_X12_agree_56 : decode (mC M_X12_agree) 56 = .ok (.ifCond .eq 10, 3) := by decide +kernel
theorem d_X12_agree_59 : decode (mC M_X12_agree) 59 = .ok (.aload_n 0, 1) := by decide +kernel
theorem d_X12_agree_60 : decode (mC M_X12_agree) 60 = .ok (.invokevirtual 354, 3) := by decide +kernel
theorem d_X12_agree_63 : decode (mC M_X12_agree) 63 = .ok (.goto (-18), 3) := by decide +kernel
theorem d_X12_agree_66 : decode (mC M_X12_agree) 66 = .ok (.aload_n 0, 1) := by decide +kernel
theorem d_X12_agree_67 : decode (mC M_X12_agree) 67 = .ok (.iconst 0, 1) := by decide +kernel
theorem d_X12_agree_68 : decode (mC M_X12_agree) 68 = .ok (.putfield 177, 3) := by decide +kernel
theorem d_X12_agree_71 : decode (mC M_X12_agree) 71 = .ok (.aload_n 0, 1) := by decide +kernel
theorem d_X12_agree_72 : decode (mC M_X12_agree) 72 = .ok (.aload_n 0, 1) := by decide +kernel
theorem d_X12_agree_73 : decode (mC M_X12_agree) 73 = .ok (.getfield 221, 3) := by decide +kernel
theorem d_X12_agree_76 : decode (mC M_X12_agree) 76 = .ok (.ifCond .ne 7, 3) := by decide +kernel
theorem d_X12_agree_79 : decode (mC M_X12_agree) 79 = .ok (.iconst (-1), 1) := by decide +kernel
theorem d_X12_agree_80 : decode (mC M_X12_agree) 80 = .ok (.goto 7, 3) := by decide +kernel
theorem d_X12_agree_83 : decode (mC M_X12_agree) 83 = .ok (.aload_n 0, 1) := by decide +kernel
theorem d_X12_agree_84 : decode (mC M_X12_agree) 84 = .ok (.getfield 224, 3) := by decide +kernel
theorem d_X12_agree_87 : decode (mC M_X12_agree) 87 = .ok (.putfield 52, 3) := by decide +kernel
theorem d_X12_agree_90 : decode (mC M_X12_agree) 90 = .ok (.aload_n 0, 1) := by decide +kernel
theorem d_X12_agree_91 : decode (mC M_X12_agree) 91 = .ok (.getfield 221, 3) := by decide +kernel
theorem d_X12_agree_94 : decode (mC M_X12_agree) 94 = .ok (.ifCond .eq 11, 3) := by decide +kernel
theorem d_X12_agree_97 : decode (mC M_X12_agree) 97 = .ok (.bipush (-2), 2) := by decide +kernel
theorem d_X12_agree_99 : decode (mC M_X12_agree) 99 = .ok (.aload_n 0, 1) := by decide +kernel
theorem d_X12_agree_100 : decode (mC M_X12_agree) 100 = .ok (.getfield 221, 3) := by decide +kernel
theorem d_X12_agree_103 : decode (mC M_X12_agree) 103 = .ok (.isub, 1) := by decide +kernel
theorem d_X12_agree_104 : decode (mC M_X12_agree) 104 = .ok (.ireturn, 1) := by decide +kernel
theorem d_X12_agree_105 : decode (mC M_X12_agree) 105 = .ok (.aload_n 0, 1) := by decide +kernel
theorem d_X12_agree_106 : decode (mC M_X12_agree) 106 = .ok (.dup, 1) := by decide +kernel
theorem d_X12_agree_107 : decode (mC M_X12_agree) 107 = .ok (.getfield 345, 3) := by decide +kernel
theorem d_X12_agree_110 : decode (mC M_X12_agree) 110 = .ok (.iconst 1, 1) := by decide +kernel
theorem d_X12_agree_111 : decode (mC M_X12_agree) 111 = .ok (.iadd, 1) := by decide +kernel
theorem d_X12_agree_112 : decode (mC M_X12_agree) 112 = .ok (.putfield 345, 3) := by decide +kernel
theorem d_X12_agree_115 : decode (mC M_X12_agree) 115 = .ok (.aload_n 0, 1) := by decide +kernel
theorem d_X12_agree_116 : decode (mC M_X12_agree) 116 = .ok (.getfield 345, 3) := by decide +kernel
theorem d_X12_agree_119 : decode (mC M_X12_agree) 119 = .ok (.iconst 1, 1) := by decide +kernel
theorem d_X12_agree_120 : decode (mC M_X12_agree) 120 = .ok (.isub, 1) := by decide +kernel
theorem d_X12_agree_121 : decode (mC M_X12_agree) 121 = .ok (.ireturn, 1) := by decide +kernel
theorem d_X12_all_0 : decode (mC M_X12_all) 0 = .ok (.aload_n 0, 1) := by decide +kernel
theorem d_X12_all_1 : decode (mC M_X12_all) 1 = .ok (.iload_n 1, 1) := by decide +kernel
theorem d_X12_all_2 : decode (mC M_X12_all) 2 = .ok (.invokevirtual 243, 3) := by decide +kernel
theorem d_X12_all_5 : decode (mC M_X12_all) 5 = .ok (.istore_n 2, 1) := by decide +kernel
theorem d_X12_all_6 : decode (mC M_X12_all) 6 = .ok (.aload_n 0, 1) := by decide +kernel
theorem d_X12_all_7 : decode (mC M_X12_all) 7 = .ok (.getfield 221, 3) := by decide +kernel
theorem d_X12_all_10 : decode (mC M_X12_all) 10 = .ok (.ifCond .ne 39, 3) := by decide +kernel
theorem d_X12_all_13 : decode (mC M_X12_all) 13 = .ok (.aload_n 0, 1) := by decide +kernel
theorem d_X12_all_14 : decode (mC M_X12_all) 14 = .ok (.ldc 246, 2) := by decide +kernel
theorem d_X12_all_16 : decode (mC M_X12_all) 16 = .ok (.invokevirtual 234, 3) := by decide +kernel
theorem d_X12_all_19 : decode (mC M_X12_all) 19 = .ok (.ifCond .eq 30, 3) := by decide +kernel
theorem d_X12_all_22 : decode (mC M_X12_all) 22 = .ok (.aload_n 0, 1) := by decide +kernel
theorem d_X12_all_23 : decode (mC M_X12_all) 23 = .ok (.invokevirtual 208, 3) := by decide +kernel
theorem d_X12_all_26 : decode (mC M_X12_all) 26 = .ok (.aload_n 0, 1) := by decide +kernel
theorem d_X12_all_27 : decode (mC M_X12_all) 27 = .ok (.iload_n 1, 1) := by decide +kernel
theorem d_X12_all_28 : decode (mC M_X12_all) 28 = .ok (.invokevirtual 243, 3) := by decide +kernel
theorem d_X12_all_31 : decode (mC M_X12_all) 31 = .ok (.istore_n 3, 1) := by decide +kernel
theorem d_X12_all_32 : decode (mC M_X12_all) 32 = .ok (.iload_n 2, 1) := by decide +kernel
theorem d_X12_all_33 : decode (mC M_X12_all) 33 = .ok (.ifCond .eq 11, 3) := by decide +kernel
theorem d_X12_all_36 : decode (mC M_X12_all) 36 = .ok (.iload_n 3, 1) := by decide +kernel
theorem d_X12_all_37 : decode (mC M_X12_all) 37 = .ok (.ifCond .eq 7, 3) := by decide +kernel
theorem d_X12_all_40 : decode (mC M_X12_all) 40 = .ok (.iconst 1, 1) := by decide +kernel
theorem d_X12_all_41 : decode (mC M_X12_all) 41 = .ok (.goto 4, 3) := by decide +kernel
theorem d_X12_all_44 : decode (mC M_X12_all) 44 = .ok (.iconst 0, 1) := by decide +kernel
theorem d_X12_all_45 : decode (mC M_X12_all) 45 = .ok (.istore_n 2, 1) := by decide +kernel
theorem d_X12_all_46 : decode (mC M_X12_all) 46 = .ok (.goto (-40), 3) := by decide +kernel
theorem d_X12_all_49 : decode (mC M_X12_all) 49 = .ok (.iload_n 2, 1) := by decide +kernel
theorem d_X12_all_50 : decode (mC M_X12_all) 50 = .ok (.ireturn, 1) := by decide +kernel
theorem d_X12_allCalled_0 : decode (mC M_X12_allCalled) 0 = .ok (.iconst 0, 1) := by decide +kernel
theorem d_X12_allCalled_1 : decode (mC M_X12_allCalled) 1 = .ok (.istore_n 1, 1) := by decide +kernel
theorem d_X12_allCalled_2 : decode (mC M_X12_allCalled) 2 = .ok (.iconst 0, 1) := by decide +kernel
theorem d_X12_allCalled_3 : decode (mC M_X12_allCalled) 3 = .ok (.istore_n 2, 1) := by decide +kernel
theorem d_X12_allCalled_4 : decode (mC M_X12_allCalled) 4 = .ok (.iload_n 2, 1) := by decide +kernel
theorem d_X12_allCalled_5 : decode (mC M_X12_allCalled) 5 = .ok (.aload_n 0, 1) := by decide +kernel
theorem d_X12_allCalled_6 : decode (mC M_X12_allCalled) 6 = .ok (.getfield 151, 3) := by decide +kernel
theorem d_X12_allCalled_9 : decode (mC M_X12_allCalled) 9 = .ok (.if_icmp .ge 22, 3) := by decide +kernel
theorem d_X12_allCalled_12 : decode (mC M_X12_allCalled) 12 = .ok (.aload_n 0, 1) := by decide +kernel
theorem d_X12_allCalled_13 : decode (mC M_X12_allCalled) 13 = .ok (.getfield 39, 3) := by decide +kernel
theorem d_X12_allCalled_16 : decode (mC M_X12_allCalled) 16 = .ok (.iload_n 2, 1) := by decide +kernel
theorem d_X12_allCalled_17 : decode (mC M_X12_allCalled) 17 = .ok (.iaload, 1) := by decide +kernel
theorem d_X12_allCalled_18 : decode (mC M_X12_allCalled) 18 = .ok (.iconst (-1), 1) := by decide +kernel
theorem d_X12_allCalled_19 : decode (mC M_X12_allCalled) 19 = .ok (.if_icmp .eq 6, 3) := by decide +kernel
theorem d_X12_allCalled_22 : decode (mC M_X12_allCalled) 22 = .ok (.iinc 1 1, 3) := by decide +kernel
theorem d_X12_allCalled_25 : decode (mC M_X12_allCalled) 25 = .ok (.iinc 2 1, 3) := by decide +kernel
theorem d_X12_allCalled_28 : decode (mC M_X12_allCalled) 28 = .ok (.goto (-24), 3) := by decide +kernel
theorem d_X12_allCalled_31 : decode (mC M_X12_allCalled) 31 = .ok (.iload_n 1, 1) := by decide +kernel
theorem d_X12_allCalled_32 : decode (mC M_X12_allCalled) 32 = .ok (.ireturn, 1) := by decide +kernel
theorem d_X12_ask_0 : decode (mC M_X12_ask) 0 = .ok (.aload_n 0, 1) := by decide +kernel
theorem d_X12_ask_1 : decode (mC M_X12_ask) 1 = .ok (.iconst 0, 1) := by decide +kernel
theorem d_X12_ask_2 : decode (mC M_X12_ask) 2 = .ok (.putfield 1, 3) := by decide +kernel
theorem d_X12_ask_5 : decode (mC M_X12_ask) 5 = .ok (.aload_n 0, 1) := by decide +kernel
theorem d_X12_ask_6 : decode (mC M_X12_ask) 6 = .ok (.iload_n 1, 1) := by decide +kernel
theorem d_X12_ask_7 : decode (mC M_X12_ask) 7 = .ok (.invokevirtual 311, 3) := by decide +kernel
theorem d_X12_ask_10 : decode (mC M_X12_ask) 10 = .ok (.ifCond .ne 5, 3) := by decide +kernel
theorem d_X12_ask_13 : decode (mC M_X12_ask) 13 = .ok (.iconst (-1), 1) := by decide +kernel
theorem d_X12_ask_14 : decode (mC M_X12_ask) 14 = .ok (.ireturn, 1) := by decide +kernel
theorem d_X12_ask_15 : decode (mC M_X12_ask) 15 = .ok (.iload_n 2, 1) := by decide +kernel
theorem d_X12_ask_16 : decode (mC M_X12_ask) 16 = .ok (.tableswitch 70 0 4 #[36, 43, 50, 57, 64], 36) := by decide +kernel
theorem d_X12_ask_52 : decode (mC M_X12_ask) 52 = .ok (.aload_n 0, 1) := by decide +kernel
theorem d_X12_ask_53 : decode (mC M_X12_ask) 53 = .ok (.getfield 58, 3) := by decide +kernel
theorem d_X12_ask_56 : decode (mC M_X12_ask) 56 = .ok (.iload_n 1, 1) := by decide +kernel
theorem d_X12_ask_57 : decode (mC M_X12_ask) 57 = .ok (.iaload, 1) := by decide +kernel
theorem d_X12_ask_58 : decode (mC M_X12_ask) 58 = .ok (.ireturn, 1) := by decide +kernel
theorem d_X12_ask_59 : decode (mC M_X12_ask) 59 = .ok (.aload_n 0, 1) := by decide +kernel
theorem d_X12_ask_60 : decode (mC M_X12_ask) 60 = .ok (.getfield 61, 3) := by decide +kernel
theorem d_X12_ask_63 : decode (mC M_X12_ask) 63 = .ok (.iload_n 1, 1) := by decide +kernel
theorem d_X12_ask_64 : decode (mC M_X12_ask) 64 = .ok (.iaload, 1) := by decide +kernel
theorem d_X12_ask_65 : decode (mC M_X12_ask) 65 = .ok (.ireturn, 1) := by decide +kernel
theorem d_X12_ask_66 : decode (mC M_X12_ask) 66 = .ok (.aload_n 0, 1) := by decide +kernel
theorem d_X12_ask_67 : decode (mC M_X12_ask) 67 = .ok (.getfield 64, 3) := by decide +kernel
theorem d_X12_ask_70 : decode (mC M_X12_ask) 70 = .ok (.iload_n 1, 1) := by decide +kernel
theorem d_X12_ask_71 : decode (mC M_X12_ask) 71 = .ok (.iaload, 1) := by decide +kernel
theorem d_X12_ask_72 : decode (mC M_X12_ask) 72 = .ok (.ireturn, 1) := by decide +kernel
theorem d_X12_ask_73 : decode (mC M_X12_ask) 73 = .ok (.aload_n 0, 1) := by decide +kernel
theorem d_X12_ask_74 : decode (mC M_X12_ask) 74 = .ok (.getfield 67, 3) := by decide +kernel
theorem d_X12_ask_77 : decode (mC M_X12_ask) 77 = .ok (.iload_n 1, 1) := by decide +kernel
theorem d_X12_ask_78 : decode (mC M_X12_ask) 78 = .ok (.iaload, 1) := by decide +kernel
theorem d_X12_ask_79 : decode (mC M_X12_ask) 79 = .ok (.ireturn, 1) := by decide +kernel
theorem d_X12_ask_80 : decode (mC M_X12_ask) 80 = .ok (.aload_n 0, 1) := by decide +kernel
theorem d_X12_ask_81 : decode (mC M_X12_ask) 81 = .ok (.iload_n 1, 1) := by decide +kernel
theorem d_X12_ask_82 : decode (mC M_X12_ask) 82 = .ok (.invokevirtual 317, 3) := by decide +kernel
theorem d_X12_ask_85 : decode (mC M_X12_ask) 85 = .ok (.ireturn, 1) := by decide +kernel
theorem d_X12_ask_86 : decode (mC M_X12_ask) 86 = .ok (.iconst (-1), 1) := by decide +kernel
theorem d_X12_ask_87 : decode (mC M_X12_ask) 87 = .ok (.ireturn, 1) := by decide +kernel
theorem d_X12_asks_0 : decode (mC M_X12_asks) 0 = .ok (.aload_n 0, 1) := by decide +kernel
theorem d_X12_asks_1 : decode (mC M_X12_asks) 1 = .ok (.iconst 0, 1) := by decide +kernel
theorem d_X12_asks_2 : decode (mC M_X12_asks) 2 = .ok (.putfield 1, 3) := by decide +kernel
theorem d_X12_asks_5 : decode (mC M_X12_asks) 5 = .ok (.aload_n 0, 1) := by decide +kernel
theorem d_X12_asks_6 : decode (mC M_X12_asks) 6 = .ok (.iconst 0, 1) := by decide +kernel
theorem d_X12_asks_7 : decode (mC M_X12_asks) 7 = .ok (.putfield 221, 3) := by decide +kernel
theorem d_X12_asks_10 : decode (mC M_X12_asks) 10 = .ok (.aload_n 0, 1) := by decide +kernel
theorem d_X12_asks_11 : decode (mC M_X12_asks) 11 = .ok (.iconst 1, 1) := by decide +kernel
theorem d_X12_asks_12 : decode (mC M_X12_asks) 12 = .ok (.putfield 263, 3) := by decide +kernel
theorem d_X12_asks_15 : decode (mC M_X12_asks) 15 = .ok (.aload_n 0, 1) := by decide +kernel
theorem d_X12_asks_16 : decode (mC M_X12_asks) 16 = .ok (.iconst 0, 1) := by decide +kernel
theorem d_X12_asks_17 : decode (mC M_X12_asks) 17 = .ok (.putfield 277, 3) := by decide +kernel
theorem d_X12_asks_20 : decode (mC M_X12_asks) 20 = .ok (.aload_n 0, 1) := by decide +kernel
theorem d_X12_asks_21 : decode (mC M_X12_asks) 21 = .ok (.aload_n 0, 1) := by decide +kernel
theorem d_X12_asks_22 : decode (mC M_X12_asks) 22 = .ok (.getfield 48, 3) := by decide +kernel
theorem d_X12_asks_25 : decode (mC M_X12_asks) 25 = .ok (.aload_n 0, 1) := by decide +kernel
theorem d_X12_asks_26 : decode (mC M_X12_asks) 26 = .ok (.getfield 177, 3) := by decide +kernel
theorem d_X12_asks_29 : decode (mC M_X12_asks) 29 = .ok (.iconst 0, 1) := by decide +kernel
theorem d_X12_asks_30 : decode (mC M_X12_asks) 30 = .ok (.invokevirtual 288, 3) := by decide +kernel
theorem d_X12_asks_33 : decode (mC M_X12_asks) 33 = .ok (.aload_n 0, 1) := by decide +kernel
theorem d_X12_asks_34 : decode (mC M_X12_asks) 34 = .ok (.getfield 221, 3) := by decide +kernel
theorem d_X12_asks_37 : decode (mC M_X12_asks) 37 = .ok (.ifCond .ne 17, 3) := by decide +kernel
theorem d_X12_asks_40 : decode (mC M_X12_asks) 40 = .ok (.aload_n 0, 1) := by decide +kernel
theorem d_X12_asks_41 : decode (mC M_X12_asks) 41 = .ok (.getfield 192, 3) := by decide +kernel
theorem d_X12_asks_44 : decode (mC M_X12_asks) 44 = .ok (.ifCond .eq 10, 3) := by decide +kernel
theorem d_X12_asks_47 : decode (mC M_X12_asks) 47 = .ok (.aload_n 0, 1) := by decide +kernel
theorem d_X12_asks_48 : decode (mC M_X12_asks) 48 = .ok (.invokevirtual 292, 3) := by decide +kernel
theorem d_X12_asks_51 : decode (mC M_X12_asks) 51 = .ok (.goto (-18), 3) := by decide +kernel
theorem d_X12_asks_54 : decode (mC M_X12_asks) 54 = .ok (.aload_n 0, 1) := by decide +kernel
theorem d_X12_asks_55 : decode (mC M_X12_asks) 55 = .ok (.getfield 177, 3) := by decide +kernel
theorem d_X12_asks_58 : decode (mC M_X12_asks) 58 = .ok (.istore_n 1, 1) := by decide +kernel
theorem d_X12_asks_59 : decode (mC M_X12_asks) 59 = .ok (.aload_n 0, 1) := by decide +kernel
theorem d_X12_asks_60 : decode (mC M_X12_asks) 60 = .ok (.iconst 0, 1) := by decide +kernel
theorem d_X12_asks_61 : decode (mC M_X12_asks) 61 = .ok (.putfield 177, 3) := by decide +kernel
theorem d_X12_asks_64 : decode (mC M_X12_asks) 64 = .ok (.aload_n 0, 1) := by decide +kernel
theorem d_X12_asks_65 : decode (mC M_X12_asks) 65 = .ok (.aload_n 0, 1) := by decide +kernel
theorem d_X12_asks_66 : decode (mC M_X12_asks) 66 = .ok (.getfield 221, 3) := by decide +kernel
theorem d_X12_asks_69 : decode (mC M_X12_asks) 69 = .ok (.ifCond .ne 7, 3) := by decide +kernel
theorem d_X12_asks_72 : decode (mC M_X12_asks) 72 = .ok (.iconst (-1), 1) := by decide +kernel
theorem d_X12_asks_73 : decode (mC M_X12_asks) 73 = .ok (.goto 7, 3) := by decide +kernel
theorem d_X12_asks_76 : decode (mC M_X12_asks) 76 = .ok (.aload_n 0, 1) := by decide +kernel
theorem d_X12_asks_77 : decode (mC M_X12_asks) 77 = .ok (.getfield 224, 3) := by decide +kernel
theorem d_X12_asks_80 : decode (mC M_X12_asks) 80 = .ok (.putfield 52, 3) := by decide +kernel
theorem d_X12_asks_83 : decode (mC M_X12_asks) 83 = .ok (.aload_n 0, 1) := by decide +kernel
theorem d_X12_asks_84 : decode (mC M_X12_asks) 84 = .ok (.getfield 221, 3) := by decide +kernel
theorem d_X12_asks_87 : decode (mC M_X12_asks) 87 = .ok (.ifCond .eq 11, 3) := by decide +kernel
theorem d_X12_asks_90 : decode (mC M_X12_asks) 90 = .ok (.bipush (-2), 2) := by decide +kernel
theorem d_X12_asks_92 : decode (mC M_X12_asks) 92 = .ok (.aload_n 0, 1) := by decide +kernel
theorem d_X12_asks_93 : decode (mC M_X12_asks) 93 = .ok (.getfield 221, 3) := by decide +kernel
theorem d_X12_asks_96 : decode (mC M_X12_asks) 96 = .ok (.isub, 1) := by decide +kernel
theorem d_X12_asks_97 : decode (mC M_X12_asks) 97 = .ok (.ireturn, 1) := by decide +kernel
theorem d_X12_asks_98 : decode (mC M_X12_asks) 98 = .ok (.iconst 0, 1) := by decide +kernel
theorem d_X12_asks_99 : decode (mC M_X12_asks) 99 = .ok (.istore_n 2, 1) := by decide +kernel
theorem d_X12_asks_100 : decode (mC M_X12_asks) 100 = .ok (.iload_n 2, 1) := by decide +kernel
theorem d_X12_asks_101 : decode (mC M_X12_asks) 101 = .ok (.iload_n 1, 1) := by decide +kernel
theorem d_X12_asks_102 : decode (mC M_X12_asks) 102 = .ok (.if_icmp .ge 21, 3) := by decide +kernel
theorem d_X12_asks_105 : decode (mC M_X12_asks) 105 = .ok (.aload_n 0, 1) := by decide +kernel
theorem d_X12_asks_106 : decode (mC M_X12_asks) 106 = .ok (.getfield 55, 3) := by decide +kernel
theorem d_X12_asks_109 : decode (mC M_X12_asks) 109 = .ok (.iload_n 2, 1) := by decide +kernel
theorem d_X12_asks_110 : decode (mC M_X12_asks) 110 = .ok (.aload_n 0, 1) := by decide +kernel
theorem d_X12_asks_111 : decode (mC M_X12_asks) 111 = .ok (.getfield 48, 3) := by decide +kernel
theorem d_X12_asks_114 : decode (mC M_X12_asks) 114 = .ok (.iload_n 2, 1) := by decide +kernel
theorem d_X12_asks_115 : decode (mC M_X12_asks) 115 = .ok (.baload, 1) := by decide +kernel
theorem d_X12_asks_116 : decode (mC M_X12_asks) 116 = .ok (.bastore, 1) := by decide +kernel
theorem d_X12_asks_117 : decode (mC M_X12_asks) 117 = .ok (.iinc 2 1, 3) := by decide +kernel
theorem d_X12_asks_120 : decode (mC M_X12_asks) 120 = .ok (.goto (-20), 3) := by decide +kernel
theorem d_X12_asks_123 : decode (mC M_X12_asks) 123 = .ok (.aload_n 0, 1) := by decide +kernel
theorem d_X12_asks_124 : decode (mC M_X12_asks) 124 = .ok (.iload_n 1, 1) := by decide +kernel
theorem d_X12_asks_125 : decode (mC M_X12_asks) 125 = .ok (.putfield 295, 3) := by decide +kernel
theorem d_X12_asks_128 : decode (mC M_X12_asks) 128 = .ok (.aload_n 0, 1) := by decide +kernel
theorem d_X12_asks_129 : decode (mC M_X12_asks) 129 = .ok (.aload_n 0, 1) := by decide +kernel
theorem d_X12_asks_130 : decode (mC M_X12_asks) 130 = .ok (.getfield 277, 3) := by decide +kernel
theorem d_X12_asks_133 : decode (mC M_X12_asks) 133 = .ok (.putfield 298, 3) := by decide +kernel
theorem d_X12_asks_136 : decode (mC M_X12_asks) 136 = .ok (.iconst 0, 1) := by decide +kernel
theorem d_X12_asks_137 : decode (mC M_X12_asks) 137 = .ok (.istore_n 2, 1) := by decide +kernel
theorem d_X12_asks_138 : decode (mC M_X12_asks) 138 = .ok (.iload_n 2, 1) := by decide +kernel
theorem d_X12_asks_139 : decode (mC M_X12_asks) 139 = .ok (.aload_n 0, 1) := by decide +kernel
theorem d_X12_asks_140 : decode (mC M_X12_asks) 140 = .ok (.getfield 298, 3) := by decide +kernel
theorem d_X12_asks_143 : decode (mC M_X12_asks) 143 = .ok (.if_icmp .ge 69, 3) := by decide +kernel

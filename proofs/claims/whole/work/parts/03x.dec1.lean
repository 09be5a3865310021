/-! decode rows -/
theorem d_J0_charAt_5068e_0 : decode (mC M_J0_charAt_5068e) 0 = .ok (.aload_n 0, 1) := by decide +kernel
theorem d_J0_charAt_5068e_1 : decode (mC M_J0_charAt_5068e) 1 = .ok (.invokevirtual 492, 3) := by decide +kernel
theorem d_J0_charAt_5068e_4 : decode (mC M_J0_charAt_5068e) 4 = .ok (.ifCond .eq 12, 3) := by decide +kernel
theorem d_J0_charAt_5068e_7 : decode (mC M_J0_charAt_5068e) 7 = .ok (.aload_n 0, 1) := by decide +kernel
theorem d_J0_charAt_5068e_8 : decode (mC M_J0_charAt_5068e) 8 = .ok (.getfield 9, 3) := by decide +kernel
theorem d_J0_charAt_5068e_11 : decode (mC M_J0_charAt_5068e) 11 = .ok (.iload_n 1, 1) := by decide +kernel
theorem d_J0_charAt_5068e_12 : decode (mC M_J0_charAt_5068e) 12 = .ok (.invokestatic 495, 3) := by decide +kernel
theorem d_J0_charAt_5068e_15 : decode (mC M_J0_charAt_5068e) 15 = .ok (.ireturn, 1) := by decide +kernel
theorem d_J0_charAt_5068e_16 : decode (mC M_J0_charAt_5068e) 16 = .ok (.aload_n 0, 1) := by decide +kernel
theorem d_J0_charAt_5068e_17 : decode (mC M_J0_charAt_5068e) 17 = .ok (.getfield 9, 3) := by decide +kernel
theorem d_J0_charAt_5068e_20 : decode (mC M_J0_charAt_5068e) 20 = .ok (.iload_n 1, 1) := by decide +kernel
theorem d_J0_charAt_5068e_21 : decode (mC M_J0_charAt_5068e) 21 = .ok (.invokestatic 498, 3) := by decide +kernel
theorem d_J0_charAt_5068e_24 : decode (mC M_J0_charAt_5068e) 24 = .ok (.ireturn, 1) := by decide +kernel
theorem d_J0_checkIndex_df160_0 : decode (mC M_J0_checkIndex_df160) 0 = .ok (.iload_n 0, 1) := by decide +kernel
theorem d_J0_checkIndex_df160_1 : decode (mC M_J0_checkIndex_df160) 1 = .ok (.iload_n 1, 1) := by decide +kernel
theorem d_J0_checkIndex_df160_2 : decode (mC M_J0_checkIndex_df160) 2 = .ok (.getstatic 1053, 3) := by decide +kernel
theorem d_J0_checkIndex_df160_5 : decode (mC M_J0_checkIndex_df160) 5 = .ok (.invokestatic 1059, 3) := by decide +kernel
theorem d_J0_checkIndex_df160_8 : decode (mC M_J0_checkIndex_df160) 8 = .ok (.pop, 1) := by decide +kernel
theorem d_J0_checkIndex_df160_9 : decode (mC M_J0_checkIndex_df160) 9 = .ok (.return_, 1) := by decide +kernel
theorem d_J0_coder_7d493_0 : decode (mC M_J0_coder_7d493) 0 = .ok (.getstatic 38, 3) := by decide +kernel
theorem d_J0_coder_7d493_3 : decode (mC M_J0_coder_7d493) 3 = .ok (.ifCond .eq 10, 3) := by decide +kernel
theorem d_J0_coder_7d493_6 : decode (mC M_J0_coder_7d493) 6 = .ok (.aload_n 0, 1) := by decide +kernel
theorem d_J0_coder_7d493_7 : decode (mC M_J0_coder_7d493) 7 = .ok (.getfield 15, 3) := by decide +kernel
theorem d_J0_coder_7d493_10 : decode (mC M_J0_coder_7d493) 10 = .ok (.goto 4, 3) := by decide +kernel
theorem d_J0_coder_7d493_13 : decode (mC M_J0_coder_7d493) 13 = .ok (.iconst 1, 1) := by decide +kernel
theorem d_J0_coder_7d493_14 : decode (mC M_J0_coder_7d493) 14 = .ok (.ireturn, 1) := by decide +kernel
theorem d_J0_isLatin1_aae02_0 : decode (mC M_J0_isLatin1_aae02) 0 = .ok (.getstatic 38, 3) := by decide +kernel
theorem d_J0_isLatin1_aae02_3 : decode (mC M_J0_isLatin1_aae02) 3 = .ok (.ifCond .eq 14, 3) := by decide +kernel
theorem d_J0_isLatin1_aae02_6 : decode (mC M_J0_isLatin1_aae02) 6 = .ok (.aload_n 0, 1) := by decide +kernel
theorem d_J0_isLatin1_aae02_7 : decode (mC M_J0_isLatin1_aae02) 7 = .ok (.getfield 15, 3) := by decide +kernel
theorem d_J0_isLatin1_aae02_10 : decode (mC M_J0_isLatin1_aae02) 10 = .ok (.ifCond .ne 7, 3) := by decide +kernel
theorem d_J0_isLatin1_aae02_13 : decode (mC M_J0_isLatin1_aae02) 13 = .ok (.iconst 1, 1) := by decide +kernel
theorem d_J0_isLatin1_aae02_14 : decode (mC M_J0_isLatin1_aae02) 14 = .ok (.goto 4, 3) := by decide +kernel
theorem d_J0_isLatin1_aae02_17 : decode (mC M_J0_isLatin1_aae02) 17 = .ok (.iconst 0, 1) := by decide +kernel
theorem d_J0_isLatin1_aae02_18 : decode (mC M_J0_isLatin1_aae02) 18 = .ok (.ireturn, 1) := by decide +kernel
theorem d_J0_length_8abf5_0 : decode (mC M_J0_length_8abf5) 0 = .ok (.aload_n 0, 1) := by decide +kernel
theorem d_J0_length_8abf5_1 : decode (mC M_J0_length_8abf5) 1 = .ok (.getfield 9, 3) := by decide +kernel
theorem d_J0_length_8abf5_4 : decode (mC M_J0_length_8abf5) 4 = .ok (.arraylength, 1) := by decide +kernel
theorem d_J0_length_8abf5_5 : decode (mC M_J0_length_8abf5) 5 = .ok (.aload_n 0, 1) := by decide +kernel
theorem d_J0_length_8abf5_6 : decode (mC M_J0_length_8abf5) 6 = .ok (.invokevirtual 335, 3) := by decide +kernel
theorem d_J0_length_8abf5_9 : decode (mC M_J0_length_8abf5) 9 = .ok (.ishr, 1) := by decide +kernel
theorem d_J0_length_8abf5_10 : decode (mC M_J0_length_8abf5) 10 = .ok (.ireturn, 1) := by decide +kernel
theorem d_J15_checkIndex_7cf53_0 : decode (mC M_J15_checkIndex_7cf53) 0 = .ok (.iload_n 0, 1) := by decide +kernel
theorem d_J15_checkIndex_7cf53_1 : decode (mC M_J15_checkIndex_7cf53) 1 = .ok (.iload_n 1, 1) := by decide +kernel
theorem d_J15_checkIndex_7cf53_2 : decode (mC M_J15_checkIndex_7cf53) 2 = .ok (.aconst_null, 1) := by decide +kernel
theorem d_J15_checkIndex_7cf53_3 : decode (mC M_J15_checkIndex_7cf53) 3 = .ok (.invokestatic 105, 3) := by decide +kernel
theorem d_J15_checkIndex_7cf53_6 : decode (mC M_J15_checkIndex_7cf53) 6 = .ok (.ireturn, 1) := by decide +kernel
theorem d_J1_charAt_3b067_0 : decode (mC M_J1_charAt_3b067) 0 = .ok (.iload_n 1, 1) := by decide +kernel
theorem d_J1_charAt_3b067_1 : decode (mC M_J1_charAt_3b067) 1 = .ok (.aload_n 0, 1) := by decide +kernel
theorem d_J1_charAt_3b067_2 : decode (mC M_J1_charAt_3b067) 2 = .ok (.arraylength, 1) := by decide +kernel
theorem d_J1_charAt_3b067_3 : decode (mC M_J1_charAt_3b067) 3 = .ok (.invokestatic 9, 3) := by decide +kernel
theorem d_J1_charAt_3b067_6 : decode (mC M_J1_charAt_3b067) 6 = .ok (.aload_n 0, 1) := by decide +kernel
theorem d_J1_charAt_3b067_7 : decode (mC M_J1_charAt_3b067) 7 = .ok (.iload_n 1, 1) := by decide +kernel
theorem d_J1_charAt_3b067_8 : decode (mC M_J1_charAt_3b067) 8 = .ok (.baload, 1) := by decide +kernel
theorem d_J1_charAt_3b067_9 : decode (mC M_J1_charAt_3b067) 9 = .ok (.sipush 255, 3) := by decide +kernel
theorem d_J1_charAt_3b067_12 : decode (mC M_J1_charAt_3b067) 12 = .ok (.iand, 1) := by decide +kernel
theorem d_J1_charAt_3b067_13 : decode (mC M_J1_charAt_3b067) 13 = .ok (.i2c, 1) := by decide +kernel
theorem d_J1_charAt_3b067_14 : decode (mC M_J1_charAt_3b067) 14 = .ok (.ireturn, 1) := by decide +kernel
theorem d_J2_charAt_3b067_0 : decode (mC M_J2_charAt_3b067) 0 = .ok (.iload_n 1, 1) := by decide +kernel
theorem d_J2_charAt_3b067_1 : decode (mC M_J2_charAt_3b067) 1 = .ok (.aload_n 0, 1) := by decide +kernel
theorem d_J2_charAt_3b067_2 : decode (mC M_J2_charAt_3b067) 2 = .ok (.invokestatic 67, 3) := by decide +kernel
theorem d_J2_charAt_3b067_5 : decode (mC M_J2_charAt_3b067) 5 = .ok (.aload_n 0, 1) := by decide +kernel
theorem d_J2_charAt_3b067_6 : decode (mC M_J2_charAt_3b067) 6 = .ok (.iload_n 1, 1) := by decide +kernel
theorem d_J2_charAt_3b067_7 : decode (mC M_J2_charAt_3b067) 7 = .ok (.invokestatic 71, 3) := by decide +kernel
theorem d_J2_charAt_3b067_10 : decode (mC M_J2_charAt_3b067) 10 = .ok (.ireturn, 1) := by decide +kernel
theorem d_J2_checkIndex_2214a_0 : decode (mC M_J2_checkIndex_2214a) 0 = .ok (.iload_n 0, 1) := by decide +kernel
theorem d_J2_checkIndex_2214a_1 : decode (mC M_J2_checkIndex_2214a) 1 = .ok (.aload_n 1, 1) := by decide +kernel
theorem d_J2_checkIndex_2214a_2 : decode (mC M_J2_checkIndex_2214a) 2 = .ok (.invokestatic 48, 3) := by decide +kernel
theorem d_J2_checkIndex_2214a_5 : decode (mC M_J2_checkIndex_2214a) 5 = .ok (.invokestatic 414, 3) := by decide +kernel
theorem d_J2_checkIndex_2214a_8 : decode (mC M_J2_checkIndex_2214a) 8 = .ok (.return_, 1) := by decide +kernel
theorem d_J2_getChar_3b067_0 : decode (mC M_J2_getChar_3b067) 0 = .ok (.getstatic 44, 3) := by decide +kernel
theorem d_J2_getChar_3b067_3 : decode (mC M_J2_getChar_3b067) 3 = .ok (.ifCond .ne 25, 3) := by decide +kernel
theorem d_J2_getChar_3b067_6 : decode (mC M_J2_getChar_3b067) 6 = .ok (.iload_n 1, 1) := by decide +kernel
theorem d_J2_getChar_3b067_7 : decode (mC M_J2_getChar_3b067) 7 = .ok (.ifCond .lt 11, 3) := by decide +kernel
theorem d_J2_getChar_3b067_10 : decode (mC M_J2_getChar_3b067) 10 = .ok (.iload_n 1, 1) := by decide +kernel
theorem d_J2_getChar_3b067_11 : decode (mC M_J2_getChar_3b067) 11 = .ok (.aload_n 0, 1) := by decide +kernel
theorem d_J2_getChar_3b067_12 : decode (mC M_J2_getChar_3b067) 12 = .ok (.invokestatic 48, 3) := by decide +kernel
theorem d_J2_getChar_3b067_15 : decode (mC M_J2_getChar_3b067) 15 = .ok (.if_icmp .lt 13, 3) := by decide +kernel
theorem d_J2_getChar_3b067_18 : decode (mC M_J2_getChar_3b067) 18 = .ok (.new 52, 3) := by decide +kernel
theorem d_J2_getChar_3b067_21 : decode (mC M_J2_getChar_3b067) 21 = .ok (.dup, 1) := by decide +kernel
theorem d_J2_getChar_3b067_22 : decode (mC M_J2_getChar_3b067) 22 = .ok (.ldc 54, 2) := by decide +kernel
theorem d_J2_getChar_3b067_24 : decode (mC M_J2_getChar_3b067) 24 = .ok (.invokespecial 56, 3) := by decide +kernel
theorem d_J2_getChar_3b067_27 : decode (mC M_J2_getChar_3b067) 27 = .ok (.athrow, 1) := by decide +kernel
theorem d_J2_getChar_3b067_28 : decode (mC M_J2_getChar_3b067) 28 = .ok (.iload_n 1, 1) := by decide +kernel
theorem d_J2_getChar_3b067_29 : decode (mC M_J2_getChar_3b067) 29 = .ok (.iconst 1, 1) := by decide +kernel
theorem d_J2_getChar_3b067_30 : decode (mC M_J2_getChar_3b067) 30 = .ok (.ishl, 1) := by decide +kernel
theorem d_J2_getChar_3b067_31 : decode (mC M_J2_getChar_3b067) 31 = .ok (.istore_n 1, 1) := by decide +kernel
theorem d_J2_getChar_3b067_32 : decode (mC M_J2_getChar_3b067) 32 = .ok (.aload_n 0, 1) := by decide +kernel
theorem d_J2_getChar_3b067_33 : decode (mC M_J2_getChar_3b067) 33 = .ok (.iload_n 1, 1) := by decide +kernel
theorem d_J2_getChar_3b067_34 : decode (mC M_J2_getChar_3b067) 34 = .ok (.iinc 1 1, 3) := by decide +kernel
theorem d_J2_getChar_3b067_37 : decode (mC M_J2_getChar_3b067) 37 = .ok (.baload, 1) := by decide +kernel
theorem d_J2_getChar_3b067_38 : decode (mC M_J2_getChar_3b067) 38 = .ok (.sipush 255, 3) := by decide +kernel
theorem d_J2_getChar_3b067_41 : decode (mC M_J2_getChar_3b067) 41 = .ok (.iand, 1) := by decide +kernel
theorem d_J2_getChar_3b067_42 : decode (mC M_J2_getChar_3b067) 42 = .ok (.getstatic 59, 3) := by decide +kernel
theorem d_J2_getChar_3b067_45 : decode (mC M_J2_getChar_3b067) 45 = .ok (.ishl, 1) := by decide +kernel
theorem d_J2_getChar_3b067_46 : decode (mC M_J2_getChar_3b067) 46 = .ok (.aload_n 0, 1) := by decide +kernel
theorem d_J2_getChar_3b067_47 : decode (mC M_J2_getChar_3b067) 47 = .ok (.iload_n 1, 1) := by decide +kernel
theorem d_J2_getChar_3b067_48 : decode (mC M_J2_getChar_3b067) 48 = .ok (.baload, 1) := by decide +kernel
theorem d_J2_getChar_3b067_49 : decode (mC M_J2_getChar_3b067) 49 = .ok (.sipush 255, 3) := by decide +kernel
theorem d_J2_getChar_3b067_52 : decode (mC M_J2_getChar_3b067) 52 = .ok (.iand, 1) := by decide +kernel
theorem d_J2_getChar_3b067_53 : decode (mC M_J2_getChar_3b067) 53 = .ok (.getstatic 63, 3) := by decide +kernel
theorem d_J2_getChar_3b067_56 : decode (mC M_J2_getChar_3b067) 56 = .ok (.ishl, 1) := by decide +kernel
theorem d_J2_getChar_3b067_57 : decode (mC M_J2_getChar_3b067) 57 = .ok (.ior, 1) := by decide +kernel
theorem d_J2_getChar_3b067_58 : decode (mC M_J2_getChar_3b067) 58 = .ok (.i2c, 1) := by decide +kernel
theorem d_J2_getChar_3b067_59 : decode (mC M_J2_getChar_3b067) 59 = .ok (.ireturn, 1) := by decide +kernel
theorem d_J2_length_9d52b_0 : decode (mC M_J2_length_9d52b) 0 = .ok (.aload_n 0, 1) := by decide +kernel
theorem d_J2_length_9d52b_1 : decode (mC M_J2_length_9d52b) 1 = .ok (.arraylength, 1) := by decide +kernel
theorem d_J2_length_9d52b_2 : decode (mC M_J2_length_9d52b) 2 = .ok (.iconst 1, 1) := by decide +kernel
theorem d_J2_length_9d52b_3 : decode (mC M_J2_length_9d52b) 3 = .ok (.ishr, 1) := by decide +kernel
theorem d_J2_length_9d52b_4 : decode (mC M_J2_length_9d52b) 4 = .ok (.ireturn, 1) := by decide +kernel
theorem d_J3_checkIndex_8e157_0 : decode (mC M_J3_checkIndex_8e157) 0 = .ok (.iload_n 0, 1) := by decide +kernel
theorem d_J3_checkIndex_8e157_1 : decode (mC M_J3_checkIndex_8e157) 1 = .ok (.ifCond .lt 8, 3) := by decide +kernel
theorem d_J3_checkIndex_8e157_4 : decode (mC M_J3_checkIndex_8e157) 4 = .ok (.iload_n 0, 1) := by decide +kernel
theorem d_J3_checkIndex_8e157_5 : decode (mC M_J3_checkIndex_8e157) 5 = .ok (.iload_n 1, 1) := by decide +kernel
theorem d_J3_checkIndex_8e157_6 : decode (mC M_J3_checkIndex_8e157) 6 = .ok (.if_icmp .lt 10, 3) := by decide +kernel
theorem d_J3_checkIndex_8e157_9 : decode (mC M_J3_checkIndex_8e157) 9 = .ok (.aload_n 2, 1) := by decide +kernel
theorem d_J3_checkIndex_8e157_10 : decode (mC M_J3_checkIndex_8e157) 10 = .ok (.iload_n 0, 1) := by decide +kernel
theorem d_J3_checkIndex_8e157_11 : decode (mC M_J3_checkIndex_8e157) 11 = .ok (.iload_n 1, 1) := by decide +kernel
theorem d_J3_checkIndex_8e157_12 : decode (mC M_J3_checkIndex_8e157) 12 = .ok (.invokestatic 95, 3) := by decide +kernel
theorem d_J3_checkIndex_8e157_15 : decode (mC M_J3_checkIndex_8e157) 15 = .ok (.athrow, 1) := by decide +kernel
theorem d_J3_checkIndex_8e157_16 : decode (mC M_J3_checkIndex_8e157) 16 = .ok (.iload_n 0, 1) := by decide +kernel
theorem d_J3_checkIndex_8e157_17 : decode (mC M_J3_checkIndex_8e157) 17 = .ok (.ireturn, 1) := by decide +kernel
theorem d_J7_copyOf_1904c_0 : decode (mC M_J7_copyOf_1904c) 0 = .ok (.aload_n 0, 1) := by decide +kernel
theorem d_J7_copyOf_1904c_1 : decode (mC M_J7_copyOf_1904c) 1 = .ok (.iload_n 1, 1) := by decide +kernel
theorem d_J7_copyOf_1904c_2 : decode (mC M_J7_copyOf_1904c) 2 = .ok (.aload_n 0, 1) := by decide +kernel
theorem d_J7_copyOf_1904c_3 : decode (mC M_J7_copyOf_1904c) 3 = .ok (.invokevirtual 86, 3) := by decide +kernel
theorem d_J7_copyOf_1904c_6 : decode (mC M_J7_copyOf_1904c) 6 = .ok (.invokestatic 300, 3) := by decide +kernel
theorem d_J7_copyOf_1904c_9 : decode (mC M_J7_copyOf_1904c) 9 = .ok (.areturn, 1) := by decide +kernel
theorem d_J7_copyOf_6403c_0 : decode (mC M_J7_copyOf_6403c) 0 = .ok (.aload_n 2, 1) := by decide +kernel
theorem d_J7_copyOf_6403c_1 : decode (mC M_J7_copyOf_6403c) 1 = .ok (.ldc 110, 2) := by decide +kernel
theorem d_J7_copyOf_6403c_3 : decode (mC M_J7_copyOf_6403c) 3 = .ok (.if_acmp .ne 10, 3) := by decide +kernel
theorem d_J7_copyOf_6403c_6 : decode (mC M_J7_copyOf_6403c) 6 = .ok (.iload_n 1, 1) := by decide +kernel
theorem d_J7_copyOf_6403c_7 : decode (mC M_J7_copyOf_6403c) 7 = .ok (.anewarray 2, 3) := by decide +kernel
theorem d_J7_copyOf_6403c_10 : decode (mC M_J7_copyOf_6403c) 10 = .ok (.goto 14, 3) := by decide +kernel
theorem d_J7_copyOf_6403c_13 : decode (mC M_J7_copyOf_6403c) 13 = .ok (.aload_n 2, 1) := by decide +kernel
theorem d_J7_copyOf_6403c_14 : decode (mC M_J7_copyOf_6403c) 14 = .ok (.invokevirtual 90, 3) := by decide +kernel
theorem d_J7_copyOf_6403c_17 : decode (mC M_J7_copyOf_6403c) 17 = .ok (.iload_n 1, 1) := by decide +kernel
theorem d_J7_copyOf_6403c_18 : decode (mC M_J7_copyOf_6403c) 18 = .ok (.invokestatic 95, 3) := by decide +kernel
theorem d_J7_copyOf_6403c_21 : decode (mC M_J7_copyOf_6403c) 21 = .ok (.checkcast 110, 3) := by decide +kernel
theorem d_J7_copyOf_6403c_24 : decode (mC M_J7_copyOf_6403c) 24 = .ok (.astore_n 3, 1) := by decide +kernel
theorem d_J7_copyOf_6403c_25 : decode (mC M_J7_copyOf_6403c) 25 = .ok (.aload_n 0, 1) := by decide +kernel
theorem d_J7_copyOf_6403c_26 : decode (mC M_J7_copyOf_6403c) 26 = .ok (.iconst 0, 1) := by decide +kernel
theorem d_J7_copyOf_6403c_27 : decode (mC M_J7_copyOf_6403c) 27 = .ok (.aload_n 3, 1) := by decide +kernel
theorem d_J7_copyOf_6403c_28 : decode (mC M_J7_copyOf_6403c) 28 = .ok (.iconst 0, 1) := by decide +kernel
theorem d_J7_copyOf_6403c_29 : decode (mC M_J7_copyOf_6403c) 29 = .ok (.aload_n 0, 1) := by decide +kernel
theorem d_J7_copyOf_6403c_30 : decode (mC M_J7_copyOf_6403c) 30 = .ok (.arraylength, 1) := by decide +kernel
theorem d_J7_copyOf_6403c_31 : decode (mC M_J7_copyOf_6403c) 31 = .ok (.iload_n 1, 1) := by decide +kernel
theorem d_J7_copyOf_6403c_32 : decode (mC M_J7_copyOf_6403c) 32 = .ok (.invokestatic 304, 3) := by decide +kernel
theorem d_J7_copyOf_6403c_35 : decode (mC M_J7_copyOf_6403c) 35 = .ok (.invokestatic 150, 3) := by decide +kernel
theorem d_J7_copyOf_6403c_38 : decode (mC M_J7_copyOf_6403c) 38 = .ok (.aload_n 3, 1) := by decide +kernel
theorem d_J7_copyOf_6403c_39 : decode (mC M_J7_copyOf_6403c) 39 = .ok (.areturn, 1) := by decide +kernel
theorem d_J8_hugeLength_7cf53_0 : decode (mC M_J8_hugeLength_7cf53) 0 = .ok (.iload_n 0, 1) := by decide +kernel
theorem d_J8_hugeLength_7cf53_1 : decode (mC M_J8_hugeLength_7cf53) 1 = .ok (.iload_n 1, 1) := by decide +kernel
theorem d_J8_hugeLength_7cf53_2 : decode (mC M_J8_hugeLength_7cf53) 2 = .ok (.iadd, 1) := by decide +kernel
theorem d_J8_hugeLength_7cf53_3 : decode (mC M_J8_hugeLength_7cf53) 3 = .ok (.istore_n 2, 1) := by decide +kernel
theorem d_J8_hugeLength_7cf53_4 : decode (mC M_J8_hugeLength_7cf53) 4 = .ok (.iload_n 2, 1) := by decide +kernel
theorem d_J8_hugeLength_7cf53_5 : decode (mC M_J8_hugeLength_7cf53) 5 = .ok (.ifCond .ge 44, 3) := by decide +kernel
theorem d_J8_hugeLength_7cf53_8 : decode (mC M_J8_hugeLength_7cf53) 8 = .ok (.new 204, 3) := by decide +kernel
theorem d_J8_hugeLength_7cf53_11 : decode (mC M_J8_hugeLength_7cf53) 11 = .ok (.dup, 1) := by decide +kernel
theorem d_J8_hugeLength_7cf53_12 : decode (mC M_J8_hugeLength_7cf53) 12 = .ok (.new 89, 3) := by decide +kernel
theorem d_J8_hugeLength_7cf53_15 : decode (mC M_J8_hugeLength_7cf53) 15 = .ok (.dup, 1) := by decide +kernel
theorem d_J8_hugeLength_7cf53_16 : decode (mC M_J8_hugeLength_7cf53) 16 = .ok (.invokespecial 91, 3) := by decide +kernel
theorem d_J8_hugeLength_7cf53_19 : decode (mC M_J8_hugeLength_7cf53) 19 = .ok (.ldc 206, 2) := by decide +kernel
theorem d_J8_hugeLength_7cf53_21 : decode (mC M_J8_hugeLength_7cf53) 21 = .ok (.invokevirtual 94, 3) := by decide +kernel
theorem d_J8_hugeLength_7cf53_24 : decode (mC M_J8_hugeLength_7cf53) 24 = .ok (.iload_n 0, 1) := by decide +kernel
theorem d_J8_hugeLength_7cf53_25 : decode (mC M_J8_hugeLength_7cf53) 25 = .ok (.invokevirtual 98, 3) := by decide +kernel
theorem d_J8_hugeLength_7cf53_28 : decode (mC M_J8_hugeLength_7cf53) 28 = .ok (.ldc 208, 2) := by decide +kernel
theorem d_J8_hugeLength_7cf53_30 : decode (mC M_J8_hugeLength_7cf53) 30 = .ok (.invokevirtual 94, 3) := by decide +kernel
theorem d_J8_hugeLength_7cf53_33 : decode (mC M_J8_hugeLength_7cf53) 33 = .ok (.iload_n 1, 1) := by decide +kernel
theorem d_J8_hugeLength_7cf53_34 : decode (mC M_J8_hugeLength_7cf53) 34 = .ok (.invokevirtual 98, 3) := by decide +kernel
theorem d_J8_hugeLength_7cf53_37 : decode (mC M_J8_hugeLength_7cf53) 37 = .ok (.ldc 210, 2) := by decide +kernel
theorem d_J8_hugeLength_7cf53_39 : decode (mC M_J8_hugeLength_7cf53) 39 = .ok (.invokevirtual 94, 3) := by decide +kernel
theorem d_J8_hugeLength_7cf53_42 : decode (mC M_J8_hugeLength_7cf53) 42 = .ok (.invokevirtual 101, 3) := by decide +kernel
theorem d_J8_hugeLength_7cf53_45 : decode (mC M_J8_hugeLength_7cf53) 45 = .ok (.invokespecial 212, 3) := by decide +kernel
theorem d_J8_hugeLength_7cf53_48 : decode (mC M_J8_hugeLength_7cf53) 48 = .ok (.athrow, 1) := by decide +kernel
theorem d_J8_hugeLength_7cf53_49 : decode (mC M_J8_hugeLength_7cf53) 49 = .ok (.iload_n 2, 1) := by decide +kernel
theorem d_J8_hugeLength_7cf53_50 : decode (mC M_J8_hugeLength_7cf53) 50 = .ok (.ldc 200, 2) := by decide +kernel
theorem d_J8_hugeLength_7cf53_52 : decode (mC M_J8_hugeLength_7cf53) 52 = .ok (.if_icmp .gt 6, 3) := by decide +kernel
theorem d_J8_hugeLength_7cf53_55 : decode (mC M_J8_hugeLength_7cf53) 55 = .ok (.ldc 200, 2) := by decide +kernel
theorem d_J8_hugeLength_7cf53_57 : decode (mC M_J8_hugeLength_7cf53) 57 = .ok (.ireturn, 1) := by decide +kernel
theorem d_J8_hugeLength_7cf53_58 : decode (mC M_J8_hugeLength_7cf53) 58 = .ok (.iload_n 2, 1) := by decide +kernel
theorem d_J8_hugeLength_7cf53_59 : decode (mC M_J8_hugeLength_7cf53) 59 = .ok (.ireturn, 1) := by decide +kernel
theorem d_J8_newLength_cabcc_0 : decode (mC M_J8_newLength_cabcc) 0 = .ok (.iload_n 0, 1) := by decide +kernel
theorem d_J8_newLength_cabcc_1 : decode (mC M_J8_newLength_cabcc) 1 = .ok (.iload_n 1, 1) := by decide +kernel
theorem d_J8_newLength_cabcc_2 : decode (mC M_J8_newLength_cabcc) 2 = .ok (.iload_n 2, 1) := by decide +kernel
theorem d_J8_newLength_cabcc_3 : decode (mC M_J8_newLength_cabcc) 3 = .ok (.invokestatic 194, 3) := by decide +kernel
theorem d_J8_newLength_cabcc_6 : decode (mC M_J8_newLength_cabcc) 6 = .ok (.iadd, 1) := by decide +kernel
theorem d_J8_newLength_cabcc_7 : decode (mC M_J8_newLength_cabcc) 7 = .ok (.istore_n 3, 1) := by decide +kernel
theorem d_J8_newLength_cabcc_8 : decode (mC M_J8_newLength_cabcc) 8 = .ok (.iconst 0, 1) := by decide +kernel
theorem d_J8_newLength_cabcc_9 : decode (mC M_J8_newLength_cabcc) 9 = .ok (.iload_n 3, 1) := by decide +kernel
theorem d_J8_newLength_cabcc_10 : decode (mC M_J8_newLength_cabcc) 10 = .ok (.if_icmp .ge 11, 3) := by decide +kernel
theorem d_J8_newLength_cabcc_13 : decode (mC M_J8_newLength_cabcc) 13 = .ok (.iload_n 3, 1) := by decide +kernel
theorem d_J8_newLength_cabcc_14 : decode (mC M_J8_newLength_cabcc) 14 = .ok (.ldc 200, 2) := by decide +kernel
theorem d_J8_newLength_cabcc_16 : decode (mC M_J8_newLength_cabcc) 16 = .ok (.if_icmp .gt 5, 3) := by decide +kernel
theorem d_J8_newLength_cabcc_19 : decode (mC M_J8_newLength_cabcc) 19 = .ok (.iload_n 3, 1) := by decide +kernel
theorem d_J8_newLength_cabcc_20 : decode (mC M_J8_newLength_cabcc) 20 = .ok (.ireturn, 1) := by decide +kernel
theorem d_J8_newLength_cabcc_21 : decode (mC M_J8_newLength_cabcc) 21 = .ok (.iload_n 0, 1) := by decide +kernel
theorem d_J8_newLength_cabcc_22 : decode (mC M_J8_newLength_cabcc) 22 = .ok (.iload_n 1, 1) := by decide +kernel
theorem d_J8_newLength_cabcc_23 : decode (mC M_J8_newLength_cabcc) 23 = .ok (.invokestatic 201, 3) := by decide +kernel
theorem d_J8_newLength_cabcc_26 : decode (mC M_J8_newLength_cabcc) 26 = .ok (.ireturn, 1) := by decide +kernel
theorem d_J9_max_7cf53_0 : decode (mC M_J9_max_7cf53) 0 = .ok (.iload_n 0, 1) := by decide +kernel
theorem d_J9_max_7cf53_1 : decode (mC M_J9_max_7cf53) 1 = .ok (.iload_n 1, 1) := by decide +kernel
theorem d_J9_max_7cf53_2 : decode (mC M_J9_max_7cf53) 2 = .ok (.if_icmp .lt 7, 3) := by decide +kernel
theorem d_J9_max_7cf53_5 : decode (mC M_J9_max_7cf53) 5 = .ok (.iload_n 0, 1) := by decide +kernel
theorem d_J9_max_7cf53_6 : decode (mC M_J9_max_7cf53) 6 = .ok (.goto 4, 3) := by decide +kernel
theorem d_J9_max_7cf53_9 : decode (mC M_J9_max_7cf53) 9 = .ok (.iload_n 1, 1) := by decide +kernel
theorem d_J9_max_7cf53_10 : decode (mC M_J9_max_7cf53) 10 = .ok (.ireturn, 1) := by decide +kernel
theorem d_J9_min_7cf53_0 : decode (mC M_J9_min_7cf53) 0 = .ok (.iload_n 0, 1) := by decide +kernel
theorem d_J9_min_7cf53_1 : decode (mC M_J9_min_7cf53) 1 = .ok (.iload_n 1, 1) := by decide +kernel
theorem d_J9_min_7cf53_2 : decode (mC M_J9_min_7cf53) 2 = .ok (.if_icmp .gt 7, 3) := by decide +kernel
theorem d_J9_min_7cf53_5 : decode (mC M_J9_min_7cf53) 5 = .ok (.iload_n 0, 1) := by decide +kernel
theorem d_J9_min_7cf53_6 : decode (mC M_J9_min_7cf53) 6 = .ok (.goto 4, 3) := by decide +kernel
theorem d_J9_min_7cf53_9 : decode (mC M_J9_min_7cf53) 9 = .ok (.iload_n 1, 1) := by decide +kernel
theorem d_J9_min_7cf53_10 : decode (mC M_J9_min_7cf53) 10 = .ok (.ireturn, 1) := by decide +kernel
theorem d_Jx4a65c_add_72be8_0 : decode (mC M_Jx4a65c_add_72be8) 0 = .ok (.iload_n 3, 1) := by decide +kernel
theorem d_Jx4a65c_add_72be8_1 : decode (mC M_Jx4a65c_add_72be8) 1 = .ok (.aload_n 2, 1) := by decide +kernel
theorem d_Jx4a65c_add_72be8_2 : decode (mC M_Jx4a65c_add_72be8) 2 = .ok (.arraylength, 1) := by decide +kernel
theorem d_Jx4a65c_add_72be8_3 : decode (mC M_Jx4a65c_add_72be8) 3 = .ok (.if_icmp .ne 8, 3) := by decide +kernel
theorem d_Jx4a65c_add_72be8_6 : decode (mC M_Jx4a65c_add_72be8) 6 = .ok (.aload_n 0, 1) := by decide +kernel
theorem d_Jx4a65c_add_72be8_7 : decode (mC M_Jx4a65c_add_72be8) 7 = .ok (.invokevirtual 129, 3) := by decide +kernel
theorem d_Jx4a65c_add_72be8_10 : decode (mC M_Jx4a65c_add_72be8) 10 = .ok (.astore_n 2, 1) := by decide +kernel
theorem d_Jx4a65c_add_72be8_11 : decode (mC M_Jx4a65c_add_72be8) 11 = .ok (.aload_n 2, 1) := by decide +kernel
theorem d_Jx4a65c_add_72be8_12 : decode (mC M_Jx4a65c_add_72be8) 12 = .ok (.iload_n 3, 1) := by decide +kernel
theorem d_Jx4a65c_add_72be8_13 : decode (mC M_Jx4a65c_add_72be8) 13 = .ok (.aload_n 1, 1) := by decide +kernel
theorem d_Jx4a65c_add_72be8_14 : decode (mC M_Jx4a65c_add_72be8) 14 = .ok (.aastore, 1) := by decide +kernel
theorem d_Jx4a65c_add_72be8_15 : decode (mC M_Jx4a65c_add_72be8) 15 = .ok (.aload_n 0, 1) := by decide +kernel
theorem d_Jx4a65c_add_72be8_16 : decode (mC M_Jx4a65c_add_72be8) 16 = .ok (.iload_n 3, 1) := by decide +kernel
theorem d_Jx4a65c_add_72be8_17 : decode (mC M_Jx4a65c_add_72be8) 17 = .ok (.iconst 1, 1) := by decide +kernel
theorem d_Jx4a65c_add_72be8_18 : decode (mC M_Jx4a65c_add_72be8) 18 = .ok (.iadd, 1) := by decide +kernel
theorem d_Jx4a65c_add_72be8_19 : decode (mC M_Jx4a65c_add_72be8) 19 = .ok (.putfield 48, 3) := by decide +kernel
theorem d_Jx4a65c_add_72be8_22 : decode (mC M_Jx4a65c_add_72be8) 22 = .ok (.return_, 1) := by decide +kernel
theorem d_Jx4a65c_add_7a177_0 : decode (mC M_Jx4a65c_add_7a177) 0 = .ok (.aload_n 0, 1) := by decide +kernel
theorem d_Jx4a65c_add_7a177_1 : decode (mC M_Jx4a65c_add_7a177) 1 = .ok (.iload_n 1, 1) := by decide +kernel
theorem d_Jx4a65c_add_7a177_2 : decode (mC M_Jx4a65c_add_7a177) 2 = .ok (.invokevirtual 135, 3) := by decide +kernel
theorem d_Jx4a65c_add_7a177_5 : decode (mC M_Jx4a65c_add_7a177) 5 = .ok (.aload_n 0, 1) := by decide +kernel
theorem d_Jx4a65c_add_7a177_6 : decode (mC M_Jx4a65c_add_7a177) 6 = .ok (.dup, 1) := by decide +kernel
theorem d_Jx4a65c_add_7a177_7 : decode (mC M_Jx4a65c_add_7a177) 7 = .ok (.getfield 63, 3) := by decide +kernel
theorem d_Jx4a65c_add_7a177_10 : decode (mC M_Jx4a65c_add_7a177) 10 = .ok (.iconst 1, 1) := by decide +kernel
theorem d_Jx4a65c_add_7a177_11 : decode (mC M_Jx4a65c_add_7a177) 11 = .ok (.iadd, 1) := by decide +kernel
theorem d_Jx4a65c_add_7a177_12 : decode (mC M_Jx4a65c_add_7a177) 12 = .ok (.putfield 63, 3) := by decide +kernel
theorem d_Jx4a65c_add_7a177_15 : decode (mC M_Jx4a65c_add_7a177) 15 = .ok (.aload_n 0, 1) := by decide +kernel
theorem d_Jx4a65c_add_7a177_16 : decode (mC M_Jx4a65c_add_7a177) 16 = .ok (.getfield 48, 3) := by decide +kernel
theorem d_Jx4a65c_add_7a177_19 : decode (mC M_Jx4a65c_add_7a177) 19 = .ok (.dup, 1) := by decide +kernel
theorem d_Jx4a65c_add_7a177_20 : decode (mC M_Jx4a65c_add_7a177) 20 = .ok (.istore_n 3, 1) := by decide +kernel
theorem d_Jx4a65c_add_7a177_21 : decode (mC M_Jx4a65c_add_7a177) 21 = .ok (.aload_n 0, 1) := by decide +kernel
theorem d_Jx4a65c_add_7a177_22 : decode (mC M_Jx4a65c_add_7a177) 22 = .ok (.getfield 9, 3) := by decide +kernel
theorem d_Jx4a65c_add_7a177_25 : decode (mC M_Jx4a65c_add_7a177) 25 = .ok (.dup, 1) := by decide +kernel
theorem d_Jx4a65c_add_7a177_26 : decode (mC M_Jx4a65c_add_7a177) 26 = .ok (.astore 4, 2) := by decide +kernel
theorem d_Jx4a65c_add_7a177_28 : decode (mC M_Jx4a65c_add_7a177) 28 = .ok (.arraylength, 1) := by decide +kernel
theorem d_Jx4a65c_add_7a177_29 : decode (mC M_Jx4a65c_add_7a177) 29 = .ok (.if_icmp .ne 9, 3) := by decide +kernel
theorem d_Jx4a65c_add_7a177_32 : decode (mC M_Jx4a65c_add_7a177) 32 = .ok (.aload_n 0, 1) := by decide +kernel
theorem d_Jx4a65c_add_7a177_33 : decode (mC M_Jx4a65c_add_7a177) 33 = .ok (.invokevirtual 129, 3) := by decide +kernel
theorem d_Jx4a65c_add_7a177_36 : decode (mC M_Jx4a65c_add_7a177) 36 = .ok (.astore 4, 2) := by decide +kernel
theorem d_Jx4a65c_add_7a177_38 : decode (mC M_Jx4a65c_add_7a177) 38 = .ok (.aload 4, 2) := by decide +kernel
theorem d_Jx4a65c_add_7a177_40 : decode (mC M_Jx4a65c_add_7a177) 40 = .ok (.iload_n 1, 1) := by decide +kernel
theorem d_Jx4a65c_add_7a177_41 : decode (mC M_Jx4a65c_add_7a177) 41 = .ok (.aload 4, 2) := by decide +kernel
theorem d_Jx4a65c_add_7a177_43 : decode (mC M_Jx4a65c_add_7a177) 43 = .ok (.iload_n 1, 1) := by decide +kernel
theorem d_Jx4a65c_add_7a177_44 : decode (mC M_Jx4a65c_add_7a177) 44 = .ok (.iconst 1, 1) := by decide +kernel
theorem d_Jx4a65c_add_7a177_45 : decode (mC M_Jx4a65c_add_7a177) 45 = .ok (.iadd, 1) := by decide +kernel
theorem d_Jx4a65c_add_7a177_46 : decode (mC M_Jx4a65c_add_7a177) 46 = .ok (.iload_n 3, 1) := by decide +kernel
theorem d_Jx4a65c_add_7a177_47 : decode (mC M_Jx4a65c_add_7a177) 47 = .ok (.iload_n 1, 1) := by decide +kernel
theorem d_Jx4a65c_add_7a177_48 : decode (mC M_Jx4a65c_add_7a177) 48 = .ok (.isub, 1) := by decide +kernel
theorem d_Jx4a65c_add_7a177_49 : decode (mC M_Jx4a65c_add_7a177) 49 = .ok (.invokestatic 112, 3) := by decide +kernel
theorem d_Jx4a65c_add_7a177_52 : decode (mC M_Jx4a65c_add_7a177) 52 = .ok (.aload 4, 2) := by decide +kernel
theorem d_Jx4a65c_add_7a177_54 : decode (mC M_Jx4a65c_add_7a177) 54 = .ok (.iload_n 1, 1) := by decide +kernel
theorem d_Jx4a65c_add_7a177_55 : decode (mC M_Jx4a65c_add_7a177) 55 = .ok (.aload_n 2, 1) := by decide +kernel
theorem d_Jx4a65c_add_7a177_56 : decode (mC M_Jx4a65c_add_7a177) 56 = .ok (.aastore, 1) := by decide +kernel
theorem d_Jx4a65c_add_7a177_57 : decode (mC M_Jx4a65c_add_7a177) 57 = .ok (.aload_n 0, 1) := by decide +kernel
theorem d_Jx4a65c_add_7a177_58 : decode (mC M_Jx4a65c_add_7a177) 58 = .ok (.iload_n 3, 1) := by decide +kernel
theorem d_Jx4a65c_add_7a177_59 : decode (mC M_Jx4a65c_add_7a177) 59 = .ok (.iconst 1, 1) := by decide +kernel
theorem d_Jx4a65c_add_7a177_60 : decode (mC M_Jx4a65c_add_7a177) 60 = .ok (.iadd, 1) := by decide +kernel
theorem d_Jx4a65c_add_7a177_61 : decode (mC M_Jx4a65c_add_7a177) 61 = .ok (.putfield 48, 3) := by decide +kernel
theorem d_Jx4a65c_add_7a177_64 : decode (mC M_Jx4a65c_add_7a177) 64 = .ok (.return_, 1) := by decide +kernel
theorem d_Jx4a65c_add_9ea2d_0 : decode (mC M_Jx4a65c_add_9ea2d) 0 = .ok (.aload_n 0, 1) := by decide +kernel
theorem d_Jx4a65c_add_9ea2d_1 : decode (mC M_Jx4a65c_add_9ea2d) 1 = .ok (.dup, 1) := by decide +kernel
theorem d_Jx4a65c_add_9ea2d_2 : decode (mC M_Jx4a65c_add_9ea2d) 2 = .ok (.getfield 63, 3) := by decide +kernel
theorem d_Jx4a65c_add_9ea2d_5 : decode (mC M_Jx4a65c_add_9ea2d) 5 = .ok (.iconst 1, 1) := by decide +kernel
theorem d_Jx4a65c_add_9ea2d_6 : decode (mC M_Jx4a65c_add_9ea2d) 6 = .ok (.iadd, 1) := by decide +kernel
theorem d_Jx4a65c_add_9ea2d_7 : decode (mC M_Jx4a65c_add_9ea2d) 7 = .ok (.putfield 63, 3) := by decide +kernel
theorem d_Jx4a65c_add_9ea2d_10 : decode (mC M_Jx4a65c_add_9ea2d) 10 = .ok (.aload_n 0, 1) := by decide +kernel
theorem d_Jx4a65c_add_9ea2d_11 : decode (mC M_Jx4a65c_add_9ea2d) 11 = .ok (.aload_n 1, 1) := by decide +kernel
theorem d_Jx4a65c_add_9ea2d_12 : decode (mC M_Jx4a65c_add_9ea2d) 12 = .ok (.aload_n 0, 1) := by decide +kernel
theorem d_Jx4a65c_add_9ea2d_13 : decode (mC M_Jx4a65c_add_9ea2d) 13 = .ok (.getfield 9, 3) := by decide +kernel
theorem d_Jx4a65c_add_9ea2d_16 : decode (mC M_Jx4a65c_add_9ea2d) 16 = .ok (.aload_n 0, 1) := by decide +kernel
theorem d_Jx4a65c_add_9ea2d_17 : decode (mC M_Jx4a65c_add_9ea2d) 17 = .ok (.getfield 48, 3) := by decide +kernel
theorem d_Jx4a65c_add_9ea2d_20 : decode (mC M_Jx4a65c_add_9ea2d) 20 = .ok (.invokevirtual 131, 3) := by decide +kernel
theorem d_Jx4a65c_add_9ea2d_23 : decode (mC M_Jx4a65c_add_9ea2d) 23 = .ok (.iconst 1, 1) := by decide +kernel
theorem d_Jx4a65c_add_9ea2d_24 : decode (mC M_Jx4a65c_add_9ea2d) 24 = .ok (.ireturn, 1) := by decide +kernel
theorem d_Jx4a65c_clear_da8c8_0 : decode (mC M_Jx4a65c_clear_da8c8) 0 = .ok (.aload_n 0, 1) := by decide +kernel
theorem d_Jx4a65c_clear_da8c8_1 : decode (mC M_Jx4a65c_clear_da8c8) 1 = .ok (.dup, 1) := by decide +kernel
theorem d_Jx4a65c_clear_da8c8_2 : decode (mC M_Jx4a65c_clear_da8c8) 2 = .ok (.getfield 63, 3) := by decide +kernel
theorem d_Jx4a65c_clear_da8c8_5 : decode (mC M_Jx4a65c_clear_da8c8) 5 = .ok (.iconst 1, 1) := by decide +kernel
theorem d_Jx4a65c_clear_da8c8_6 : decode (mC M_Jx4a65c_clear_da8c8) 6 = .ok (.iadd, 1) := by decide +kernel
theorem d_Jx4a65c_clear_da8c8_7 : decode (mC M_Jx4a65c_clear_da8c8) 7 = .ok (.putfield 63, 3) := by decide +kernel
theorem d_Jx4a65c_clear_da8c8_10 : decode (mC M_Jx4a65c_clear_da8c8) 10 = .ok (.aload_n 0, 1) := by decide +kernel
theorem d_Jx4a65c_clear_da8c8_11 : decode (mC M_Jx4a65c_clear_da8c8) 11 = .ok (.getfield 9, 3) := by decide +kernel
theorem d_Jx4a65c_clear_da8c8_14 : decode (mC M_Jx4a65c_clear_da8c8) 14 = .ok (.astore_n 1, 1) := by decide +kernel
theorem d_Jx4a65c_clear_da8c8_15 : decode (mC M_Jx4a65c_clear_da8c8) 15 = .ok (.aload_n 0, 1) := by decide +kernel
theorem d_Jx4a65c_clear_da8c8_16 : decode (mC M_Jx4a65c_clear_da8c8) 16 = .ok (.getfield 48, 3) := by decide +kernel
theorem d_Jx4a65c_clear_da8c8_19 : decode (mC M_Jx4a65c_clear_da8c8) 19 = .ok (.istore_n 2, 1) := by decide +kernel
theorem d_Jx4a65c_clear_da8c8_20 : decode (mC M_Jx4a65c_clear_da8c8) 20 = .ok (.aload_n 0, 1) := by decide +kernel
theorem d_Jx4a65c_clear_da8c8_21 : decode (mC M_Jx4a65c_clear_da8c8) 21 = .ok (.iconst 0, 1) := by decide +kernel
theorem d_Jx4a65c_clear_da8c8_22 : decode (mC M_Jx4a65c_clear_da8c8) 22 = .ok (.dup_x1, 1) := by decide +kernel
theorem d_Jx4a65c_clear_da8c8_23 : decode (mC M_Jx4a65c_clear_da8c8) 23 = .ok (.putfield 48, 3) := by decide +kernel
theorem d_Jx4a65c_clear_da8c8_26 : decode (mC M_Jx4a65c_clear_da8c8) 26 = .ok (.istore_n 3, 1) := by decide +kernel
theorem d_Jx4a65c_clear_da8c8_27 : decode (mC M_Jx4a65c_clear_da8c8) 27 = .ok (.iload_n 3, 1) := by decide +kernel
theorem d_Jx4a65c_clear_da8c8_28 : decode (mC M_Jx4a65c_clear_da8c8) 28 = .ok (.iload_n 2, 1) := by decide +kernel
theorem d_Jx4a65c_clear_da8c8_29 : decode (mC M_Jx4a65c_clear_da8c8) 29 = .ok (.if_icmp .ge 13, 3) := by decide +kernel
theorem d_Jx4a65c_clear_da8c8_32 : decode (mC M_Jx4a65c_clear_da8c8) 32 = .ok (.aload_n 1, 1) := by decide +kernel
theorem d_Jx4a65c_clear_da8c8_33 : decode (mC M_Jx4a65c_clear_da8c8) 33 = .ok (.iload_n 3, 1) := by decide +kernel
theorem d_Jx4a65c_clear_da8c8_34 : decode (mC M_Jx4a65c_clear_da8c8) 34 = .ok (.aconst_null, 1) := by decide +kernel
theorem d_Jx4a65c_clear_da8c8_35 : decode (mC M_Jx4a65c_clear_da8c8) 35 = .ok (.aastore, 1) := by decide +kernel
theorem d_Jx4a65c_clear_da8c8_36 : decode (mC M_Jx4a65c_clear_da8c8) 36 = .ok (.iinc 3 1, 3) := by decide +kernel
theorem d_Jx4a65c_clear_da8c8_39 : decode (mC M_Jx4a65c_clear_da8c8) 39 = .ok (.goto (-12), 3) := by decide +kernel
theorem d_Jx4a65c_clear_da8c8_42 : decode (mC M_Jx4a65c_clear_da8c8) 42 = .ok (.return_, 1) := by decide +kernel
theorem d_Jx4a65c_elementData_915e3_0 : decode (mC M_Jx4a65c_elementData_915e3) 0 = .ok (.aload_n 0, 1) := by decide +kernel
theorem d_Jx4a65c_elementData_915e3_1 : decode (mC M_Jx4a65c_elementData_915e3) 1 = .ok (.getfield 9, 3) := by decide +kernel
theorem d_Jx4a65c_elementData_915e3_4 : decode (mC M_Jx4a65c_elementData_915e3) 4 = .ok (.iload_n 1, 1) := by decide +kernel
theorem d_Jx4a65c_elementData_915e3_5 : decode (mC M_Jx4a65c_elementData_915e3) 5 = .ok (.aaload, 1) := by decide +kernel
theorem d_Jx4a65c_elementData_915e3_6 : decode (mC M_Jx4a65c_elementData_915e3) 6 = .ok (.areturn, 1) := by decide +kernel
theorem d_Jx4a65c_get_915e3_0 : decode (mC M_Jx4a65c_get_915e3) 0 = .ok (.iload_n 1, 1) := by decide +kernel
theorem d_Jx4a65c_get_915e3_1 : decode (mC M_Jx4a65c_get_915e3) 1 = .ok (.aload_n 0, 1) := by decide +kernel
theorem d_Jx4a65c_get_915e3_2 : decode (mC M_Jx4a65c_get_915e3) 2 = .ok (.getfield 48, 3) := by decide +kernel
theorem d_Jx4a65c_get_915e3_5 : decode (mC M_Jx4a65c_get_915e3) 5 = .ok (.invokestatic 118, 3) := by decide +kernel
theorem d_Jx4a65c_get_915e3_8 : decode (mC M_Jx4a65c_get_915e3) 8 = .ok (.pop, 1) := by decide +kernel
theorem d_Jx4a65c_get_915e3_9 : decode (mC M_Jx4a65c_get_915e3) 9 = .ok (.aload_n 0, 1) := by decide +kernel
theorem d_Jx4a65c_get_915e3_10 : decode (mC M_Jx4a65c_get_915e3) 10 = .ok (.iload_n 1, 1) := by decide +kernel
theorem d_Jx4a65c_get_915e3_11 : decode (mC M_Jx4a65c_get_915e3) 11 = .ok (.invokevirtual 123, 3) := by decide +kernel
theorem d_Jx4a65c_get_915e3_14 : decode (mC M_Jx4a65c_get_915e3) 14 = .ok (.areturn, 1) := by decide +kernel
theorem d_Jx4a65c_grow_92f84_0 : decode (mC M_Jx4a65c_grow_92f84) 0 = .ok (.aload_n 0, 1) := by decide +kernel
theorem d_Jx4a65c_grow_92f84_1 : decode (mC M_Jx4a65c_grow_92f84) 1 = .ok (.getfield 9, 3) := by decide +kernel
theorem d_Jx4a65c_grow_92f84_4 : decode (mC M_Jx4a65c_grow_92f84) 4 = .ok (.arraylength, 1) := by decide +kernel
theorem d_Jx4a65c_grow_92f84_5 : decode (mC M_Jx4a65c_grow_92f84) 5 = .ok (.istore_n 2, 1) := by decide +kernel
theorem d_Jx4a65c_grow_92f84_6 : decode (mC M_Jx4a65c_grow_92f84) 6 = .ok (.iload_n 2, 1) := by decide +kernel
theorem d_Jx4a65c_grow_92f84_7 : decode (mC M_Jx4a65c_grow_92f84) 7 = .ok (.ifCond .gt 13, 3) := by decide +kernel
theorem d_Jx4a65c_grow_92f84_10 : decode (mC M_Jx4a65c_grow_92f84) 10 = .ok (.aload_n 0, 1) := by decide +kernel
theorem d_Jx4a65c_grow_92f84_11 : decode (mC M_Jx4a65c_grow_92f84) 11 = .ok (.getfield 9, 3) := by decide +kernel
theorem d_Jx4a65c_grow_92f84_14 : decode (mC M_Jx4a65c_grow_92f84) 14 = .ok (.getstatic 39, 3) := by decide +kernel
theorem d_Jx4a65c_grow_92f84_17 : decode (mC M_Jx4a65c_grow_92f84) 17 = .ok (.if_acmp .eq 28, 3) := by decide +kernel
theorem d_Jx4a65c_grow_92f84_20 : decode (mC M_Jx4a65c_grow_92f84) 20 = .ok (.iload_n 2, 1) := by decide +kernel
theorem d_Jx4a65c_grow_92f84_21 : decode (mC M_Jx4a65c_grow_92f84) 21 = .ok (.iload_n 1, 1) := by decide +kernel
theorem d_Jx4a65c_grow_92f84_22 : decode (mC M_Jx4a65c_grow_92f84) 22 = .ok (.iload_n 2, 1) := by decide +kernel
theorem d_Jx4a65c_grow_92f84_23 : decode (mC M_Jx4a65c_grow_92f84) 23 = .ok (.isub, 1) := by decide +kernel
theorem d_Jx4a65c_grow_92f84_24 : decode (mC M_Jx4a65c_grow_92f84) 24 = .ok (.iload_n 2, 1) := by decide +kernel
theorem d_Jx4a65c_grow_92f84_25 : decode (mC M_Jx4a65c_grow_92f84) 25 = .ok (.iconst 1, 1) := by decide +kernel
theorem d_Jx4a65c_grow_92f84_26 : decode (mC M_Jx4a65c_grow_92f84) 26 = .ok (.ishr, 1) := by decide +kernel
theorem d_Jx4a65c_grow_92f84_27 : decode (mC M_Jx4a65c_grow_92f84) 27 = .ok (.invokestatic 73, 3) := by decide +kernel
theorem d_Jx4a65c_grow_92f84_30 : decode (mC M_Jx4a65c_grow_92f84) 30 = .ok (.istore_n 3, 1) := by decide +kernel
theorem d_Jx4a65c_grow_92f84_31 : decode (mC M_Jx4a65c_grow_92f84) 31 = .ok (.aload_n 0, 1) := by decide +kernel
theorem d_Jx4a65c_grow_92f84_32 : decode (mC M_Jx4a65c_grow_92f84) 32 = .ok (.aload_n 0, 1) := by decide +kernel
theorem d_Jx4a65c_grow_92f84_33 : decode (mC M_Jx4a65c_grow_92f84) 33 = .ok (.getfield 9, 3) := by decide +kernel
theorem d_Jx4a65c_grow_92f84_36 : decode (mC M_Jx4a65c_grow_92f84) 36 = .ok (.iload_n 3, 1) := by decide +kernel
theorem d_Jx4a65c_grow_92f84_37 : decode (mC M_Jx4a65c_grow_92f84) 37 = .ok (.invokestatic 66, 3) := by decide +kernel
theorem d_Jx4a65c_grow_92f84_40 : decode (mC M_Jx4a65c_grow_92f84) 40 = .ok (.dup_x1, 1) := by decide +kernel
theorem d_Jx4a65c_grow_92f84_41 : decode (mC M_Jx4a65c_grow_92f84) 41 = .ok (.putfield 9, 3) := by decide +kernel
theorem d_Jx4a65c_grow_92f84_44 : decode (mC M_Jx4a65c_grow_92f84) 44 = .ok (.areturn, 1) := by decide +kernel
theorem d_Jx4a65c_grow_92f84_45 : decode (mC M_Jx4a65c_grow_92f84) 45 = .ok (.aload_n 0, 1) := by decide +kernel
theorem d_Jx4a65c_grow_92f84_46 : decode (mC M_Jx4a65c_grow_92f84) 46 = .ok (.bipush 10, 2) := by decide +kernel
theorem d_Jx4a65c_grow_92f84_48 : decode (mC M_Jx4a65c_grow_92f84) 48 = .ok (.iload_n 1, 1) := by decide +kernel
theorem d_Jx4a65c_grow_92f84_49 : decode (mC M_Jx4a65c_grow_92f84) 49 = .ok (.invokestatic 79, 3) := by decide +kernel
theorem d_Jx4a65c_grow_92f84_52 : decode (mC M_Jx4a65c_grow_92f84) 52 = .ok (.anewarray 7, 3) := by decide +kernel
theorem d_Jx4a65c_grow_92f84_55 : decode (mC M_Jx4a65c_grow_92f84) 55 = .ok (.dup_x1, 1) := by decide +kernel
theorem d_Jx4a65c_grow_92f84_56 : decode (mC M_Jx4a65c_grow_92f84) 56 = .ok (.putfield 9, 3) := by decide +kernel
theorem d_Jx4a65c_grow_92f84_59 : decode (mC M_Jx4a65c_grow_92f84) 59 = .ok (.areturn, 1) := by decide +kernel
theorem d_Jx4a65c_grow_d5877_0 : decode (mC M_Jx4a65c_grow_d5877) 0 = .ok (.aload_n 0, 1) := by decide +kernel
theorem d_Jx4a65c_grow_d5877_1 : decode (mC M_Jx4a65c_grow_d5877) 1 = .ok (.aload_n 0, 1) := by decide +kernel
theorem d_Jx4a65c_grow_d5877_2 : decode (mC M_Jx4a65c_grow_d5877) 2 = .ok (.getfield 48, 3) := by decide +kernel
theorem d_Jx4a65c_grow_d5877_5 : decode (mC M_Jx4a65c_grow_d5877) 5 = .ok (.iconst 1, 1) := by decide +kernel
theorem d_Jx4a65c_grow_d5877_6 : decode (mC M_Jx4a65c_grow_d5877) 6 = .ok (.iadd, 1) := by decide +kernel
theorem d_Jx4a65c_grow_d5877_7 : decode (mC M_Jx4a65c_grow_d5877) 7 = .ok (.invokevirtual 69, 3) := by decide +kernel
theorem d_Jx4a65c_grow_d5877_10 : decode (mC M_Jx4a65c_grow_d5877) 10 = .ok (.areturn, 1) := by decide +kernel
theorem d_Jx4a65c_init_da8c8_0 : decode (mC M_Jx4a65c_init_da8c8) 0 = .ok (.aload_n 0, 1) := by decide +kernel
theorem d_Jx4a65c_init_da8c8_1 : decode (mC M_Jx4a65c_init_da8c8) 1 = .ok (.invokespecial 1, 3) := by decide +kernel
theorem d_Jx4a65c_init_da8c8_4 : decode (mC M_Jx4a65c_init_da8c8) 4 = .ok (.aload_n 0, 1) := by decide +kernel
theorem d_Jx4a65c_init_da8c8_5 : decode (mC M_Jx4a65c_init_da8c8) 5 = .ok (.getstatic 39, 3) := by decide +kernel
theorem d_Jx4a65c_init_da8c8_8 : decode (mC M_Jx4a65c_init_da8c8) 8 = .ok (.putfield 9, 3) := by decide +kernel
theorem d_Jx4a65c_init_da8c8_11 : decode (mC M_Jx4a65c_init_da8c8) 11 = .ok (.return_, 1) := by decide +kernel
theorem d_Jx4a65c_isEmpty_aae02_0 : decode (mC M_Jx4a65c_isEmpty_aae02) 0 = .ok (.aload_n 0, 1) := by decide +kernel
theorem d_Jx4a65c_isEmpty_aae02_1 : decode (mC M_Jx4a65c_isEmpty_aae02) 1 = .ok (.getfield 48, 3) := by decide +kernel
theorem d_Jx4a65c_isEmpty_aae02_4 : decode (mC M_Jx4a65c_isEmpty_aae02) 4 = .ok (.ifCond .ne 7, 3) := by decide +kernel
theorem d_Jx4a65c_isEmpty_aae02_7 : decode (mC M_Jx4a65c_isEmpty_aae02) 7 = .ok (.iconst 1, 1) := by decide +kernel
theorem d_Jx4a65c_isEmpty_aae02_8 : decode (mC M_Jx4a65c_isEmpty_aae02) 8 = .ok (.goto 4, 3) := by decide +kernel
theorem d_Jx4a65c_isEmpty_aae02_11 : decode (mC M_Jx4a65c_isEmpty_aae02) 11 = .ok (.iconst 0, 1) := by decide +kernel
theorem d_Jx4a65c_isEmpty_aae02_12 : decode (mC M_Jx4a65c_isEmpty_aae02) 12 = .ok (.ireturn, 1) := by decide +kernel
theorem d_Jx4a65c_rangeCheckForAdd_d00df_0 : decode (mC M_Jx4a65c_rangeCheckForAdd_d00df) 0 = .ok (.iload_n 1, 1) := by decide +kernel
theorem d_Jx4a65c_rangeCheckForAdd_d00df_1 : decode (mC M_Jx4a65c_rangeCheckForAdd_d00df) 1 = .ok (.aload_n 0, 1) := by decide +kernel
theorem d_Jx4a65c_rangeCheckForAdd_d00df_2 : decode (mC M_Jx4a65c_rangeCheckForAdd_d00df) 2 = .ok (.getfield 48, 3) := by decide +kernel
theorem d_Jx4a65c_rangeCheckForAdd_d00df_5 : decode (mC M_Jx4a65c_rangeCheckForAdd_d00df) 5 = .ok (.if_icmp .gt 7, 3) := by decide +kernel
theorem d_Jx4a65c_rangeCheckForAdd_d00df_8 : decode (mC M_Jx4a65c_rangeCheckForAdd_d00df) 8 = .ok (.iload_n 1, 1) := by decide +kernel
theorem d_Jx4a65c_rangeCheckForAdd_d00df_9 : decode (mC M_Jx4a65c_rangeCheckForAdd_d00df) 9 = .ok (.ifCond .ge 16, 3) := by decide +kernel
theorem d_Jx4a65c_rangeCheckForAdd_d00df_12 : decode (mC M_Jx4a65c_rangeCheckForAdd_d00df) 12 = .ok (.new 187, 3) := by decide +kernel
theorem d_Jx4a65c_rangeCheckForAdd_d00df_15 : decode (mC M_Jx4a65c_rangeCheckForAdd_d00df) 15 = .ok (.dup, 1) := by decide +kernel
theorem d_Jx4a65c_rangeCheckForAdd_d00df_16 : decode (mC M_Jx4a65c_rangeCheckForAdd_d00df) 16 = .ok (.aload_n 0, 1) := by decide +kernel
theorem d_Jx4a65c_rangeCheckForAdd_d00df_17 : decode (mC M_Jx4a65c_rangeCheckForAdd_d00df) 17 = .ok (.iload_n 1, 1) := by decide +kernel
theorem d_Jx4a65c_rangeCheckForAdd_d00df_18 : decode (mC M_Jx4a65c_rangeCheckForAdd_d00df) 18 = .ok (.invokevirtual 198, 3) := by decide +kernel
theorem d_Jx4a65c_rangeCheckForAdd_d00df_21 : decode (mC M_Jx4a65c_rangeCheckForAdd_d00df) 21 = .ok (.invokespecial 193, 3) := by decide +kernel
theorem d_Jx4a65c_rangeCheckForAdd_d00df_24 : decode (mC M_Jx4a65c_rangeCheckForAdd_d00df) 24 = .ok (.athrow, 1) := by decide +kernel
theorem d_Jx4a65c_rangeCheckForAdd_d00df_25 : decode (mC M_Jx4a65c_rangeCheckForAdd_d00df) 25 = .ok (.return_, 1) := by decide +kernel
theorem d_Jx4a65c_size_8abf5_0 : decode (mC M_Jx4a65c_size_8abf5) 0 = .ok (.aload_n 0, 1) := by decide +kernel
theorem d_Jx4a65c_size_8abf5_1 : decode (mC M_Jx4a65c_size_8abf5) 1 = .ok (.getfield 48, 3) := by decide +kernel
theorem d_Jx4a65c_size_8abf5_4 : decode (mC M_Jx4a65c_size_8abf5) 4 = .ok (.ireturn, 1) := by decide +kernel
theorem d_Jxa1e45_init_da8c8_0 : decode (mC M_Jxa1e45_init_da8c8) 0 = .ok (.aload_n 0, 1) := by decide +kernel
theorem d_Jxa1e45_init_da8c8_1 : decode (mC M_Jxa1e45_init_da8c8) 1 = .ok (.invokespecial 1, 3) := by decide +kernel
theorem d_Jxa1e45_init_da8c8_4 : decode (mC M_Jxa1e45_init_da8c8) 4 = .ok (.return_, 1) := by decide +kernel
theorem d_Jxc12de_init_da8c8_0 : decode (mC M_Jxc12de_init_da8c8) 0 = .ok (.aload_n 0, 1) := by decide +kernel
theorem d_Jxc12de_init_da8c8_1 : decode (mC M_Jxc12de_init_da8c8) 1 = .ok (.invokespecial 1, 3) := by decide +kernel
theorem d_Jxc12de_init_da8c8_4 : decode (mC M_Jxc12de_init_da8c8) 4 = .ok (.aload_n 0, 1) := by decide +kernel
theorem d_Jxc12de_init_da8c8_5 : decode (mC M_Jxc12de_init_da8c8) 5 = .ok (.iconst 0, 1) := by decide +kernel
theorem d_Jxc12de_init_da8c8_6 : decode (mC M_Jxc12de_init_da8c8) 6 = .ok (.putfield 7, 3) := by decide +kernel
theorem d_Jxc12de_init_da8c8_9 : decode (mC M_Jxc12de_init_da8c8) 9 = .ok (.return_, 1) := by decide +kernel
theorem d_L_seen_0 : decode (mC M_L_seen) 0 = .ok (.aload 4, 2) := by decide +kernel
theorem d_L_seen_2 : decode (mC M_L_seen) 2 = .ok (.iconst 0, 1) := by decide +kernel
theorem d_L_seen_3 : decode (mC M_L_seen) 3 = .ok (.aload_n 0, 1) := by decide +kernel
theorem d_L_seen_4 : decode (mC M_L_seen) 4 = .ok (.iload_n 1, 1) := by decide +kernel
theorem d_L_seen_5 : decode (mC M_L_seen) 5 = .ok (.iload_n 2, 1) := by decide +kernel
theorem d_L_seen_6 : decode (mC M_L_seen) 6 = .ok (.iload_n 3, 1) := by decide +kernel
theorem d_L_seen_7 : decode (mC M_L_seen) 7 = .ok (.invokevirtual 7, 3) := by decide +kernel
theorem d_L_seen_10 : decode (mC M_L_seen) 10 = .ok (.i2l, 1) := by decide +kernel
theorem d_L_seen_11 : decode (mC M_L_seen) 11 = .ok (.lastore, 1) := by decide +kernel
theorem d_L_seen_12 : decode (mC M_L_seen) 12 = .ok (.goto 7, 3) := by decide +kernel
theorem d_L_seen_15 : decode (mC M_L_seen) 15 = .ok (.astore 5, 2) := by decide +kernel
theorem d_L_seen_17 : decode (mC M_L_seen) 17 = .ok (.iconst 1, 1) := by decide +kernel
theorem d_L_seen_18 : decode (mC M_L_seen) 18 = .ok (.ireturn, 1) := by decide +kernel
theorem d_L_seen_19 : decode (mC M_L_seen) 19 = .ok (.iconst 0, 1) := by decide +kernel
theorem d_L_seen_20 : decode (mC M_L_seen) 20 = .ok (.ireturn, 1) := by decide +kernel
theorem d_X0_init_0 : decode (mC M_X0_init) 0 = .ok (.aload_n 0, 1) := by decide +kernel
theorem d_X0_init_1 : decode (mC M_X0_init) 1 = .ok (.invokespecial 3, 3) := by decide +kernel
theorem d_X0_init_4 : decode (mC M_X0_init) 4 = .ok (.aload_n 0, 1) := by decide +kernel
theorem d_X0_init_5 : decode (mC M_X0_init) 5 = .ok (.new 9, 3) := by decide +kernel
theorem d_X0_init_8 : decode (mC M_X0_init) 8 = .ok (.dup, 1) := by decide +kernel
theorem d_X0_init_9 : decode (mC M_X0_init) 9 = .ok (.invokespecial 11, 3) := by decide +kernel
theorem d_X0_init_12 : decode (mC M_X0_init) 12 = .ok (.putfield 12, 3) := by decide +kernel
theorem d_X0_init_15 : decode (mC M_X0_init) 15 = .ok (.aload_n 0, 1) := by decide +kernel
theorem d_X0_init_16 : decode (mC M_X0_init) 16 = .ok (.iload_n 1, 1) := by decide +kernel
theorem d_X0_init_17 : decode (mC M_X0_init) 17 = .ok (.putfield 18, 3) := by decide +kernel
theorem d_X0_init_20 : decode (mC M_X0_init) 20 = .ok (.return_, 1) := by decide +kernel
theorem d_X0_readFrom_0 : decode (mC M_X0_readFrom) 0 = .ok (.aload_n 1, 1) := by decide +kernel
theorem d_X0_readFrom_1 : decode (mC M_X0_readFrom) 1 = .ok (.invokevirtual 22, 3) := by decide +kernel
theorem d_X0_readFrom_4 : decode (mC M_X0_readFrom) 4 = .ok (.iconst 0, 1) := by decide +kernel
theorem d_X0_readFrom_5 : decode (mC M_X0_readFrom) 5 = .ok (.istore_n 2, 1) := by decide +kernel
theorem d_X0_readFrom_6 : decode (mC M_X0_readFrom) 6 = .ok (.iload_n 2, 1) := by decide +kernel
theorem d_X0_readFrom_7 : decode (mC M_X0_readFrom) 7 = .ok (.bipush 8, 2) := by decide +kernel
theorem d_X0_readFrom_9 : decode (mC M_X0_readFrom) 9 = .ok (.if_icmp .gt 86, 3) := by decide +kernel
theorem d_X0_readFrom_12 : decode (mC M_X0_readFrom) 12 = .ok (.aload_n 1, 1) := by decide +kernel
theorem d_X0_readFrom_13 : decode (mC M_X0_readFrom) 13 = .ok (.invokevirtual 27, 3) := by decide +kernel
theorem d_X0_readFrom_16 : decode (mC M_X0_readFrom) 16 = .ok (.ifCond .ne 79, 3) := by decide +kernel
theorem d_X0_readFrom_19 : decode (mC M_X0_readFrom) 19 = .ok (.new 31, 3) := by decide +kernel
theorem d_X0_readFrom_22 : decode (mC M_X0_readFrom) 22 = .ok (.dup, 1) := by decide +kernel
theorem d_X0_readFrom_23 : decode (mC M_X0_readFrom) 23 = .ok (.aload_n 1, 1) := by decide +kernel
theorem d_X0_readFrom_24 : decode (mC M_X0_readFrom) 24 = .ok (.invokestatic 33, 3) := by decide +kernel
theorem d_X0_readFrom_27 : decode (mC M_X0_readFrom) 27 = .ok (.invokespecial 37, 3) := by decide +kernel
theorem d_X0_readFrom_30 : decode (mC M_X0_readFrom) 30 = .ok (.astore_n 3, 1) := by decide +kernel
theorem d_X0_readFrom_31 : decode (mC M_X0_readFrom) 31 = .ok (.aload_n 3, 1) := by decide +kernel
theorem d_X0_readFrom_32 : decode (mC M_X0_readFrom) 32 = .ok (.getfield 40, 3) := by decide +kernel
theorem d_X0_readFrom_35 : decode (mC M_X0_readFrom) 35 = .ok (.iconst (-1), 1) := by decide +kernel
theorem d_X0_readFrom_36 : decode (mC M_X0_readFrom) 36 = .ok (.if_icmp .ne 9, 3) := by decide +kernel
theorem d_X0_readFrom_39 : decode (mC M_X0_readFrom) 39 = .ok (.aload_n 1, 1) := by decide +kernel
theorem d_X0_readFrom_40 : decode (mC M_X0_readFrom) 40 = .ok (.iconst 1, 1) := by decide +kernel
theorem d_X0_readFrom_41 : decode (mC M_X0_readFrom) 41 = .ok (.invokevirtual 43, 3) := by decide +kernel
theorem d_X0_readFrom_44 : decode (mC M_X0_readFrom) 44 = .ok (.ireturn, 1) := by decide +kernel
theorem d_X0_readFrom_45 : decode (mC M_X0_readFrom) 45 = .ok (.iload_n 2, 1) := by decide +kernel
theorem d_X0_readFrom_46 : decode (mC M_X0_readFrom) 46 = .ok (.bipush 8, 2) := by decide +kernel
theorem d_X0_readFrom_48 : decode (mC M_X0_readFrom) 48 = .ok (.if_icmp .ne 9, 3) := by decide +kernel
theorem d_X0_readFrom_51 : decode (mC M_X0_readFrom) 51 = .ok (.aload_n 1, 1) := by decide +kernel
theorem d_X0_readFrom_52 : decode (mC M_X0_readFrom) 52 = .ok (.iconst 2, 1) := by decide +kernel
theorem d_X0_readFrom_53 : decode (mC M_X0_readFrom) 53 = .ok (.invokevirtual 43, 3) := by decide +kernel
theorem d_X0_readFrom_56 : decode (mC M_X0_readFrom) 56 = .ok (.ireturn, 1) := by decide +kernel
theorem d_X0_readFrom_57 : decode (mC M_X0_readFrom) 57 = .ok (.aload_n 1, 1) := by decide +kernel
theorem d_X0_readFrom_58 : decode (mC M_X0_readFrom) 58 = .ok (.invokevirtual 47, 3) := by decide +kernel
theorem d_X0_readFrom_61 : decode (mC M_X0_readFrom) 61 = .ok (.aload_n 3, 1) := by decide +kernel
theorem d_X0_readFrom_62 : decode (mC M_X0_readFrom) 62 = .ok (.aload_n 1, 1) := by decide +kernel
theorem d_X0_readFrom_63 : decode (mC M_X0_readFrom) 63 = .ok (.invokevirtual 50, 3) := by decide +kernel
theorem d_X0_readFrom_66 : decode (mC M_X0_readFrom) 66 = .ok (.ifCond .eq 12, 3) := by decide +kernel
theorem d_X0_readFrom_69 : decode (mC M_X0_readFrom) 69 = .ok (.aload_n 1, 1) := by decide +kernel
theorem d_X0_readFrom_70 : decode (mC M_X0_readFrom) 70 = .ok (.bipush 59, 2) := by decide +kernel
theorem d_X0_readFrom_72 : decode (mC M_X0_readFrom) 72 = .ok (.invokevirtual 54, 3) := by decide +kernel
theorem d_X0_readFrom_75 : decode (mC M_X0_readFrom) 75 = .ok (.ifCond .ne 5, 3) := by decide +kernel
theorem d_X0_readFrom_78 : decode (mC M_X0_readFrom) 78 = .ok (.iconst 0, 1) := by decide +kernel
theorem d_X0_readFrom_79 : decode (mC M_X0_readFrom) 79 = .ok (.ireturn, 1) := by decide +kernel
theorem d_X0_readFrom_80 : decode (mC M_X0_readFrom) 80 = .ok (.aload_n 0, 1) := by decide +kernel
theorem d_X0_readFrom_81 : decode (mC M_X0_readFrom) 81 = .ok (.getfield 12, 3) := by decide +kernel
theorem d_X0_readFrom_84 : decode (mC M_X0_readFrom) 84 = .ok (.aload_n 3, 1) := by decide +kernel
theorem d_X0_readFrom_85 : decode (mC M_X0_readFrom) 85 = .ok (.invokevirtual 58, 3) := by decide +kernel
theorem d_X0_readFrom_88 : decode (mC M_X0_readFrom) 88 = .ok (.pop, 1) := by decide +kernel
theorem d_X0_readFrom_89 : decode (mC M_X0_readFrom) 89 = .ok (.iinc 2 1, 3) := by decide +kernel
theorem d_X0_readFrom_92 : decode (mC M_X0_readFrom) 92 = .ok (.goto (-86), 3) := by decide +kernel
theorem d_X0_readFrom_95 : decode (mC M_X0_readFrom) 95 = .ok (.iconst 1, 1) := by decide +kernel
theorem d_X0_readFrom_96 : decode (mC M_X0_readFrom) 96 = .ok (.ireturn, 1) := by decide +kernel
theorem d_X0_worth_0 : decode (mC M_X0_worth) 0 = .ok (.iconst 0, 1) := by decide +kernel
theorem d_X0_worth_1 : decode (mC M_X0_worth) 1 = .ok (.istore_n 3, 1) := by decide +kernel
theorem d_X0_worth_2 : decode (mC M_X0_worth) 2 = .ok (.iconst 0, 1) := by decide +kernel
theorem d_X0_worth_3 : decode (mC M_X0_worth) 3 = .ok (.istore 4, 2) := by decide +kernel
theorem d_X0_worth_5 : decode (mC M_X0_worth) 5 = .ok (.iload 4, 2) := by decide +kernel
theorem d_X0_worth_7 : decode (mC M_X0_worth) 7 = .ok (.aload_n 0, 1) := by decide +kernel
theorem d_X0_worth_8 : decode (mC M_X0_worth) 8 = .ok (.getfield 12, 3) := by decide +kernel
theorem d_X0_worth_11 : decode (mC M_X0_worth) 11 = .ok (.invokevirtual 62, 3) := by decide +kernel
theorem d_X0_worth_14 : decode (mC M_X0_worth) 14 = .ok (.if_icmp .ge 29, 3) := by decide +kernel
theorem d_X0_worth_17 : decode (mC M_X0_worth) 17 = .ok (.iload_n 3, 1) := by decide +kernel
theorem d_X0_worth_18 : decode (mC M_X0_worth) 18 = .ok (.aload_n 0, 1) := by decide +kernel
theorem d_X0_worth_19 : decode (mC M_X0_worth) 19 = .ok (.getfield 12, 3) := by decide +kernel
theorem d_X0_worth_22 : decode (mC M_X0_worth) 22 = .ok (.iload 4, 2) := by decide +kernel
theorem d_X0_worth_24 : decode (mC M_X0_worth) 24 = .ok (.invokevirtual 66, 3) := by decide +kernel
theorem d_X0_worth_27 : decode (mC M_X0_worth) 27 = .ok (.checkcast 31, 3) := by decide +kernel
theorem d_X0_worth_30 : decode (mC M_X0_worth) 30 = .ok (.iload_n 1, 1) := by decide +kernel
theorem d_X0_worth_31 : decode (mC M_X0_worth) 31 = .ok (.iload_n 2, 1) := by decide +kernel
theorem d_X0_worth_32 : decode (mC M_X0_worth) 32 = .ok (.invokevirtual 70, 3) := by decide +kernel
theorem d_X0_worth_35 : decode (mC M_X0_worth) 35 = .ok (.iadd, 1) := by decide +kernel
theorem d_X0_worth_36 : decode (mC M_X0_worth) 36 = .ok (.istore_n 3, 1) := by decide +kernel
theorem d_X0_worth_37 : decode (mC M_X0_worth) 37 = .ok (.iinc 4 1, 3) := by decide +kernel
theorem d_X0_worth_40 : decode (mC M_X0_worth) 40 = .ok (.goto (-35), 3) := by decide +kernel
theorem d_X0_worth_43 : decode (mC M_X0_worth) 43 = .ok (.iload_n 3, 1) := by decide +kernel
theorem d_X0_worth_44 : decode (mC M_X0_worth) 44 = .ok (.ireturn, 1) := by decide +kernel
theorem d_X10_answer_0 : decode (mC M_X10_answer) 0 = .ok (.iload_n 1, 1) := by decide +kernel
theorem d_X10_answer_1 : decode (mC M_X10_answer) 1 = .ok (.tableswitch 92 0 6 #[43, 48, 53, 58, 63, 68, 87], 43) := by decide +kernel
theorem d_X10_answer_44 : decode (mC M_X10_answer) 44 = .ok (.aload_n 0, 1) := by decide +kernel
theorem d_X10_answer_45 : decode (mC M_X10_answer) 45 = .ok (.getfield 28, 3) := by decide +kernel
theorem d_X10_answer_48 : decode (mC M_X10_answer) 48 = .ok (.ireturn, 1) := by decide +kernel
theorem d_X10_answer_49 : decode (mC M_X10_answer) 49 = .ok (.aload_n 0, 1) := by decide +kernel
theorem d_X10_answer_50 : decode (mC M_X10_answer) 50 = .ok (.getfield 51, 3) := by decide +kernel
theorem d_X10_answer_53 : decode (mC M_X10_answer) 53 = .ok (.ireturn, 1) := by decide +kernel
theorem d_X10_answer_54 : decode (mC M_X10_answer) 54 = .ok (.aload_n 0, 1) := by decide +kernel
theorem d_X10_answer_55 : decode (mC M_X10_answer) 55 = .ok (.getfield 60, 3) := by decide +kernel
theorem d_X10_answer_58 : decode (mC M_X10_answer) 58 = .ok (.ireturn, 1) := by decide +kernel
theorem d_X10_answer_59 : decode (mC M_X10_answer) 59 = .ok (.aload_n 0, 1) := by decide +kernel
theorem d_X10_answer_60 : decode (mC M_X10_answer) 60 = .ok (.getfield 32, 3) := by decide +kernel
theorem d_X10_answer_63 : decode (mC M_X10_answer) 63 = .ok (.ireturn, 1) := by decide +kernel
theorem d_X10_answer_64 : decode (mC M_X10_answer) 64 = .ok (.aload_n 0, 1) := by decide +kernel
theorem d_X10_answer_65 : decode (mC M_X10_answer) 65 = .ok (.getfield 36, 3) := by decide +kernel
theorem d_X10_answer_68 : decode (mC M_X10_answer) 68 = .ok (.ireturn, 1) := by decide +kernel
theorem d_X10_answer_69 : decode (mC M_X10_answer) 69 = .ok (.aload_n 0, 1) := by decide +kernel
theorem d_X10_answer_70 : decode (mC M_X10_answer) 70 = .ok (.getfield 39, 3) := by decide +kernel
theorem d_X10_answer_73 : decode (mC M_X10_answer) 73 = .ok (.ifnonnull 7, 3) := by decide +kernel
theorem d_X10_answer_76 : decode (mC M_X10_answer) 76 = .ok (.iconst (-1), 1) := by decide +kernel
theorem d_X10_answer_77 : decode (mC M_X10_answer) 77 = .ok (.goto 10, 3) := by decide +kernel
theorem d_X10_answer_80 : decode (mC M_X10_answer) 80 = .ok (.aload_n 0, 1) := by decide +kernel
theorem d_X10_answer_81 : decode (mC M_X10_answer) 81 = .ok (.getfield 39, 3) := by decide +kernel
theorem d_X10_answer_84 : decode (mC M_X10_answer) 84 = .ok (.getfield 63, 3) := by decide +kernel
theorem d_X10_answer_87 : decode (mC M_X10_answer) 87 = .ok (.ireturn, 1) := by decide +kernel
theorem d_X10_answer_88 : decode (mC M_X10_answer) 88 = .ok (.aload_n 0, 1) := by decide +kernel
theorem d_X10_answer_89 : decode (mC M_X10_answer) 89 = .ok (.invokevirtual 66, 3) := by decide +kernel
theorem d_X10_answer_92 : decode (mC M_X10_answer) 92 = .ok (.ireturn, 1) := by decide +kernel
theorem d_X10_answer_93 : decode (mC M_X10_answer) 93 = .ok (.iconst (-1), 1) := by decide +kernel
theorem d_X10_answer_94 : decode (mC M_X10_answer) 94 = .ok (.ireturn, 1) := by decide +kernel
theorem d_X10_earned_0 : decode (mC M_X10_earned) 0 = .ok (.aload_n 0, 1) := by decide +kernel
theorem d_X10_earned_1 : decode (mC M_X10_earned) 1 = .ok (.getfield 39, 3) := by decide +kernel
theorem d_X10_earned_4 : decode (mC M_X10_earned) 4 = .ok (.ifnonnull 7, 3) := by decide +kernel
theorem d_X10_earned_7 : decode (mC M_X10_earned) 7 = .ok (.iconst 0, 1) := by decide +kernel
theorem d_X10_earned_8 : decode (mC M_X10_earned) 8 = .ok (.goto 18, 3) := by decide +kernel
theorem d_X10_earned_11 : decode (mC M_X10_earned) 11 = .ok (.aload_n 0, 1) := by decide +kernel
theorem d_X10_earned_12 : decode (mC M_X10_earned) 12 = .ok (.getfield 39, 3) := by decide +kernel
theorem d_X10_earned_15 : decode (mC M_X10_earned) 15 = .ok (.aload_n 0, 1) := by decide +kernel
theorem d_X10_earned_16 : decode (mC M_X10_earned) 16 = .ok (.getfield 51, 3) := by decide +kernel
theorem d_X10_earned_19 : decode (mC M_X10_earned) 19 = .ok (.aload_n 0, 1) := by decide +kernel
theorem d_X10_earned_20 : decode (mC M_X10_earned) 20 = .ok (.getfield 36, 3) := by decide +kernel
theorem d_X10_earned_23 : decode (mC M_X10_earned) 23 = .ok (.invokevirtual 54, 3) := by decide +kernel
theorem d_X10_earned_26 : decode (mC M_X10_earned) 26 = .ok (.ireturn, 1) := by decide +kernel
theorem d_X10_init_0 : decode (mC M_X10_init) 0 = .ok (.aload_n 0, 1) := by decide +kernel
theorem d_X10_init_1 : decode (mC M_X10_init) 1 = .ok (.invokespecial 3, 3) := by decide +kernel
theorem d_X10_init_4 : decode (mC M_X10_init) 4 = .ok (.aload_n 0, 1) := by decide +kernel
theorem d_X10_init_5 : decode (mC M_X10_init) 5 = .ok (.aload_n 1, 1) := by decide +kernel
theorem d_X10_init_6 : decode (mC M_X10_init) 6 = .ok (.putfield 9, 3) := by decide +kernel
theorem d_X10_init_9 : decode (mC M_X10_init) 9 = .ok (.aload_n 0, 1) := by decide +kernel
theorem d_X10_init_10 : decode (mC M_X10_init) 10 = .ok (.iload_n 2, 1) := by decide +kernel
theorem d_X10_init_11 : decode (mC M_X10_init) 11 = .ok (.putfield 15, 3) := by decide +kernel
theorem d_X10_init_14 : decode (mC M_X10_init) 14 = .ok (.aload_n 0, 1) := by decide +kernel
theorem d_X10_init_15 : decode (mC M_X10_init) 15 = .ok (.aload_n 3, 1) := by decide +kernel
theorem d_X10_init_16 : decode (mC M_X10_init) 16 = .ok (.putfield 19, 3) := by decide +kernel
theorem d_X10_init_19 : decode (mC M_X10_init) 19 = .ok (.aload_n 0, 1) := by decide +kernel
theorem d_X10_init_20 : decode (mC M_X10_init) 20 = .ok (.aload_n 3, 1) := by decide +kernel
theorem d_X10_init_21 : decode (mC M_X10_init) 21 = .ok (.getfield 23, 3) := by decide +kernel
theorem d_X10_init_24 : decode (mC M_X10_init) 24 = .ok (.putfield 28, 3) := by decide +kernel
theorem d_X10_init_27 : decode (mC M_X10_init) 27 = .ok (.return_, 1) := by decide +kernel
theorem d_X10_send_0 : decode (mC M_X10_send) 0 = .ok (.aload_n 0, 1) := by decide +kernel
theorem d_X10_send_1 : decode (mC M_X10_send) 1 = .ok (.aload_n 0, 1) := by decide +kernel
theorem d_X10_send_2 : decode (mC M_X10_send) 2 = .ok (.getfield 19, 3) := by decide +kernel
theorem d_X10_send_5 : decode (mC M_X10_send) 5 = .ok (.getfield 29, 3) := by decide +kernel
theorem d_X10_send_8 : decode (mC M_X10_send) 8 = .ok (.putfield 32, 3) := by decide +kernel
theorem d_X10_send_11 : decode (mC M_X10_send) 11 = .ok (.aload_n 0, 1) := by decide +kernel
theorem d_X10_send_12 : decode (mC M_X10_send) 12 = .ok (.aload_n 0, 1) := by decide +kernel
theorem d_X10_send_13 : decode (mC M_X10_send) 13 = .ok (.getfield 32, 3) := by decide +kernel
theorem d_X10_send_16 : decode (mC M_X10_send) 16 = .ok (.aload_n 0, 1) := by decide +kernel
theorem d_X10_send_17 : decode (mC M_X10_send) 17 = .ok (.getfield 19, 3) := by decide +kernel
theorem d_X10_send_20 : decode (mC M_X10_send) 20 = .ok (.getfield 33, 3) := by decide +kernel
theorem d_X10_send_23 : decode (mC M_X10_send) 23 = .ok (.iadd, 1) := by decide +kernel
theorem d_X10_send_24 : decode (mC M_X10_send) 24 = .ok (.putfield 36, 3) := by decide +kernel
theorem d_X10_send_27 : decode (mC M_X10_send) 27 = .ok (.aload_n 0, 1) := by decide +kernel
theorem d_X10_send_28 : decode (mC M_X10_send) 28 = .ok (.aload_n 1, 1) := by decide +kernel
theorem d_X10_send_29 : decode (mC M_X10_send) 29 = .ok (.putfield 39, 3) := by decide +kernel
theorem d_X10_send_32 : decode (mC M_X10_send) 32 = .ok (.aload_n 0, 1) := by decide +kernel
theorem d_X10_send_33 : decode (mC M_X10_send) 33 = .ok (.getfield 9, 3) := by decide +kernel
theorem d_X10_send_36 : decode (mC M_X10_send) 36 = .ok (.dup, 1) := by decide +kernel
theorem d_X10_send_37 : decode (mC M_X10_send) 37 = .ok (.getfield 43, 3) := by decide +kernel
theorem d_X10_send_40 : decode (mC M_X10_send) 40 = .ok (.iconst 1, 1) := by decide +kernel
theorem d_X10_send_41 : decode (mC M_X10_send) 41 = .ok (.iadd, 1) := by decide +kernel
theorem d_X10_send_42 : decode (mC M_X10_send) 42 = .ok (.putfield 43, 3) := by decide +kernel
theorem d_X10_send_45 : decode (mC M_X10_send) 45 = .ok (.aload_n 0, 1) := by decide +kernel
theorem d_X10_send_46 : decode (mC M_X10_send) 46 = .ok (.getfield 9, 3) := by decide +kernel
theorem d_X10_send_49 : decode (mC M_X10_send) 49 = .ok (.sipush 1440, 3) := by decide +kernel
theorem d_X10_send_52 : decode (mC M_X10_send) 52 = .ok (.aload_n 0, 1) := by decide +kernel
theorem d_X10_send_53 : decode (mC M_X10_send) 53 = .ok (.getfield 15, 3) := by decide +kernel
theorem d_X10_send_56 : decode (mC M_X10_send) 56 = .ok (.imul, 1) := by decide +kernel
theorem d_X10_send_57 : decode (mC M_X10_send) 57 = .ok (.aload_n 0, 1) := by decide +kernel
theorem d_X10_send_58 : decode (mC M_X10_send) 58 = .ok (.getfield 36, 3) := by decide +kernel
theorem d_X10_send_61 : decode (mC M_X10_send) 61 = .ok (.iadd, 1) := by decide +kernel
theorem d_X10_send_62 : decode (mC M_X10_send) 62 = .ok (.sipush 660, 3) := by decide +kernel
theorem d_X10_send_65 : decode (mC M_X10_send) 65 = .ok (.iadd, 1) := by decide +kernel
theorem d_X10_send_66 : decode (mC M_X10_send) 66 = .ok (.putfield 48, 3) := by decide +kernel
theorem d_X10_send_69 : decode (mC M_X10_send) 69 = .ok (.return_, 1) := by decide +kernel
theorem d_X11_about_0 : decode (mC M_X11_about) 0 = .ok (.aload_n 0, 1) := by decide +kernel
theorem d_X11_about_1 : decode (mC M_X11_about) 1 = .ok (.iload_n 1, 1) := by decide +kernel
theorem d_X11_about_2 : decode (mC M_X11_about) 2 = .ok (.invokevirtual 89, 3) := by decide +kernel
theorem d_X11_about_5 : decode (mC M_X11_about) 5 = .ok (.astore_n 3, 1) := by decide +kernel
theorem d_X11_about_6 : decode (mC M_X11_about) 6 = .ok (.aload_n 3, 1) := by decide +kernel
theorem d_X11_about_7 : decode (mC M_X11_about) 7 = .ok (.ifnonnull 7, 3) := by decide +kernel
theorem d_X11_about_10 : decode (mC M_X11_about) 10 = .ok (.iconst (-1), 1) := by decide +kernel
theorem d_X11_about_11 : decode (mC M_X11_about) 11 = .ok (.goto 8, 3) := by decide +kernel
theorem d_X11_about_14 : decode (mC M_X11_about) 14 = .ok (.aload_n 3, 1) := by decide +kernel
theorem d_X11_about_15 : decode (mC M_X11_about) 15 = .ok (.iload_n 2, 1) := by decide +kernel
theorem d_X11_about_16 : decode (mC M_X11_about) 16 = .ok (.invokevirtual 231, 3) := by decide +kernel
theorem d_X11_about_19 : decode (mC M_X11_about) 19 = .ok (.ireturn, 1) := by decide +kernel
theorem d_X11_addBytes_0 : decode (mC M_X11_addBytes) 0 = .ok (.bipush 24, 2) := by decide +kernel
theorem d_X11_addBytes_2 : decode (mC M_X11_addBytes) 2 = .ok (.istore_n 2, 1) := by decide +kernel
theorem d_X11_addBytes_3 : decode (mC M_X11_addBytes) 3 = .ok (.iload_n 2, 1) := by decide +kernel
theorem d_X11_addBytes_4 : decode (mC M_X11_addBytes) 4 = .ok (.ifCond .lt 23, 3) := by decide +kernel
theorem d_X11_addBytes_7 : decode (mC M_X11_addBytes) 7 = .ok (.aload_n 0, 1) := by decide +kernel
theorem d_X11_addBytes_8 : decode (mC M_X11_addBytes) 8 = .ok (.getfield 39, 3) := by decide +kernel
theorem d_X11_addBytes_11 : decode (mC M_X11_addBytes) 11 = .ok (.iload_n 1, 1) := by decide +kernel
theorem d_X11_addBytes_12 : decode (mC M_X11_addBytes) 12 = .ok (.iload_n 2, 1) := by decide +kernel
theorem d_X11_addBytes_13 : decode (mC M_X11_addBytes) 13 = .ok (.iushr, 1) := by decide +kernel
theorem d_X11_addBytes_14 : decode (mC M_X11_addBytes) 14 = .ok (.sipush 255, 3) := by decide +kernel
theorem d_X11_addBytes_17 : decode (mC M_X11_addBytes) 17 = .ok (.iand, 1) := by decide +kernel
theorem d_X11_addBytes_18 : decode (mC M_X11_addBytes) 18 = .ok (.invokevirtual 225, 3) := by decide +kernel
theorem d_X11_addBytes_21 : decode (mC M_X11_addBytes) 21 = .ok (.iinc 2 (-8), 3) := by decide +kernel
theorem d_X11_addBytes_24 : decode (mC M_X11_addBytes) 24 = .ok (.goto (-21), 3) := by decide +kernel
theorem d_X11_addBytes_27 : decode (mC M_X11_addBytes) 27 = .ok (.return_, 1) := by decide +kernel
theorem d_X11_agree_0 : decode (mC M_X11_agree) 0 = .ok (.aload_n 0, 1) := by decide +kernel
theorem d_X11_agree_1 : decode (mC M_X11_agree) 1 = .ok (.getfield 43, 3) := by decide +kernel
theorem d_X11_agree_4 : decode (mC M_X11_agree) 4 = .ok (.invokevirtual 76, 3) := by decide +kernel
theorem d_X11_agree_7 : decode (mC M_X11_agree) 7 = .ok (.bipush 30, 2) := by decide +kernel
theorem d_X11_agree_9 : decode (mC M_X11_agree) 9 = .ok (.if_icmp .lt 6, 3) := by decide +kernel
theorem d_X11_agree_12 : decode (mC M_X11_agree) 12 = .ok (.bipush (-2), 2) := by decide +kernel
theorem d_X11_agree_14 : decode (mC M_X11_agree) 14 = .ok (.ireturn, 1) := by decide +kernel
theorem d_X11_agree_15 : decode (mC M_X11_agree) 15 = .ok (.new 118, 3) := by decide +kernel
theorem d_X11_agree_18 : decode (mC M_X11_agree) 18 = .ok (.dup, 1) := by decide +kernel
theorem d_X11_agree_19 : decode (mC M_X11_agree) 19 = .ok (.aload_n 0, 1) := by decide +kernel
theorem d_X11_agree_20 : decode (mC M_X11_agree) 20 = .ok (.getfield 43, 3) := by decide +kernel
theorem d_X11_agree_23 : decode (mC M_X11_agree) 23 = .ok (.invokevirtual 76, 3) := by decide +kernel
theorem d_X11_agree_26 : decode (mC M_X11_agree) 26 = .ok (.invokespecial 120, 3) := by decide +kernel
theorem d_X11_agree_29 : decode (mC M_X11_agree) 29 = .ok (.astore_n 1, 1) := by decide +kernel
theorem d_X11_agree_30 : decode (mC M_X11_agree) 30 = .ok (.aload_n 1, 1) := by decide +kernel
theorem d_X11_agree_31 : decode (mC M_X11_agree) 31 = .ok (.aload_n 0, 1) := by decide +kernel
theorem d_X11_agree_32 : decode (mC M_X11_agree) 32 = .ok (.getfield 32, 3) := by decide +kernel
theorem d_X11_agree_35 : decode (mC M_X11_agree) 35 = .ok (.invokevirtual 121, 3) := by decide +kernel
theorem d_X11_agree_38 : decode (mC M_X11_agree) 38 = .ok (.istore_n 2, 1) := by decide +kernel
theorem d_X11_agree_39 : decode (mC M_X11_agree) 39 = .ok (.aload_n 0, 1) := by decide +kernel
theorem d_X11_agree_40 : decode (mC M_X11_agree) 40 = .ok (.getfield 39, 3) := by decide +kernel
theorem d_X11_agree_43 : decode (mC M_X11_agree) 43 = .ok (.iconst 0, 1) := by decide +kernel
theorem d_X11_agree_44 : decode (mC M_X11_agree) 44 = .ok (.putfield 101, 3) := by decide +kernel
theorem d_X11_agree_47 : decode (mC M_X11_agree) 47 = .ok (.iload_n 2, 1) := by decide +kernel
theorem d_X11_agree_48 : decode (mC M_X11_agree) 48 = .ok (.ifCond .ne 14, 3) := by decide +kernel
theorem d_X11_agree_51 : decode (mC M_X11_agree) 51 = .ok (.bipush (-2), 2) := by decide +kernel
theorem d_X11_agree_53 : decode (mC M_X11_agree) 53 = .ok (.aload_n 0, 1) := by decide +kernel
theorem d_X11_agree_54 : decode (mC M_X11_agree) 54 = .ok (.getfield 32, 3) := by decide +kernel
theorem d_X11_agree_57 : decode (mC M_X11_agree) 57 = .ok (.getfield 111, 3) := by decide +kernel
theorem d_X11_agree_60 : decode (mC M_X11_agree) 60 = .ok (.isub, 1) := by decide +kernel
theorem d_X11_agree_61 : decode (mC M_X11_agree) 61 = .ok (.ireturn, 1) := by decide +kernel
theorem d_X11_agree_62 : decode (mC M_X11_agree) 62 = .ok (.aload_n 0, 1) := by decide +kernel
theorem d_X11_agree_63 : decode (mC M_X11_agree) 63 = .ok (.getfield 43, 3) := by decide +kernel
theorem d_X11_agree_66 : decode (mC M_X11_agree) 66 = .ok (.aload_n 1, 1) := by decide +kernel
theorem d_X11_agree_67 : decode (mC M_X11_agree) 67 = .ok (.invokevirtual 85, 3) := by decide +kernel
theorem d_X11_agree_70 : decode (mC M_X11_agree) 70 = .ok (.pop, 1) := by decide +kernel
theorem d_X11_agree_71 : decode (mC M_X11_agree) 71 = .ok (.aload_n 1, 1) := by decide +kernel
theorem d_X11_agree_72 : decode (mC M_X11_agree) 72 = .ok (.getfield 125, 3) := by decide +kernel
theorem d_X11_agree_75 : decode (mC M_X11_agree) 75 = .ok (.ireturn, 1) := by decide +kernel
theorem d_X11_ask_0 : decode (mC M_X11_ask) 0 = .ok (.aload_n 0, 1) := by decide +kernel
theorem d_X11_ask_1 : decode (mC M_X11_ask) 1 = .ok (.getfield 10, 3) := by decide +kernel
theorem d_X11_ask_4 : decode (mC M_X11_ask) 4 = .ok (.iload_n 1, 1) := by decide +kernel
theorem d_X11_ask_5 : decode (mC M_X11_ask) 5 = .ok (.invokevirtual 131, 3) := by decide +kernel
theorem d_X11_ask_8 : decode (mC M_X11_ask) 8 = .ok (.astore_n 3, 1) := by decide +kernel
theorem d_X11_ask_9 : decode (mC M_X11_ask) 9 = .ok (.aload_n 3, 1) := by decide +kernel
theorem d_X11_ask_10 : decode (mC M_X11_ask) 10 = .ok (.ifnonnull 7, 3) := by decide +kernel
theorem d_X11_ask_13 : decode (mC M_X11_ask) 13 = .ok (.iconst (-1), 1) := by decide +kernel
theorem d_X11_ask_14 : decode (mC M_X11_ask) 14 = .ok (.goto 8, 3) := by decide +kernel
theorem d_X11_ask_17 : decode (mC M_X11_ask) 17 = .ok (.aload_n 3, 1) := by decide +kernel
theorem d_X11_ask_18 : decode (mC M_X11_ask) 18 = .ok (.iload_n 2, 1) := by decide +kernel
theorem d_X11_ask_19 : decode (mC M_X11_ask) 19 = .ok (.invokevirtual 230, 3) := by decide +kernel
theorem d_X11_ask_22 : decode (mC M_X11_ask) 22 = .ok (.ireturn, 1) := by decide +kernel
theorem d_X11_asks_0 : decode (mC M_X11_asks) 0 = .ok (.aload_n 0, 1) := by decide +kernel
theorem d_X11_asks_1 : decode (mC M_X11_asks) 1 = .ok (.getfield 24, 3) := by decide +kernel
theorem d_X11_asks_4 : decode (mC M_X11_asks) 4 = .ok (.invokevirtual 107, 3) := by decide +kernel
theorem d_X11_asks_7 : decode (mC M_X11_asks) 7 = .ok (.astore_n 1, 1) := by decide +kernel
theorem d_X11_asks_8 : decode (mC M_X11_asks) 8 = .ok (.aload_n 0, 1) := by decide +kernel
theorem d_X11_asks_9 : decode (mC M_X11_asks) 9 = .ok (.getfield 39, 3) := by decide +kernel
theorem d_X11_asks_12 : decode (mC M_X11_asks) 12 = .ok (.iconst 0, 1) := by decide +kernel
theorem d_X11_asks_13 : decode (mC M_X11_asks) 13 = .ok (.putfield 101, 3) := by decide +kernel
theorem d_X11_asks_16 : decode (mC M_X11_asks) 16 = .ok (.aload_n 1, 1) := by decide +kernel
theorem d_X11_asks_17 : decode (mC M_X11_asks) 17 = .ok (.ifnonnull 14, 3) := by decide +kernel
theorem d_X11_asks_20 : decode (mC M_X11_asks) 20 = .ok (.bipush (-2), 2) := by decide +kernel
theorem d_X11_asks_22 : decode (mC M_X11_asks) 22 = .ok (.aload_n 0, 1) := by decide +kernel
theorem d_X11_asks_23 : decode (mC M_X11_asks) 23 = .ok (.getfield 32, 3) := by decide +kernel
theorem d_X11_asks_26 : decode (mC M_X11_asks) 26 = .ok (.getfield 111, 3) := by decide +kernel
theorem d_X11_asks_29 : decode (mC M_X11_asks) 29 = .ok (.isub, 1) := by decide +kernel
theorem d_X11_asks_30 : decode (mC M_X11_asks) 30 = .ok (.ireturn, 1) := by decide +kernel
theorem d_X11_asks_31 : decode (mC M_X11_asks) 31 = .ok (.aload_n 0, 1) := by decide +kernel
theorem d_X11_asks_32 : decode (mC M_X11_asks) 32 = .ok (.getfield 10, 3) := by decide +kernel
theorem d_X11_asks_35 : decode (mC M_X11_asks) 35 = .ok (.aload_n 1, 1) := by decide +kernel
theorem d_X11_asks_36 : decode (mC M_X11_asks) 36 = .ok (.invokevirtual 114, 3) := by decide +kernel
theorem d_X11_asks_39 : decode (mC M_X11_asks) 39 = .ok (.aload_n 1, 1) := by decide +kernel
theorem d_X11_asks_40 : decode (mC M_X11_asks) 40 = .ok (.invokevirtual 76, 3) := by decide +kernel
theorem d_X11_asks_43 : decode (mC M_X11_asks) 43 = .ok (.ireturn, 1) := by decide +kernel
theorem d_X11_away_0 : decode (mC M_X11_away) 0 = .ok (.aload_n 0, 1) := by decide +kernel
theorem d_X11_away_1 : decode (mC M_X11_away) 1 = .ok (.iload_n 1, 1) := by decide +kernel
theorem d_X11_away_2 : decode (mC M_X11_away) 2 = .ok (.invokevirtual 89, 3) := by decide +kernel
theorem d_X11_away_5 : decode (mC M_X11_away) 5 = .ok (.astore_n 3, 1) := by decide +kernel
theorem d_X11_away_6 : decode (mC M_X11_away) 6 = .ok (.aload_n 3, 1) := by decide +kernel
theorem d_X11_away_7 : decode (mC M_X11_away) 7 = .ok (.ifnull 10, 3) := by decide +kernel
theorem d_X11_away_10 : decode (mC M_X11_away) 10 = .ok (.aload_n 3, 1) := by decide +kernel
theorem d_X11_away_11 : decode (mC M_X11_away) 11 = .ok (.getfield 93, 3) := by decide +kernel
theorem d_X11_away_14 : decode (mC M_X11_away) 14 = .ok (.ifnull 5, 3) := by decide +kernel
theorem d_X11_away_17 : decode (mC M_X11_away) 17 = .ok (.iconst 0, 1) := by decide +kernel
theorem d_X11_away_18 : decode (mC M_X11_away) 18 = .ok (.ireturn, 1) := by decide +kernel
theorem d_X11_away_19 : decode (mC M_X11_away) 19 = .ok (.aload_n 3, 1) := by decide +kernel
theorem d_X11_away_20 : decode (mC M_X11_away) 20 = .ok (.iload_n 2, 1) := by decide +kernel
theorem d_X11_away_21 : decode (mC M_X11_away) 21 = .ok (.putfield 97, 3) := by decide +kernel
theorem d_X11_away_24 : decode (mC M_X11_away) 24 = .ok (.iconst 1, 1) := by decide +kernel
theorem d_X11_away_25 : decode (mC M_X11_away) 25 = .ok (.ireturn, 1) := by decide +kernel
theorem d_X11_buses_0 : decode (mC M_X11_buses) 0 = .ok (.iload_n 1, 1) := by decide +kernel
theorem d_X11_buses_1 : decode (mC M_X11_buses) 1 = .ok (.iconst 0, 1) := by decide +kernel
theorem d_X11_buses_2 : decode (mC M_X11_buses) 2 = .ok (.iconst 3, 1) := by decide +kernel
theorem d_X11_buses_3 : decode (mC M_X11_buses) 3 = .ok (.invokestatic 71, 3) := by decide +kernel
theorem d_X11_buses_6 : decode (mC M_X11_buses) 6 = .ok (.ifCond .eq 13, 3) := by decide +kernel
theorem d_X11_buses_9 : decode (mC M_X11_buses) 9 = .ok (.iload_n 2, 1) := by decide +kernel
theorem d_X11_buses_10 : decode (mC M_X11_buses) 10 = .ok (.iconst 1, 1) := by decide +kernel
theorem d_X11_buses_11 : decode (mC M_X11_buses) 11 = .ok (.bipush 100, 2) := by decide +kernel
theorem d_X11_buses_13 : decode (mC M_X11_buses) 13 = .ok (.invokestatic 71, 3) := by decide +kernel
theorem d_X11_buses_16 : decode (mC M_X11_buses) 16 = .ok (.ifCond .ne 5, 3) := by decide +kernel
theorem d_X11_buses_19 : decode (mC M_X11_buses) 19 = .ok (.iconst (-1), 1) := by decide +kernel
theorem d_X11_buses_20 : decode (mC M_X11_buses) 20 = .ok (.ireturn, 1) := by decide +kernel
theorem d_X11_buses_21 : decode (mC M_X11_buses) 21 = .ok (.iconst 0, 1) := by decide +kernel
theorem d_X11_buses_22 : decode (mC M_X11_buses) 22 = .ok (.istore_n 3, 1) := by decide +kernel
theorem d_X11_buses_23 : decode (mC M_X11_buses) 23 = .ok (.iconst 0, 1) := by decide +kernel
theorem d_X11_buses_24 : decode (mC M_X11_buses) 24 = .ok (.istore 4, 2) := by decide +kernel
theorem d_X11_buses_26 : decode (mC M_X11_buses) 26 = .ok (.iload 4, 2) := by decide +kernel
theorem d_X11_buses_28 : decode (mC M_X11_buses) 28 = .ok (.aload_n 0, 1) := by decide +kernel
theorem d_X11_buses_29 : decode (mC M_X11_buses) 29 = .ok (.getfield 20, 3) := by decide +kernel
theorem d_X11_buses_32 : decode (mC M_X11_buses) 32 = .ok (.invokevirtual 76, 3) := by decide +kernel
theorem d_X11_buses_35 : decode (mC M_X11_buses) 35 = .ok (.if_icmp .ge 43, 3) := by decide +kernel
theorem d_X11_buses_38 : decode (mC M_X11_buses) 38 = .ok (.aload_n 0, 1) := by decide +kernel
theorem d_X11_buses_39 : decode (mC M_X11_buses) 39 = .ok (.getfield 20, 3) := by decide +kernel
theorem d_X11_buses_42 : decode (mC M_X11_buses) 42 = .ok (.iload 4, 2) := by decide +kernel
theorem d_X11_buses_44 : decode (mC M_X11_buses) 44 = .ok (.invokevirtual 215, 3) := by decide +kernel
theorem d_X11_buses_47 : decode (mC M_X11_buses) 47 = .ok (.checkcast 80, 3) := by decide +kernel
theorem d_X11_buses_50 : decode (mC M_X11_buses) 50 = .ok (.astore 5, 2) := by decide +kernel
theorem d_X11_buses_52 : decode (mC M_X11_buses) 52 = .ok (.aload 5, 2) := by decide +kernel
theorem d_X11_buses_54 : decode (mC M_X11_buses) 54 = .ok (.getfield 93, 3) := by decide +kernel
theorem d_X11_buses_57 : decode (mC M_X11_buses) 57 = .ok (.ifnull 15, 3) := by decide +kernel
theorem d_X11_buses_60 : decode (mC M_X11_buses) 60 = .ok (.aload 5, 2) := by decide +kernel
theorem d_X11_buses_62 : decode (mC M_X11_buses) 62 = .ok (.getfield 227, 3) := by decide +kernel
theorem d_X11_buses_65 : decode (mC M_X11_buses) 65 = .ok (.iload_n 1, 1) := by decide +kernel
theorem d_X11_buses_66 : decode (mC M_X11_buses) 66 = .ok (.if_icmp .ne 6, 3) := by decide +kernel
theorem d_X11_buses_69 : decode (mC M_X11_buses) 69 = .ok (.iinc 3 1, 3) := by decide +kernel
theorem d_X11_buses_72 : decode (mC M_X11_buses) 72 = .ok (.iinc 4 1, 3) := by decide +kernel
theorem d_X11_buses_75 : decode (mC M_X11_buses) 75 = .ok (.goto (-49), 3) := by decide +kernel
theorem d_X11_buses_78 : decode (mC M_X11_buses) 78 = .ok (.iload_n 3, 1) := by decide +kernel
theorem d_X11_buses_79 : decode (mC M_X11_buses) 79 = .ok (.iload_n 2, 1) := by decide +kernel
theorem d_X11_buses_80 : decode (mC M_X11_buses) 80 = .ok (.iadd, 1) := by decide +kernel
theorem d_X11_buses_81 : decode (mC M_X11_buses) 81 = .ok (.iconst 1, 1) := by decide +kernel
theorem d_X11_buses_82 : decode (mC M_X11_buses) 82 = .ok (.isub, 1) := by decide +kernel
theorem d_X11_buses_83 : decode (mC M_X11_buses) 83 = .ok (.iload_n 2, 1) := by decide +kernel
theorem d_X11_buses_84 : decode (mC M_X11_buses) 84 = .ok (.idiv, 1) := by decide +kernel
theorem d_X11_buses_85 : decode (mC M_X11_buses) 85 = .ok (.ireturn, 1) := by decide +kernel
theorem d_X11_called_0 : decode (mC M_X11_called) 0 = .ok (.aload_n 0, 1) := by decide +kernel
theorem d_X11_called_1 : decode (mC M_X11_called) 1 = .ok (.iload_n 1, 1) := by decide +kernel
theorem d_X11_called_2 : decode (mC M_X11_called) 2 = .ok (.invokevirtual 89, 3) := by decide +kernel
theorem d_X11_called_5 : decode (mC M_X11_called) 5 = .ok (.astore_n 2, 1) := by decide +kernel
theorem d_X11_called_6 : decode (mC M_X11_called) 6 = .ok (.aload_n 2, 1) := by decide +kernel
theorem d_X11_called_7 : decode (mC M_X11_called) 7 = .ok (.ifnull 10, 3) := by decide +kernel
theorem d_X11_called_10 : decode (mC M_X11_called) 10 = .ok (.aload_n 2, 1) := by decide +kernel
theorem d_X11_called_11 : decode (mC M_X11_called) 11 = .ok (.getfield 93, 3) := by decide +kernel
theorem d_X11_called_14 : decode (mC M_X11_called) 14 = .ok (.ifnonnull 7, 3) := by decide +kernel
theorem d_X11_called_17 : decode (mC M_X11_called) 17 = .ok (.iconst (-1), 1) := by decide +kernel
theorem d_X11_called_18 : decode (mC M_X11_called) 18 = .ok (.goto 10, 3) := by decide +kernel
theorem d_X11_called_21 : decode (mC M_X11_called) 21 = .ok (.aload_n 2, 1) := by decide +kernel
theorem d_X11_called_22 : decode (mC M_X11_called) 22 = .ok (.getfield 93, 3) := by decide +kernel
theorem d_X11_called_25 : decode (mC M_X11_called) 25 = .ok (.getfield 158, 3) := by decide +kernel
theorem d_X11_called_28 : decode (mC M_X11_called) 28 = .ok (.ireturn, 1) := by decide +kernel
theorem d_X11_count_0 : decode (mC M_X11_count) 0 = .ok (.iload_n 1, 1) := by decide +kernel
theorem d_X11_count_1 : decode (mC M_X11_count) 1 = .ok (.tableswitch 111 0 7 #[47, 55, 66, 74, 82, 87, 95, 103], 47) := by decide +kernel
theorem d_X11_count_48 : decode (mC M_X11_count) 48 = .ok (.aload_n 0, 1) := by decide +kernel
theorem d_X11_count_49 : decode (mC M_X11_count) 49 = .ok (.getfield 20, 3) := by decide +kernel
theorem d_X11_count_52 : decode (mC M_X11_count) 52 = .ok (.invokevirtual 76, 3) := by decide +kernel
theorem d_X11_count_55 : decode (mC M_X11_count) 55 = .ok (.ireturn, 1) := by decide +kernel
theorem d_X11_count_56 : decode (mC M_X11_count) 56 = .ok (.aload_n 0, 1) := by decide +kernel
theorem d_X11_count_57 : decode (mC M_X11_count) 57 = .ok (.getfield 10, 3) := by decide +kernel
theorem d_X11_count_60 : decode (mC M_X11_count) 60 = .ok (.getfield 147, 3) := by decide +kernel
theorem d_X11_count_63 : decode (mC M_X11_count) 63 = .ok (.invokevirtual 76, 3) := by decide +kernel
theorem d_X11_count_66 : decode (mC M_X11_count) 66 = .ok (.ireturn, 1) := by decide +kernel
theorem d_X11_count_67 : decode (mC M_X11_count) 67 = .ok (.aload_n 0, 1) := by decide +kernel
theorem d_X11_count_68 : decode (mC M_X11_count) 68 = .ok (.getfield 43, 3) := by decide +kernel
theorem d_X11_count_71 : decode (mC M_X11_count) 71 = .ok (.invokevirtual 76, 3) := by decide +kernel
theorem d_X11_count_74 : decode (mC M_X11_count) 74 = .ok (.ireturn, 1) := by decide +kernel
theorem d_X11_count_75 : decode (mC M_X11_count) 75 = .ok (.aload_n 0, 1) := by decide +kernel
theorem d_X11_count_76 : decode (mC M_X11_count) 76 = .ok (.getfield 49, 3) := by decide +kernel
theorem d_X11_count_79 : decode (mC M_X11_count) 79 = .ok (.invokevirtual 203, 3) := by decide +kernel
theorem d_X11_count_82 : decode (mC M_X11_count) 82 = .ok (.ireturn, 1) := by decide +kernel
theorem d_X11_count_83 : decode (mC M_X11_count) 83 = .ok (.aload_n 0, 1) := by decide +kernel
theorem d_X11_count_84 : decode (mC M_X11_count) 84 = .ok (.getfield 140, 3) := by decide +kernel
theorem d_X11_count_87 : decode (mC M_X11_count) 87 = .ok (.ireturn, 1) := by decide +kernel
theorem d_X11_count_88 : decode (mC M_X11_count) 88 = .ok (.aload_n 0, 1) := by decide +kernel
theorem d_X11_count_89 : decode (mC M_X11_count) 89 = .ok (.getfield 10, 3) := by decide +kernel
theorem d_X11_count_92 : decode (mC M_X11_count) 92 = .ok (.invokevirtual 157, 3) := by decide +kernel
theorem d_X11_count_95 : decode (mC M_X11_count) 95 = .ok (.ireturn, 1) := by decide +kernel
theorem d_X11_count_96 : decode (mC M_X11_count) 96 = .ok (.aload_n 0, 1) := by decide +kernel
theorem d_X11_count_97 : decode (mC M_X11_count) 97 = .ok (.getfield 39, 3) := by decide +kernel
theorem d_X11_count_100 : decode (mC M_X11_count) 100 = .ok (.getfield 101, 3) := by decide +kernel
theorem d_X11_count_103 : decode (mC M_X11_count) 103 = .ok (.ireturn, 1) := by decide +kernel
theorem d_X11_count_104 : decode (mC M_X11_count) 104 = .ok (.aload_n 0, 1) := by decide +kernel
theorem d_X11_count_105 : decode (mC M_X11_count) 105 = .ok (.getfield 60, 3) := by decide +kernel
theorem d_X11_count_108 : decode (mC M_X11_count) 108 = .ok (.invokevirtual 76, 3) := by decide +kernel
theorem d_X11_count_111 : decode (mC M_X11_count) 111 = .ok (.ireturn, 1) := by decide +kernel
theorem d_X11_count_112 : decode (mC M_X11_count) 112 = .ok (.iconst (-1), 1) := by decide +kernel
theorem d_X11_count_113 : decode (mC M_X11_count) 113 = .ok (.ireturn, 1) := by decide +kernel
theorem d_X11_end_0 : decode (mC M_X11_end) 0 = .ok (.iload_n 1, 1) := by decide +kernel
theorem d_X11_end_1 : decode (mC M_X11_end) 1 = .ok (.iconst 0, 1) := by decide +kernel
theorem d_X11_end_2 : decode (mC M_X11_end) 2 = .ok (.aload_n 0, 1) := by decide +kernel
theorem d_X11_end_3 : decode (mC M_X11_end) 3 = .ok (.getfield 39, 3) := by decide +kernel
theorem d_X11_end_6 : decode (mC M_X11_end) 6 = .ok (.getfield 101, 3) := by decide +kernel
theorem d_X11_end_9 : decode (mC M_X11_end) 9 = .ok (.invokestatic 71, 3) := by decide +kernel
theorem d_X11_end_12 : decode (mC M_X11_end) 12 = .ok (.ifCond .ne 5, 3) := by decide +kernel
theorem d_X11_end_15 : decode (mC M_X11_end) 15 = .ok (.iconst (-1), 1) := by decide +kernel
theorem d_X11_end_16 : decode (mC M_X11_end) 16 = .ok (.ireturn, 1) := by decide +kernel
theorem d_X11_end_17 : decode (mC M_X11_end) 17 = .ok (.aload_n 0, 1) := by decide +kernel
theorem d_X11_end_18 : decode (mC M_X11_end) 18 = .ok (.getfield 39, 3) := by decide +kernel
theorem d_X11_end_21 : decode (mC M_X11_end) 21 = .ok (.iload_n 1, 1) := by decide +kernel
theorem d_X11_end_22 : decode (mC M_X11_end) 22 = .ok (.putfield 101, 3) := by decide +kernel
theorem d_X11_end_25 : decode (mC M_X11_end) 25 = .ok (.iload_n 1, 1) := by decide +kernel
theorem d_X11_end_26 : decode (mC M_X11_end) 26 = .ok (.ireturn, 1) := by decide +kernel
theorem d_X11_feed_0 : decode (mC M_X11_feed) 0 = .ok (.aload_n 0, 1) := by decide +kernel
theorem d_X11_feed_1 : decode (mC M_X11_feed) 1 = .ok (.getfield 39, 3) := by decide +kernel
theorem d_X11_feed_4 : decode (mC M_X11_feed) 4 = .ok (.getfield 101, 3) := by decide +kernel
theorem d_X11_feed_7 : decode (mC M_X11_feed) 7 = .ok (.bipush 20, 2) := by decide +kernel
theorem d_X11_feed_9 : decode (mC M_X11_feed) 9 = .ok (.iadd, 1) := by decide +kernel
theorem d_X11_feed_10 : decode (mC M_X11_feed) 10 = .ok (.sipush 1000, 3) := by decide +kernel
theorem d_X11_feed_13 : decode (mC M_X11_feed) 13 = .ok (.if_icmp .le 5, 3) := by decide +kernel
theorem d_X11_feed_16 : decode (mC M_X11_feed) 16 = .ok (.iconst (-1), 1) := by decide +kernel
theorem d_X11_feed_17 : decode (mC M_X11_feed) 17 = .ok (.ireturn, 1) := by decide +kernel
theorem d_X11_feed_18 : decode (mC M_X11_feed) 18 = .ok (.aload_n 0, 1) := by decide +kernel
theorem d_X11_feed_19 : decode (mC M_X11_feed) 19 = .ok (.iload_n 1, 1) := by decide +kernel
theorem d_X11_feed_20 : decode (mC M_X11_feed) 20 = .ok (.invokevirtual 104, 3) := by decide +kernel
theorem d_X11_feed_23 : decode (mC M_X11_feed) 23 = .ok (.aload_n 0, 1) := by decide +kernel
theorem d_X11_feed_24 : decode (mC M_X11_feed) 24 = .ok (.iload_n 2, 1) := by decide +kernel
theorem d_X11_feed_25 : decode (mC M_X11_feed) 25 = .ok (.invokevirtual 104, 3) := by decide +kernel
theorem d_X11_feed_28 : decode (mC M_X11_feed) 28 = .ok (.aload_n 0, 1) := by decide +kernel
theorem d_X11_feed_29 : decode (mC M_X11_feed) 29 = .ok (.iload_n 3, 1) := by decide +kernel
theorem d_X11_feed_30 : decode (mC M_X11_feed) 30 = .ok (.invokevirtual 104, 3) := by decide +kernel
theorem d_X11_feed_33 : decode (mC M_X11_feed) 33 = .ok (.aload_n 0, 1) := by decide +kernel
theorem d_X11_feed_34 : decode (mC M_X11_feed) 34 = .ok (.iload 4, 2) := by decide +kernel
theorem d_X11_feed_36 : decode (mC M_X11_feed) 36 = .ok (.invokevirtual 104, 3) := by decide +kernel
theorem d_X11_feed_39 : decode (mC M_X11_feed) 39 = .ok (.aload_n 0, 1) := by decide +kernel
theorem d_X11_feed_40 : decode (mC M_X11_feed) 40 = .ok (.iload 5, 2) := by decide +kernel
theorem d_X11_feed_42 : decode (mC M_X11_feed) 42 = .ok (.invokevirtual 104, 3) := by decide +kernel
theorem d_X11_feed_45 : decode (mC M_X11_feed) 45 = .ok (.aload_n 0, 1) := by decide +kernel
theorem d_X11_feed_46 : decode (mC M_X11_feed) 46 = .ok (.getfield 39, 3) := by decide +kernel
theorem d_X11_feed_49 : decode (mC M_X11_feed) 49 = .ok (.getfield 101, 3) := by decide +kernel
theorem d_X11_feed_52 : decode (mC M_X11_feed) 52 = .ok (.ireturn, 1) := by decide +kernel
theorem d_X11_find_0 : decode (mC M_X11_find) 0 = .ok (.iload_n 1, 1) := by decide +kernel
theorem d_X11_find_1 : decode (mC M_X11_find) 1 = .ok (.ifCond .lt 28, 3) := by decide +kernel
theorem d_X11_find_4 : decode (mC M_X11_find) 4 = .ok (.iload_n 1, 1) := by decide +kernel
theorem d_X11_find_5 : decode (mC M_X11_find) 5 = .ok (.aload_n 0, 1) := by decide +kernel
theorem d_X11_find_6 : decode (mC M_X11_find) 6 = .ok (.getfield 20, 3) := by decide +kernel
theorem d_X11_find_9 : decode (mC M_X11_find) 9 = .ok (.invokevirtual 76, 3) := by decide +kernel
theorem d_X11_find_12 : decode (mC M_X11_find) 12 = .ok (.if_icmp .ge 17, 3) := by decide +kernel
theorem d_X11_find_15 : decode (mC M_X11_find) 15 = .ok (.aload_n 0, 1) := by decide +kernel
theorem d_X11_find_16 : decode (mC M_X11_find) 16 = .ok (.getfield 20, 3) := by decide +kernel
theorem d_X11_find_19 : decode (mC M_X11_find) 19 = .ok (.iload_n 1, 1) := by decide +kernel
theorem d_X11_find_20 : decode (mC M_X11_find) 20 = .ok (.invokevirtual 215, 3) := by decide +kernel
theorem d_X11_find_23 : decode (mC M_X11_find) 23 = .ok (.checkcast 80, 3) := by decide +kernel
theorem d_X11_find_26 : decode (mC M_X11_find) 26 = .ok (.goto 4, 3) := by decide +kernel
theorem d_X11_find_29 : decode (mC M_X11_find) 29 = .ok (.aconst_null, 1) := by decide +kernel
theorem d_X11_find_30 : decode (mC M_X11_find) 30 = .ok (.areturn, 1) := by decide +kernel
theorem d_X11_findRecord_0 : decode (mC M_X11_findRecord) 0 = .ok (.iconst 0, 1) := by decide +kernel
theorem d_X11_findRecord_1 : decode (mC M_X11_findRecord) 1 = .ok (.istore_n 3, 1) := by decide +kernel
theorem d_X11_findRecord_2 : decode (mC M_X11_findRecord) 2 = .ok (.iload_n 3, 1) := by decide +kernel
theorem d_X11_findRecord_3 : decode (mC M_X11_findRecord) 3 = .ok (.aload_n 0, 1) := by decide +kernel
theorem d_X11_findRecord_4 : decode (mC M_X11_findRecord) 4 = .ok (.getfield 60, 3) := by decide +kernel
theorem d_X11_findRecord_7 : decode (mC M_X11_findRecord) 7 = .ok (.invokevirtual 76, 3) := by decide +kernel
theorem d_X11_findRecord_10 : decode (mC M_X11_findRecord) 10 = .ok (.if_icmp .ge 46, 3) := by decide +kernel
theorem d_X11_findRecord_13 : decode (mC M_X11_findRecord) 13 = .ok (.aload_n 0, 1) := by decide +kernel
theorem d_X11_findRecord_14 : decode (mC M_X11_findRecord) 14 = .ok (.getfield 60, 3) := by decide +kernel
theorem d_X11_findRecord_17 : decode (mC M_X11_findRecord) 17 = .ok (.iload_n 3, 1) := by decide +kernel
theorem d_X11_findRecord_18 : decode (mC M_X11_findRecord) 18 = .ok (.invokevirtual 215, 3) := by decide +kernel
theorem d_X11_findRecord_21 : decode (mC M_X11_findRecord) 21 = .ok (.checkcast 189, 3) := by decide +kernel
theorem d_X11_findRecord_24 : decode (mC M_X11_findRecord) 24 = .ok (.astore 4, 2) := by decide +kernel
theorem d_X11_findRecord_26 : decode (mC M_X11_findRecord) 26 = .ok (.aload 4, 2) := by decide +kernel
theorem d_X11_findRecord_28 : decode (mC M_X11_findRecord) 28 = .ok (.getfield 232, 3) := by decide +kernel
theorem d_X11_findRecord_31 : decode (mC M_X11_findRecord) 31 = .ok (.getfield 236, 3) := by decide +kernel
theorem d_X11_findRecord_34 : decode (mC M_X11_findRecord) 34 = .ok (.iload_n 1, 1) := by decide +kernel
theorem d_X11_findRecord_35 : decode (mC M_X11_findRecord) 35 = .ok (.if_icmp .ne 15, 3) := by decide +kernel
theorem d_X11_findRecord_38 : decode (mC M_X11_findRecord) 38 = .ok (.aload 4, 2) := by decide +kernel
theorem d_X11_findRecord_40 : decode (mC M_X11_findRecord) 40 = .ok (.getfield 237, 3) := by decide +kernel
theorem d_X11_findRecord_43 : decode (mC M_X11_findRecord) 43 = .ok (.iload_n 2, 1) := by decide +kernel
theorem d_X11_findRecord_44 : decode (mC M_X11_findRecord) 44 = .ok (.if_icmp .ne 6, 3) := by decide +kernel
theorem d_X11_findRecord_47 : decode (mC M_X11_findRecord) 47 = .ok (.aload 4, 2) := by decide +kernel
theorem d_X11_findRecord_49 : decode (mC M_X11_findRecord) 49 = .ok (.areturn, 1) := by decide +kernel
theorem d_X11_findRecord_50 : decode (mC M_X11_findRecord) 50 = .ok (.iinc 3 1, 3) := by decide +kernel
theorem d_X11_findRecord_53 : decode (mC M_X11_findRecord) 53 = .ok (.goto (-51), 3) := by decide +kernel
theorem d_X11_findRecord_56 : decode (mC M_X11_findRecord) 56 = .ok (.aconst_null, 1) := by decide +kernel
theorem d_X11_findRecord_57 : decode (mC M_X11_findRecord) 57 = .ok (.areturn, 1) := by decide +kernel
theorem d_X11_fits_0 : decode (mC M_X11_fits) 0 = .ok (.aload_n 0, 1) := by decide +kernel
theorem d_X11_fits_1 : decode (mC M_X11_fits) 1 = .ok (.iload_n 1, 1) := by decide +kernel
theorem d_X11_fits_2 : decode (mC M_X11_fits) 2 = .ok (.invokevirtual 89, 3) := by decide +kernel
theorem d_X11_fits_5 : decode (mC M_X11_fits) 5 = .ok (.astore 4, 2) := by decide +kernel
theorem d_X11_fits_7 : decode (mC M_X11_fits) 7 = .ok (.aload_n 0, 1) := by decide +kernel
theorem d_X11_fits_8 : decode (mC M_X11_fits) 8 = .ok (.getfield 10, 3) := by decide +kernel
theorem d_X11_fits_11 : decode (mC M_X11_fits) 11 = .ok (.iload_n 2, 1) := by decide +kernel
theorem d_X11_fits_12 : decode (mC M_X11_fits) 12 = .ok (.invokevirtual 131, 3) := by decide +kernel
theorem d_X11_fits_15 : decode (mC M_X11_fits) 15 = .ok (.astore 5, 2) := by decide +kernel
theorem d_X11_fits_17 : decode (mC M_X11_fits) 17 = .ok (.aload 4, 2) := by decide +kernel
theorem d_X11_fits_19 : decode (mC M_X11_fits) 19 = .ok (.ifnull 17, 3) := by decide +kernel
theorem d_X11_fits_22 : decode (mC M_X11_fits) 22 = .ok (.aload 5, 2) := by decide +kernel
theorem d_X11_fits_24 : decode (mC M_X11_fits) 24 = .ok (.ifnull 12, 3) := by decide +kernel
theorem d_X11_fits_27 : decode (mC M_X11_fits) 27 = .ok (.iload_n 3, 1) := by decide +kernel
theorem d_X11_fits_28 : decode (mC M_X11_fits) 28 = .ok (.iconst 0, 1) := by decide +kernel
theorem d_X11_fits_29 : decode (mC M_X11_fits) 29 = .ok (.iconst 1, 1) := by decide +kernel
theorem d_X11_fits_30 : decode (mC M_X11_fits) 30 = .ok (.invokestatic 71, 3) := by decide +kernel
theorem d_X11_fits_33 : decode (mC M_X11_fits) 33 = .ok (.ifCond .ne 5, 3) := by decide +kernel
theorem d_X11_fits_36 : decode (mC M_X11_fits) 36 = .ok (.iconst (-1), 1) := by decide +kernel
theorem d_X11_fits_37 : decode (mC M_X11_fits) 37 = .ok (.ireturn, 1) := by decide +kernel
theorem d_X11_fits_38 : decode (mC M_X11_fits) 38 = .ok (.iload_n 3, 1) := by decide +kernel
theorem d_X11_fits_39 : decode (mC M_X11_fits) 39 = .ok (.ifCond .ne 13, 3) := by decide +kernel
theorem d_X11_fits_42 : decode (mC M_X11_fits) 42 = .ok (.aload 5, 2) := by decide +kernel
theorem d_X11_fits_44 : decode (mC M_X11_fits) 44 = .ok (.aload 4, 2) := by decide +kernel
theorem d_X11_fits_46 : decode (mC M_X11_fits) 46 = .ok (.invokevirtual 134, 3) := by decide +kernel
theorem d_X11_fits_49 : decode (mC M_X11_fits) 49 = .ok (.goto 14, 3) := by decide +kernel
theorem d_X11_fits_52 : decode (mC M_X11_fits) 52 = .ok (.aload 5, 2) := by decide +kernel
theorem d_X11_fits_54 : decode (mC M_X11_fits) 54 = .ok (.aload 4, 2) := by decide +kernel
theorem d_X11_fits_56 : decode (mC M_X11_fits) 56 = .ok (.aload_n 0, 1) := by decide +kernel
theorem d_X11_fits_57 : decode (mC M_X11_fits) 57 = .ok (.getfield 140, 3) := by decide +kernel
theorem d_X11_fits_60 : decode (mC M_X11_fits) 60 = .ok (.invokevirtual 143, 3) := by decide +kernel
theorem d_X11_fits_63 : decode (mC M_X11_fits) 63 = .ok (.istore 6, 2) := by decide +kernel
theorem d_X11_fits_65 : decode (mC M_X11_fits) 65 = .ok (.iload 6, 2) := by decide +kernel
theorem d_X11_fits_67 : decode (mC M_X11_fits) 67 = .ok (.ifCond .eq 7, 3) := by decide +kernel
theorem d_X11_fits_70 : decode (mC M_X11_fits) 70 = .ok (.iconst 1, 1) := by decide +kernel
theorem d_X11_fits_71 : decode (mC M_X11_fits) 71 = .ok (.goto 4, 3) := by decide +kernel
theorem d_X11_fits_74 : decode (mC M_X11_fits) 74 = .ok (.iconst 0, 1) := by decide +kernel
theorem d_X11_fits_75 : decode (mC M_X11_fits) 75 = .ok (.ireturn, 1) := by decide +kernel
theorem d_X11_init_0 : decode (mC M_X11_init) 0 = .ok (.aload_n 0, 1) := by decide +kernel
theorem d_X11_init_1 : decode (mC M_X11_init) 1 = .ok (.invokespecial 1, 3) := by decide +kernel
theorem d_X11_init_4 : decode (mC M_X11_init) 4 = .ok (.aload_n 0, 1) := by decide +kernel
theorem d_X11_init_5 : decode (mC M_X11_init) 5 = .ok (.new 7, 3) := by decide +kernel
theorem d_X11_init_8 : decode (mC M_X11_init) 8 = .ok (.dup, 1) := by decide +kernel
theorem d_X11_init_9 : decode (mC M_X11_init) 9 = .ok (.invokespecial 9, 3) := by decide +kernel
theorem d_X11_init_12 : decode (mC M_X11_init) 12 = .ok (.putfield 10, 3) := by decide +kernel
theorem d_X11_init_15 : decode (mC M_X11_init) 15 = .ok (.aload_n 0, 1) := by decide +kernel
theorem d_X11_init_16 : decode (mC M_X11_init) 16 = .ok (.aload_n 0, 1) := by decide +kernel
theorem d_X11_init_17 : decode (mC M_X11_init) 17 = .ok (.getfield 10, 3) := by decide +kernel
theorem d_X11_init_20 : decode (mC M_X11_init) 20 = .ok (.getfield 16, 3) := by decide +kernel
theorem d_X11_init_23 : decode (mC M_X11_init) 23 = .ok (.putfield 20, 3) := by decide +kernel
theorem d_X11_init_26 : decode (mC M_X11_init) 26 = .ok (.aload_n 0, 1) := by decide +kernel
theorem d_X11_init_27 : decode (mC M_X11_init) 27 = .ok (.new 21, 3) := by decide +kernel
theorem d_X11_init_30 : decode (mC M_X11_init) 30 = .ok (.dup, 1) := by decide +kernel
theorem d_X11_init_31 : decode (mC M_X11_init) 31 = .ok (.invokespecial 23, 3) := by decide +kernel
theorem d_X11_init_34 : decode (mC M_X11_init) 34 = .ok (.putfield 24, 3) := by decide +kernel
theorem d_X11_init_37 : decode (mC M_X11_init) 37 = .ok (.aload_n 0, 1) := by decide +kernel
theorem d_X11_init_38 : decode (mC M_X11_init) 38 = .ok (.aload_n 0, 1) := by decide +kernel
theorem d_X11_init_39 : decode (mC M_X11_init) 39 = .ok (.getfield 24, 3) := by decide +kernel
theorem d_X11_init_42 : decode (mC M_X11_init) 42 = .ok (.getfield 28, 3) := by decide +kernel
theorem d_X11_init_45 : decode (mC M_X11_init) 45 = .ok (.putfield 32, 3) := by decide +kernel
theorem d_X11_init_48 : decode (mC M_X11_init) 48 = .ok (.aload_n 0, 1) := by decide +kernel
theorem d_X11_init_49 : decode (mC M_X11_init) 49 = .ok (.aload_n 0, 1) := by decide +kernel
theorem d_X11_init_50 : decode (mC M_X11_init) 50 = .ok (.getfield 32, 3) := by decide +kernel
theorem d_X11_init_53 : decode (mC M_X11_init) 53 = .ok (.getfield 33, 3) := by decide +kernel
theorem d_X11_init_56 : decode (mC M_X11_init) 56 = .ok (.putfield 39, 3) := by decide +kernel
theorem d_X11_init_59 : decode (mC M_X11_init) 59 = .ok (.aload_n 0, 1) := by decide +kernel
theorem d_X11_init_60 : decode (mC M_X11_init) 60 = .ok (.new 40, 3) := by decide +kernel
theorem d_X11_init_63 : decode (mC M_X11_init) 63 = .ok (.dup, 1) := by decide +kernel
theorem d_X11_init_64 : decode (mC M_X11_init) 64 = .ok (.invokespecial 42, 3) := by decide +kernel
theorem d_X11_init_67 : decode (mC M_X11_init) 67 = .ok (.putfield 43, 3) := by decide +kernel
theorem d_X11_init_70 : decode (mC M_X11_init) 70 = .ok (.aload_n 0, 1) := by decide +kernel
theorem d_X11_init_71 : decode (mC M_X11_init) 71 = .ok (.new 46, 3) := by decide +kernel
theorem d_X11_init_74 : decode (mC M_X11_init) 74 = .ok (.dup, 1) := by decide +kernel
theorem d_X11_init_75 : decode (mC M_X11_init) 75 = .ok (.invokespecial 48, 3) := by decide +kernel
theorem d_X11_init_78 : decode (mC M_X11_init) 78 = .ok (.putfield 49, 3) := by decide +kernel
theorem d_X11_init_81 : decode (mC M_X11_init) 81 = .ok (.aload_n 0, 1) := by decide +kernel
theorem d_X11_init_82 : decode (mC M_X11_init) 82 = .ok (.new 53, 3) := by decide +kernel
theorem d_X11_init_85 : decode (mC M_X11_init) 85 = .ok (.dup, 1) := by decide +kernel
theorem d_X11_init_86 : decode (mC M_X11_init) 86 = .ok (.invokespecial 55, 3) := by decide +kernel
theorem d_X11_init_89 : decode (mC M_X11_init) 89 = .ok (.putfield 56, 3) := by decide +kernel
theorem d_X11_init_92 : decode (mC M_X11_init) 92 = .ok (.aload_n 0, 1) := by decide +kernel
theorem d_X11_init_93 : decode (mC M_X11_init) 93 = .ok (.new 40, 3) := by decide +kernel
theorem d_X11_init_96 : decode (mC M_X11_init) 96 = .ok (.dup, 1) := by decide +kernel
theorem d_X11_init_97 : decode (mC M_X11_init) 97 = .ok (.invokespecial 42, 3) := by decide +kernel
theorem d_X11_init_100 : decode (mC M_X11_init) 100 = .ok (.putfield 60, 3) := by decide +kernel
theorem d_X11_init_103 : decode (mC M_X11_init) 103 = .ok (.aload_n 0, 1) := by decide +kernel
theorem d_X11_init_104 : decode (mC M_X11_init) 104 = .ok (.new 63, 3) := by decide +kernel
theorem d_X11_init_107 : decode (mC M_X11_init) 107 = .ok (.dup, 1) := by decide +kernel
theorem d_X11_init_108 : decode (mC M_X11_init) 108 = .ok (.bipush 40, 2) := by decide +kernel
theorem d_X11_init_110 : decode (mC M_X11_init) 110 = .ok (.invokespecial 65, 3) := by decide +kernel
theorem d_X11_init_113 : decode (mC M_X11_init) 113 = .ok (.putfield 68, 3) := by decide +kernel
theorem d_X11_init_116 : decode (mC M_X11_init) 116 = .ok (.return_, 1) := by decide +kernel
theorem d_X11_isScene_0 : decode (mC M_X11_isScene) 0 = .ok (.iload_n 0, 1) := by decide +kernel
theorem d_X11_isScene_1 : decode (mC M_X11_isScene) 1 = .ok (.iconst 0, 1) := by decide +kernel
theorem d_X11_isScene_2 : decode (mC M_X11_isScene) 2 = .ok (.bipush 19, 2) := by decide +kernel
theorem d_X11_isScene_4 : decode (mC M_X11_isScene) 4 = .ok (.invokestatic 71, 3) := by decide +kernel
theorem d_X11_isScene_7 : decode (mC M_X11_isScene) 7 = .ok (.ireturn, 1) := by decide +kernel
theorem d_X11_lacks_0 : decode (mC M_X11_lacks) 0 = .ok (.aload_n 0, 1) := by decide +kernel
theorem d_X11_lacks_1 : decode (mC M_X11_lacks) 1 = .ok (.getfield 68, 3) := by decide +kernel
theorem d_X11_lacks_4 : decode (mC M_X11_lacks) 4 = .ok (.iload_n 1, 1) := by decide +kernel
theorem d_X11_lacks_5 : decode (mC M_X11_lacks) 5 = .ok (.invokevirtual 170, 3) := by decide +kernel
theorem d_X11_lacks_8 : decode (mC M_X11_lacks) 8 = .ok (.ireturn, 1) := by decide +kernel
theorem d_X11_lay_0 : decode (mC M_X11_lay) 0 = .ok (.aload_n 0, 1) := by decide +kernel
theorem d_X11_lay_1 : decode (mC M_X11_lay) 1 = .ok (.getfield 10, 3) := by decide +kernel
theorem d_X11_lay_4 : decode (mC M_X11_lay) 4 = .ok (.getfield 147, 3) := by decide +kernel
theorem d_X11_lay_7 : decode (mC M_X11_lay) 7 = .ok (.invokevirtual 150, 3) := by decide +kernel
theorem d_X11_lay_10 : decode (mC M_X11_lay) 10 = .ok (.ifCond .eq 5, 3) := by decide +kernel
theorem d_X11_lay_13 : decode (mC M_X11_lay) 13 = .ok (.iconst (-1), 1) := by decide +kernel
theorem d_X11_lay_14 : decode (mC M_X11_lay) 14 = .ok (.ireturn, 1) := by decide +kernel
theorem d_X11_lay_15 : decode (mC M_X11_lay) 15 = .ok (.aload_n 0, 1) := by decide +kernel
theorem d_X11_lay_16 : decode (mC M_X11_lay) 16 = .ok (.getfield 10, 3) := by decide +kernel
theorem d_X11_lay_19 : decode (mC M_X11_lay) 19 = .ok (.aload_n 0, 1) := by decide +kernel
theorem d_X11_lay_20 : decode (mC M_X11_lay) 20 = .ok (.getfield 140, 3) := by decide +kernel
theorem d_X11_lay_23 : decode (mC M_X11_lay) 23 = .ok (.invokevirtual 154, 3) := by decide +kernel
theorem d_X11_lay_26 : decode (mC M_X11_lay) 26 = .ok (.aload_n 0, 1) := by decide +kernel
theorem d_X11_lay_27 : decode (mC M_X11_lay) 27 = .ok (.getfield 10, 3) := by decide +kernel
theorem d_X11_lay_30 : decode (mC M_X11_lay) 30 = .ok (.invokevirtual 157, 3) := by decide +kernel
theorem d_X11_lay_33 : decode (mC M_X11_lay) 33 = .ok (.ireturn, 1) := by decide +kernel
theorem d_X11_moved_0 : decode (mC M_X11_moved) 0 = .ok (.aload_n 0, 1) := by decide +kernel
theorem d_X11_moved_1 : decode (mC M_X11_moved) 1 = .ok (.getfield 10, 3) := by decide +kernel
theorem d_X11_moved_4 : decode (mC M_X11_moved) 4 = .ok (.getfield 167, 3) := by decide +kernel
theorem d_X11_moved_7 : decode (mC M_X11_moved) 7 = .ok (.iload_n 1, 1) := by decide +kernel
theorem d_X11_moved_8 : decode (mC M_X11_moved) 8 = .ok (.invokevirtual 170, 3) := by decide +kernel
theorem d_X11_moved_11 : decode (mC M_X11_moved) 11 = .ok (.ireturn, 1) := by decide +kernel
theorem d_X11_no_0 : decode (mC M_X11_no) 0 = .ok (.aload_n 0, 1) := by decide +kernel
theorem d_X11_no_1 : decode (mC M_X11_no) 1 = .ok (.iload_n 1, 1) := by decide +kernel
theorem d_X11_no_2 : decode (mC M_X11_no) 2 = .ok (.invokevirtual 89, 3) := by decide +kernel
theorem d_X11_no_5 : decode (mC M_X11_no) 5 = .ok (.astore_n 2, 1) := by decide +kernel
theorem d_X11_no_6 : decode (mC M_X11_no) 6 = .ok (.aload_n 2, 1) := by decide +kernel
theorem d_X11_no_7 : decode (mC M_X11_no) 7 = .ok (.ifnull 10, 3) := by decide +kernel
theorem d_X11_no_10 : decode (mC M_X11_no) 10 = .ok (.aload_n 2, 1) := by decide +kernel
theorem d_X11_no_11 : decode (mC M_X11_no) 11 = .ok (.getfield 93, 3) := by decide +kernel
theorem d_X11_no_14 : decode (mC M_X11_no) 14 = .ok (.ifnonnull 5, 3) := by decide +kernel
theorem d_X11_no_17 : decode (mC M_X11_no) 17 = .ok (.iconst (-1), 1) := by decide +kernel
theorem d_X11_no_18 : decode (mC M_X11_no) 18 = .ok (.ireturn, 1) := by decide +kernel
theorem d_X11_no_19 : decode (mC M_X11_no) 19 = .ok (.aload_n 2, 1) := by decide +kernel
theorem d_X11_no_20 : decode (mC M_X11_no) 20 = .ok (.getfield 93, 3) := by decide +kernel
theorem d_X11_no_23 : decode (mC M_X11_no) 23 = .ok (.astore_n 3, 1) := by decide +kernel
theorem d_X11_no_24 : decode (mC M_X11_no) 24 = .ok (.aload_n 2, 1) := by decide +kernel
theorem d_X11_no_25 : decode (mC M_X11_no) 25 = .ok (.aconst_null, 1) := by decide +kernel
theorem d_X11_no_26 : decode (mC M_X11_no) 26 = .ok (.invokevirtual 159, 3) := by decide +kernel
theorem d_X11_no_29 : decode (mC M_X11_no) 29 = .ok (.aload_n 2, 1) := by decide +kernel
theorem d_X11_no_30 : decode (mC M_X11_no) 30 = .ok (.iconst 1, 1) := by decide +kernel
theorem d_X11_no_31 : decode (mC M_X11_no) 31 = .ok (.putfield 97, 3) := by decide +kernel
theorem d_X11_no_34 : decode (mC M_X11_no) 34 = .ok (.aload_n 0, 1) := by decide +kernel
theorem d_X11_no_35 : decode (mC M_X11_no) 35 = .ok (.getfield 10, 3) := by decide +kernel
theorem d_X11_no_38 : decode (mC M_X11_no) 38 = .ok (.aload_n 3, 1) := by decide +kernel
theorem d_X11_no_39 : decode (mC M_X11_no) 39 = .ok (.aload_n 0, 1) := by decide +kernel
theorem d_X11_no_40 : decode (mC M_X11_no) 40 = .ok (.getfield 140, 3) := by decide +kernel
theorem d_X11_no_43 : decode (mC M_X11_no) 43 = .ok (.invokevirtual 163, 3) := by decide +kernel
theorem d_X11_no_46 : decode (mC M_X11_no) 46 = .ok (.aload_n 0, 1) := by decide +kernel
theorem d_X11_no_47 : decode (mC M_X11_no) 47 = .ok (.getfield 10, 3) := by decide +kernel
theorem d_X11_no_50 : decode (mC M_X11_no) 50 = .ok (.getfield 167, 3) := by decide +kernel
theorem d_X11_no_53 : decode (mC M_X11_no) 53 = .ok (.getfield 101, 3) := by decide +kernel
theorem d_X11_no_56 : decode (mC M_X11_no) 56 = .ok (.ireturn, 1) := by decide +kernel
theorem d_X11_pay_0 : decode (mC M_X11_pay) 0 = .ok (.lconst 0, 1) := by decide +kernel
theorem d_X11_pay_1 : decode (mC M_X11_pay) 1 = .ok (.lstore 4, 2) := by decide +kernel
theorem d_X11_pay_3 : decode (mC M_X11_pay) 3 = .ok (.iconst 0, 1) := by decide +kernel
theorem d_X11_pay_4 : decode (mC M_X11_pay) 4 = .ok (.istore 6, 2) := by decide +kernel
theorem d_X11_pay_6 : decode (mC M_X11_pay) 6 = .ok (.iload 6, 2) := by decide +kernel
theorem d_X11_pay_8 : decode (mC M_X11_pay) 8 = .ok (.aload_n 0, 1) := by decide +kernel
theorem d_X11_pay_9 : decode (mC M_X11_pay) 9 = .ok (.getfield 60, 3) := by decide +kernel
theorem d_X11_pay_12 : decode (mC M_X11_pay) 12 = .ok (.invokevirtual 76, 3) := by decide +kernel
theorem d_X11_pay_15 : decode (mC M_X11_pay) 15 = .ok (.if_icmp .ge 59, 3) := by decide +kernel
theorem d_X11_pay_18 : decode (mC M_X11_pay) 18 = .ok (.aload_n 0, 1) := by decide +kernel
theorem d_X11_pay_19 : decode (mC M_X11_pay) 19 = .ok (.getfield 60, 3) := by decide +kernel
theorem d_X11_pay_22 : decode (mC M_X11_pay) 22 = .ok (.iload 6, 2) := by decide +kernel
theorem d_X11_pay_24 : decode (mC M_X11_pay) 24 = .ok (.invokevirtual 215, 3) := by decide +kernel
theorem d_X11_pay_27 : decode (mC M_X11_pay) 27 = .ok (.checkcast 189, 3) := by decide +kernel
theorem d_X11_pay_30 : decode (mC M_X11_pay) 30 = .ok (.astore 7, 2) := by decide +kernel
theorem d_X11_pay_32 : decode (mC M_X11_pay) 32 = .ok (.aload 7, 2) := by decide +kernel
theorem d_X11_pay_34 : decode (mC M_X11_pay) 34 = .ok (.getfield 232, 3) := by decide +kernel
theorem d_X11_pay_37 : decode (mC M_X11_pay) 37 = .ok (.getfield 236, 3) := by decide +kernel
theorem d_X11_pay_40 : decode (mC M_X11_pay) 40 = .ok (.iload_n 1, 1) := by decide +kernel
theorem d_X11_pay_41 : decode (mC M_X11_pay) 41 = .ok (.if_icmp .ne 27, 3) := by decide +kernel
theorem d_X11_pay_44 : decode (mC M_X11_pay) 44 = .ok (.aload 7, 2) := by decide +kernel
theorem d_X11_pay_46 : decode (mC M_X11_pay) 46 = .ok (.getfield 237, 3) := by decide +kernel
theorem d_X11_pay_49 : decode (mC M_X11_pay) 49 = .ok (.iload_n 2, 1) := by decide +kernel
theorem d_X11_pay_50 : decode (mC M_X11_pay) 50 = .ok (.iload_n 3, 1) := by decide +kernel
theorem d_X11_pay_51 : decode (mC M_X11_pay) 51 = .ok (.invokestatic 71, 3) := by decide +kernel
theorem d_X11_pay_54 : decode (mC M_X11_pay) 54 = .ok (.ifCond .eq 14, 3) := by decide +kernel
theorem d_X11_pay_57 : decode (mC M_X11_pay) 57 = .ok (.lload 4, 2) := by decide +kernel
theorem d_X11_pay_59 : decode (mC M_X11_pay) 59 = .ok (.aload 7, 2) := by decide +kernel
theorem d_X11_pay_61 : decode (mC M_X11_pay) 61 = .ok (.invokevirtual 238, 3) := by decide +kernel
theorem d_X11_pay_64 : decode (mC M_X11_pay) 64 = .ok (.i2l, 1) := by decide +kernel
theorem d_X11_pay_65 : decode (mC M_X11_pay) 65 = .ok (.ladd, 1) := by decide +kernel
theorem d_X11_pay_66 : decode (mC M_X11_pay) 66 = .ok (.lstore 4, 2) := by decide +kernel
theorem d_X11_pay_68 : decode (mC M_X11_pay) 68 = .ok (.iinc 6 1, 3) := by decide +kernel
theorem d_X11_pay_71 : decode (mC M_X11_pay) 71 = .ok (.goto (-65), 3) := by decide +kernel
theorem d_X11_pay_74 : decode (mC M_X11_pay) 74 = .ok (.lload 4, 2) := by decide +kernel
theorem d_X11_pay_76 : decode (mC M_X11_pay) 76 = .ok (.lreturn, 1) := by decide +kernel
theorem d_X11_person_0 : decode (mC M_X11_person) 0 = .ok (.iload_n 1, 1) := by decide +kernel
theorem d_X11_person_1 : decode (mC M_X11_person) 1 = .ok (.iconst 0, 1) := by decide +kernel
theorem d_X11_person_2 : decode (mC M_X11_person) 2 = .ok (.bipush 99, 2) := by decide +kernel
theorem d_X11_person_4 : decode (mC M_X11_person) 4 = .ok (.invokestatic 71, 3) := by decide +kernel
theorem d_X11_person_7 : decode (mC M_X11_person) 7 = .ok (.ifCond .eq 50, 3) := by decide +kernel
theorem d_X11_person_10 : decode (mC M_X11_person) 10 = .ok (.iload_n 2, 1) := by decide +kernel
theorem d_X11_person_11 : decode (mC M_X11_person) 11 = .ok (.bipush 50, 2) := by decide +kernel
theorem d_X11_person_13 : decode (mC M_X11_person) 13 = .ok (.sipush 230, 3) := by decide +kernel
theorem d_X11_person_16 : decode (mC M_X11_person) 16 = .ok (.invokestatic 71, 3) := by decide +kernel
theorem d_X11_person_19 : decode (mC M_X11_person) 19 = .ok (.ifCond .eq 38, 3) := by decide +kernel
theorem d_X11_person_22 : decode (mC M_X11_person) 22 = .ok (.iload_n 3, 1) := by decide +kernel
theorem d_X11_person_23 : decode (mC M_X11_person) 23 = .ok (.iconst 0, 1) := by decide +kernel
theorem d_X11_person_24 : decode (mC M_X11_person) 24 = .ok (.ldc 75, 2) := by decide +kernel
theorem d_X11_person_26 : decode (mC M_X11_person) 26 = .ok (.invokestatic 71, 3) := by decide +kernel
theorem d_X11_person_29 : decode (mC M_X11_person) 29 = .ok (.ifCond .eq 28, 3) := by decide +kernel
theorem d_X11_person_32 : decode (mC M_X11_person) 32 = .ok (.iload 4, 2) := by decide +kernel
theorem d_X11_person_34 : decode (mC M_X11_person) 34 = .ok (.iconst 0, 1) := by decide +kernel
theorem d_X11_person_35 : decode (mC M_X11_person) 35 = .ok (.iconst 3, 1) := by decide +kernel
theorem d_X11_person_36 : decode (mC M_X11_person) 36 = .ok (.invokestatic 71, 3) := by decide +kernel
theorem d_X11_person_39 : decode (mC M_X11_person) 39 = .ok (.ifCond .eq 18, 3) := by decide +kernel
theorem d_X11_person_42 : decode (mC M_X11_person) 42 = .ok (.iload 5, 2) := by decide +kernel
theorem d_X11_person_44 : decode (mC M_X11_person) 44 = .ok (.iconst 1, 1) := by decide +kernel
theorem d_X11_person_45 : decode (mC M_X11_person) 45 = .ok (.bipush 30, 2) := by decide +kernel
theorem d_X11_person_47 : decode (mC M_X11_person) 47 = .ok (.invokestatic 71, 3) := by decide +kernel
theorem d_X11_person_50 : decode (mC M_X11_person) 50 = .ok (.ifCond .eq 7, 3) := by decide +kernel
theorem d_X11_person_53 : decode (mC M_X11_person) 53 = .ok (.iconst 1, 1) := by decide +kernel
theorem d_X11_person_54 : decode (mC M_X11_person) 54 = .ok (.goto 4, 3) := by decide +kernel
theorem d_X11_person_57 : decode (mC M_X11_person) 57 = .ok (.iconst 0, 1) := by decide +kernel
theorem d_X11_person_58 : decode (mC M_X11_person) 58 = .ok (.istore 6, 2) := by decide +kernel
theorem d_X11_person_60 : decode (mC M_X11_person) 60 = .ok (.iload 6, 2) := by decide +kernel
theorem d_X11_person_62 : decode (mC M_X11_person) 62 = .ok (.ifCond .eq 15, 3) := by decide +kernel
theorem d_X11_person_65 : decode (mC M_X11_person) 65 = .ok (.aload_n 0, 1) := by decide +kernel
theorem d_X11_person_66 : decode (mC M_X11_person) 66 = .ok (.getfield 20, 3) := by decide +kernel
theorem d_X11_person_69 : decode (mC M_X11_person) 69 = .ok (.invokevirtual 76, 3) := by decide +kernel
theorem d_X11_person_72 : decode (mC M_X11_person) 72 = .ok (.bipush 40, 2) := by decide +kernel
theorem d_X11_person_74 : decode (mC M_X11_person) 74 = .ok (.if_icmp .lt 5, 3) := by decide +kernel
theorem d_X11_person_77 : decode (mC M_X11_person) 77 = .ok (.iconst (-1), 1) := by decide +kernel
theorem d_X11_person_78 : decode (mC M_X11_person) 78 = .ok (.ireturn, 1) := by decide +kernel
theorem d_X11_person_79 : decode (mC M_X11_person) 79 = .ok (.aload_n 0, 1) := by decide +kernel
theorem d_X11_person_80 : decode (mC M_X11_person) 80 = .ok (.getfield 20, 3) := by decide +kernel
theorem d_X11_person_83 : decode (mC M_X11_person) 83 = .ok (.invokevirtual 76, 3) := by decide +kernel
theorem d_X11_person_86 : decode (mC M_X11_person) 86 = .ok (.istore 7, 2) := by decide +kernel
theorem d_X11_person_88 : decode (mC M_X11_person) 88 = .ok (.aload_n 0, 1) := by decide +kernel
theorem d_X11_person_89 : decode (mC M_X11_person) 89 = .ok (.getfield 20, 3) := by decide +kernel
theorem d_X11_person_92 : decode (mC M_X11_person) 92 = .ok (.new 80, 3) := by decide +kernel
theorem d_X11_person_95 : decode (mC M_X11_person) 95 = .ok (.dup, 1) := by decide +kernel
theorem d_X11_person_96 : decode (mC M_X11_person) 96 = .ok (.iload 7, 2) := by decide +kernel
theorem d_X11_person_98 : decode (mC M_X11_person) 98 = .ok (.iload_n 1, 1) := by decide +kernel
theorem d_X11_person_99 : decode (mC M_X11_person) 99 = .ok (.iload_n 2, 1) := by decide +kernel
theorem d_X11_person_100 : decode (mC M_X11_person) 100 = .ok (.iload_n 3, 1) := by decide +kernel
theorem d_X11_person_101 : decode (mC M_X11_person) 101 = .ok (.iload 4, 2) := by decide +kernel
theorem d_X11_person_103 : decode (mC M_X11_person) 103 = .ok (.iload 5, 2) := by decide +kernel
theorem d_X11_person_105 : decode (mC M_X11_person) 105 = .ok (.invokespecial 82, 3) := by decide +kernel
theorem d_X11_person_108 : decode (mC M_X11_person) 108 = .ok (.invokevirtual 85, 3) := by decide +kernel
theorem d_X11_person_111 : decode (mC M_X11_person) 111 = .ok (.pop, 1) := by decide +kernel
theorem d_X11_person_112 : decode (mC M_X11_person) 112 = .ok (.iload 7, 2) := by decide +kernel
theorem d_X11_person_114 : decode (mC M_X11_person) 114 = .ok (.ireturn, 1) := by decide +kernel
theorem d_X11_place_0 : decode (mC M_X11_place) 0 = .ok (.aload_n 0, 1) := by decide +kernel
theorem d_X11_place_1 : decode (mC M_X11_place) 1 = .ok (.getfield 32, 3) := by decide +kernel
theorem d_X11_place_4 : decode (mC M_X11_place) 4 = .ok (.getfield 128, 3) := by decide +kernel
theorem d_X11_place_7 : decode (mC M_X11_place) 7 = .ok (.ireturn, 1) := by decide +kernel
theorem d_X11_record_0 : decode (mC M_X11_record) 0 = .ok (.aload_n 0, 1) := by decide +kernel
theorem d_X11_record_1 : decode (mC M_X11_record) 1 = .ok (.iload_n 1, 1) := by decide +kernel
theorem d_X11_record_2 : decode (mC M_X11_record) 2 = .ok (.iload_n 2, 1) := by decide +kernel
theorem d_X11_record_3 : decode (mC M_X11_record) 3 = .ok (.invokevirtual 184, 3) := by decide +kernel
theorem d_X11_record_6 : decode (mC M_X11_record) 6 = .ok (.astore 4, 2) := by decide +kernel
theorem d_X11_record_8 : decode (mC M_X11_record) 8 = .ok (.aload 4, 2) := by decide +kernel
theorem d_X11_record_10 : decode (mC M_X11_record) 10 = .ok (.ifnonnull 7, 3) := by decide +kernel
theorem d_X11_record_13 : decode (mC M_X11_record) 13 = .ok (.iconst (-1), 1) := by decide +kernel
theorem d_X11_record_14 : decode (mC M_X11_record) 14 = .ok (.goto 9, 3) := by decide +kernel
theorem d_X11_record_17 : decode (mC M_X11_record) 17 = .ok (.aload 4, 2) := by decide +kernel
theorem d_X11_record_19 : decode (mC M_X11_record) 19 = .ok (.iload_n 3, 1) := by decide +kernel
theorem d_X11_record_20 : decode (mC M_X11_record) 20 = .ok (.invokevirtual 188, 3) := by decide +kernel
theorem d_X11_record_23 : decode (mC M_X11_record) 23 = .ok (.ireturn, 1) := by decide +kernel
theorem d_X11_retake_0 : decode (mC M_X11_retake) 0 = .ok (.iload_n 1, 1) := by decide +kernel
theorem d_X11_retake_1 : decode (mC M_X11_retake) 1 = .ok (.invokestatic 193, 3) := by decide +kernel
theorem d_X11_retake_4 : decode (mC M_X11_retake) 4 = .ok (.ifCond .eq 14, 3) := by decide +kernel
theorem d_X11_retake_7 : decode (mC M_X11_retake) 7 = .ok (.iload_n 2, 1) := by decide +kernel
theorem d_X11_retake_8 : decode (mC M_X11_retake) 8 = .ok (.iconst 0, 1) := by decide +kernel
theorem d_X11_retake_9 : decode (mC M_X11_retake) 9 = .ok (.sipush 1439, 3) := by decide +kernel
theorem d_X11_retake_12 : decode (mC M_X11_retake) 12 = .ok (.invokestatic 71, 3) := by decide +kernel
theorem d_X11_retake_15 : decode (mC M_X11_retake) 15 = .ok (.ifCond .ne 5, 3) := by decide +kernel
theorem d_X11_retake_18 : decode (mC M_X11_retake) 18 = .ok (.iconst (-1), 1) := by decide +kernel
theorem d_X11_retake_19 : decode (mC M_X11_retake) 19 = .ok (.ireturn, 1) := by decide +kernel
theorem d_X11_retake_20 : decode (mC M_X11_retake) 20 = .ok (.aload_n 0, 1) := by decide +kernel
theorem d_X11_retake_21 : decode (mC M_X11_retake) 21 = .ok (.getfield 68, 3) := by decide +kernel
theorem d_X11_retake_24 : decode (mC M_X11_retake) 24 = .ok (.iconst 0, 1) := by decide +kernel
theorem d_X11_retake_25 : decode (mC M_X11_retake) 25 = .ok (.putfield 101, 3) := by decide +kernel
theorem d_X11_retake_28 : decode (mC M_X11_retake) 28 = .ok (.iconst 0, 1) := by decide +kernel
theorem d_X11_retake_29 : decode (mC M_X11_retake) 29 = .ok (.istore_n 3, 1) := by decide +kernel
theorem d_X11_retake_30 : decode (mC M_X11_retake) 30 = .ok (.iload_n 3, 1) := by decide +kernel
theorem d_X11_retake_31 : decode (mC M_X11_retake) 31 = .ok (.aload_n 0, 1) := by decide +kernel
theorem d_X11_retake_32 : decode (mC M_X11_retake) 32 = .ok (.getfield 20, 3) := by decide +kernel
theorem d_X11_retake_35 : decode (mC M_X11_retake) 35 = .ok (.invokevirtual 76, 3) := by decide +kernel
theorem d_X11_retake_38 : decode (mC M_X11_retake) 38 = .ok (.if_icmp .ge 77, 3) := by decide +kernel
theorem d_X11_retake_41 : decode (mC M_X11_retake) 41 = .ok (.aload_n 0, 1) := by decide +kernel
theorem d_X11_retake_42 : decode (mC M_X11_retake) 42 = .ok (.getfield 20, 3) := by decide +kernel
theorem d_X11_retake_45 : decode (mC M_X11_retake) 45 = .ok (.iload_n 3, 1) := by decide +kernel
theorem d_X11_retake_46 : decode (mC M_X11_retake) 46 = .ok (.invokevirtual 215, 3) := by decide +kernel
theorem d_X11_retake_49 : decode (mC M_X11_retake) 49 = .ok (.checkcast 80, 3) := by decide +kernel
theorem d_X11_retake_52 : decode (mC M_X11_retake) 52 = .ok (.astore 4, 2) := by decide +kernel
theorem d_X11_retake_54 : decode (mC M_X11_retake) 54 = .ok (.aload 4, 2) := by decide +kernel
theorem d_X11_retake_56 : decode (mC M_X11_retake) 56 = .ok (.getfield 97, 3) := by decide +kernel
theorem d_X11_retake_59 : decode (mC M_X11_retake) 59 = .ok (.ifCond .ne 25, 3) := by decide +kernel
theorem d_X11_retake_62 : decode (mC M_X11_retake) 62 = .ok (.aload 4, 2) := by decide +kernel
theorem d_X11_retake_64 : decode (mC M_X11_retake) 64 = .ok (.getfield 219, 3) := by decide +kernel
theorem d_X11_retake_67 : decode (mC M_X11_retake) 67 = .ok (.sipush 1440, 3) := by decide +kernel
theorem d_X11_retake_70 : decode (mC M_X11_retake) 70 = .ok (.aload_n 0, 1) := by decide +kernel
theorem d_X11_retake_71 : decode (mC M_X11_retake) 71 = .ok (.getfield 140, 3) := by decide +kernel
theorem d_X11_retake_74 : decode (mC M_X11_retake) 74 = .ok (.imul, 1) := by decide +kernel
theorem d_X11_retake_75 : decode (mC M_X11_retake) 75 = .ok (.iload_n 2, 1) := by decide +kernel
theorem d_X11_retake_76 : decode (mC M_X11_retake) 76 = .ok (.iadd, 1) := by decide +kernel
theorem d_X11_retake_77 : decode (mC M_X11_retake) 77 = .ok (.if_icmp .gt 7, 3) := by decide +kernel
theorem d_X11_retake_80 : decode (mC M_X11_retake) 80 = .ok (.iconst 1, 1) := by decide +kernel
theorem d_X11_retake_81 : decode (mC M_X11_retake) 81 = .ok (.goto 4, 3) := by decide +kernel
theorem d_X11_retake_84 : decode (mC M_X11_retake) 84 = .ok (.iconst 0, 1) := by decide +kernel
theorem d_X11_retake_85 : decode (mC M_X11_retake) 85 = .ok (.istore 5, 2) := by decide +kernel
theorem d_X11_retake_87 : decode (mC M_X11_retake) 87 = .ok (.aload 4, 2) := by decide +kernel
theorem d_X11_retake_89 : decode (mC M_X11_retake) 89 = .ok (.iload_n 1, 1) := by decide +kernel
theorem d_X11_retake_90 : decode (mC M_X11_retake) 90 = .ok (.invokevirtual 222, 3) := by decide +kernel
theorem d_X11_retake_93 : decode (mC M_X11_retake) 93 = .ok (.ifCond .eq 16, 3) := by decide +kernel
theorem d_X11_retake_96 : decode (mC M_X11_retake) 96 = .ok (.iload 5, 2) := by decide +kernel
theorem d_X11_retake_98 : decode (mC M_X11_retake) 98 = .ok (.ifCond .ne 11, 3) := by decide +kernel
theorem d_X11_retake_101 : decode (mC M_X11_retake) 101 = .ok (.aload_n 0, 1) := by decide +kernel
theorem d_X11_retake_102 : decode (mC M_X11_retake) 102 = .ok (.getfield 68, 3) := by decide +kernel
theorem d_X11_retake_105 : decode (mC M_X11_retake) 105 = .ok (.iload_n 3, 1) := by decide +kernel
theorem d_X11_retake_106 : decode (mC M_X11_retake) 106 = .ok (.invokevirtual 225, 3) := by decide +kernel
theorem d_X11_retake_109 : decode (mC M_X11_retake) 109 = .ok (.iinc 3 1, 3) := by decide +kernel
theorem d_X11_retake_112 : decode (mC M_X11_retake) 112 = .ok (.goto (-82), 3) := by decide +kernel
theorem d_X11_retake_115 : decode (mC M_X11_retake) 115 = .ok (.aload_n 0, 1) := by decide +kernel
theorem d_X11_retake_116 : decode (mC M_X11_retake) 116 = .ok (.getfield 68, 3) := by decide +kernel
theorem d_X11_retake_119 : decode (mC M_X11_retake) 119 = .ok (.getfield 101, 3) := by decide +kernel
theorem d_X11_retake_122 : decode (mC M_X11_retake) 122 = .ok (.ireturn, 1) := by decide +kernel
theorem d_X11_seen_0 : decode (mC M_X11_seen) 0 = .ok (.aload_n 0, 1) := by decide +kernel
theorem d_X11_seen_1 : decode (mC M_X11_seen) 1 = .ok (.iload_n 1, 1) := by decide +kernel
theorem d_X11_seen_2 : decode (mC M_X11_seen) 2 = .ok (.invokevirtual 89, 3) := by decide +kernel
theorem d_X11_seen_5 : decode (mC M_X11_seen) 5 = .ok (.ifnull 25, 3) := by decide +kernel
theorem d_X11_seen_8 : decode (mC M_X11_seen) 8 = .ok (.iload_n 2, 1) := by decide +kernel
theorem d_X11_seen_9 : decode (mC M_X11_seen) 9 = .ok (.invokestatic 193, 3) := by decide +kernel
theorem d_X11_seen_12 : decode (mC M_X11_seen) 12 = .ok (.ifCond .eq 18, 3) := by decide +kernel
theorem d_X11_seen_15 : decode (mC M_X11_seen) 15 = .ok (.iload_n 3, 1) := by decide +kernel
theorem d_X11_seen_16 : decode (mC M_X11_seen) 16 = .ok (.iconst 0, 1) := by decide +kernel
theorem d_X11_seen_17 : decode (mC M_X11_seen) 17 = .ok (.aload_n 0, 1) := by decide +kernel
theorem d_X11_seen_18 : decode (mC M_X11_seen) 18 = .ok (.getfield 49, 3) := by decide +kernel
theorem d_X11_seen_21 : decode (mC M_X11_seen) 21 = .ok (.invokevirtual 203, 3) := by decide +kernel
theorem d_X11_seen_24 : decode (mC M_X11_seen) 24 = .ok (.invokestatic 71, 3) := by decide +kernel
theorem d_X11_seen_27 : decode (mC M_X11_seen) 27 = .ok (.ifCond .ne 13, 3) := by decide +kernel
theorem d_X11_seen_30 : decode (mC M_X11_seen) 30 = .ok (.new 204, 3) := by decide +kernel
theorem d_X11_seen_33 : decode (mC M_X11_seen) 33 = .ok (.dup, 1) := by decide +kernel
theorem d_X11_seen_34 : decode (mC M_X11_seen) 34 = .ok (.ldc 206, 2) := by decide +kernel
theorem d_X11_seen_36 : decode (mC M_X11_seen) 36 = .ok (.invokespecial 208, 3) := by decide +kernel
theorem d_X11_seen_39 : decode (mC M_X11_seen) 39 = .ok (.athrow, 1) := by decide +kernel
theorem d_X11_seen_40 : decode (mC M_X11_seen) 40 = .ok (.aload_n 0, 1) := by decide +kernel
theorem d_X11_seen_41 : decode (mC M_X11_seen) 41 = .ok (.getfield 49, 3) := by decide +kernel
theorem d_X11_seen_44 : decode (mC M_X11_seen) 44 = .ok (.iload_n 1, 1) := by decide +kernel
theorem d_X11_seen_45 : decode (mC M_X11_seen) 45 = .ok (.iload_n 2, 1) := by decide +kernel
theorem d_X11_seen_46 : decode (mC M_X11_seen) 46 = .ok (.iload_n 3, 1) := by decide +kernel
theorem d_X11_seen_47 : decode (mC M_X11_seen) 47 = .ok (.invokevirtual 211, 3) := by decide +kernel
theorem d_X11_seen_50 : decode (mC M_X11_seen) 50 = .ok (.ireturn, 1) := by decide +kernel
theorem d_X11_sendAll_0 : decode (mC M_X11_sendAll) 0 = .ok (.aload_n 0, 1) := by decide +kernel
theorem d_X11_sendAll_1 : decode (mC M_X11_sendAll) 1 = .ok (.getfield 43, 3) := by decide +kernel
theorem d_X11_sendAll_4 : decode (mC M_X11_sendAll) 4 = .ok (.invokevirtual 150, 3) := by decide +kernel
theorem d_X11_sendAll_7 : decode (mC M_X11_sendAll) 7 = .ok (.ifCond .eq 7, 3) := by decide +kernel
theorem d_X11_sendAll_10 : decode (mC M_X11_sendAll) 10 = .ok (.aconst_null, 1) := by decide +kernel
theorem d_X11_sendAll_11 : decode (mC M_X11_sendAll) 11 = .ok (.goto 22, 3) := by decide +kernel
theorem d_X11_sendAll_14 : decode (mC M_X11_sendAll) 14 = .ok (.aload_n 0, 1) := by decide +kernel
theorem d_X11_sendAll_15 : decode (mC M_X11_sendAll) 15 = .ok (.getfield 43, 3) := by decide +kernel
theorem d_X11_sendAll_18 : decode (mC M_X11_sendAll) 18 = .ok (.aload_n 0, 1) := by decide +kernel
theorem d_X11_sendAll_19 : decode (mC M_X11_sendAll) 19 = .ok (.getfield 43, 3) := by decide +kernel
theorem d_X11_sendAll_22 : decode (mC M_X11_sendAll) 22 = .ok (.invokevirtual 76, 3) := by decide +kernel
theorem d_X11_sendAll_25 : decode (mC M_X11_sendAll) 25 = .ok (.iconst 1, 1) := by decide +kernel
theorem d_X11_sendAll_26 : decode (mC M_X11_sendAll) 26 = .ok (.isub, 1) := by decide +kernel
theorem d_X11_sendAll_27 : decode (mC M_X11_sendAll) 27 = .ok (.invokevirtual 215, 3) := by decide +kernel
theorem d_X11_sendAll_30 : decode (mC M_X11_sendAll) 30 = .ok (.checkcast 118, 3) := by decide +kernel
theorem d_X11_sendAll_33 : decode (mC M_X11_sendAll) 33 = .ok (.astore_n 1, 1) := by decide +kernel
theorem d_X11_sendAll_34 : decode (mC M_X11_sendAll) 34 = .ok (.iconst (-1), 1) := by decide +kernel
theorem d_X11_sendAll_35 : decode (mC M_X11_sendAll) 35 = .ok (.istore_n 2, 1) := by decide +kernel
theorem d_X11_sendAll_36 : decode (mC M_X11_sendAll) 36 = .ok (.iconst 0, 1) := by decide +kernel
theorem d_X11_sendAll_37 : decode (mC M_X11_sendAll) 37 = .ok (.istore_n 3, 1) := by decide +kernel
theorem d_X11_sendAll_38 : decode (mC M_X11_sendAll) 38 = .ok (.iload_n 3, 1) := by decide +kernel
theorem d_X11_sendAll_39 : decode (mC M_X11_sendAll) 39 = .ok (.aload_n 0, 1) := by decide +kernel
theorem d_X11_sendAll_40 : decode (mC M_X11_sendAll) 40 = .ok (.getfield 56, 3) := by decide +kernel
theorem d_X11_sendAll_43 : decode (mC M_X11_sendAll) 43 = .ok (.getfield 241, 3) := by decide +kernel
theorem d_X11_sendAll_46 : decode (mC M_X11_sendAll) 46 = .ok (.invokevirtual 76, 3) := by decide +kernel
theorem d_X11_sendAll_49 : decode (mC M_X11_sendAll) 49 = .ok (.if_icmp .ge 69, 3) := by decide +kernel
theorem d_X11_sendAll_52 : decode (mC M_X11_sendAll) 52 = .ok (.aload_n 0, 1) := by decide +kernel
theorem d_X11_sendAll_53 : decode (mC M_X11_sendAll) 53 = .ok (.getfield 56, 3) := by decide +kernel
theorem d_X11_sendAll_56 : decode (mC M_X11_sendAll) 56 = .ok (.getfield 241, 3) := by decide +kernel
theorem d_X11_sendAll_59 : decode (mC M_X11_sendAll) 59 = .ok (.iload_n 3, 1) := by decide +kernel
theorem d_X11_sendAll_60 : decode (mC M_X11_sendAll) 60 = .ok (.invokevirtual 215, 3) := by decide +kernel
theorem d_X11_sendAll_63 : decode (mC M_X11_sendAll) 63 = .ok (.checkcast 189, 3) := by decide +kernel
theorem d_X11_sendAll_66 : decode (mC M_X11_sendAll) 66 = .ok (.astore 4, 2) := by decide +kernel
theorem d_X11_sendAll_68 : decode (mC M_X11_sendAll) 68 = .ok (.aload 4, 2) := by decide +kernel
theorem d_X11_sendAll_70 : decode (mC M_X11_sendAll) 70 = .ok (.aload_n 1, 1) := by decide +kernel
theorem d_X11_sendAll_71 : decode (mC M_X11_sendAll) 71 = .ok (.invokevirtual 244, 3) := by decide +kernel
theorem d_X11_sendAll_74 : decode (mC M_X11_sendAll) 74 = .ok (.aload_n 0, 1) := by decide +kernel
theorem d_X11_sendAll_75 : decode (mC M_X11_sendAll) 75 = .ok (.getfield 49, 3) := by decide +kernel
theorem d_X11_sendAll_78 : decode (mC M_X11_sendAll) 78 = .ok (.aload 4, 2) := by decide +kernel
theorem d_X11_sendAll_80 : decode (mC M_X11_sendAll) 80 = .ok (.getfield 232, 3) := by decide +kernel
theorem d_X11_sendAll_83 : decode (mC M_X11_sendAll) 83 = .ok (.aload 4, 2) := by decide +kernel
theorem d_X11_sendAll_85 : decode (mC M_X11_sendAll) 85 = .ok (.getfield 248, 3) := by decide +kernel
theorem d_X11_sendAll_88 : decode (mC M_X11_sendAll) 88 = .ok (.invokevirtual 200, 3) := by decide +kernel
theorem d_X11_sendAll_91 : decode (mC M_X11_sendAll) 91 = .ok (.pop, 1) := by decide +kernel
theorem d_X11_sendAll_92 : decode (mC M_X11_sendAll) 92 = .ok (.aload_n 0, 1) := by decide +kernel
theorem d_X11_sendAll_93 : decode (mC M_X11_sendAll) 93 = .ok (.getfield 60, 3) := by decide +kernel
theorem d_X11_sendAll_96 : decode (mC M_X11_sendAll) 96 = .ok (.aload 4, 2) := by decide +kernel
theorem d_X11_sendAll_98 : decode (mC M_X11_sendAll) 98 = .ok (.invokevirtual 85, 3) := by decide +kernel
theorem d_X11_sendAll_101 : decode (mC M_X11_sendAll) 101 = .ok (.pop, 1) := by decide +kernel
theorem d_X11_sendAll_102 : decode (mC M_X11_sendAll) 102 = .ok (.iload_n 2, 1) := by decide +kernel
theorem d_X11_sendAll_103 : decode (mC M_X11_sendAll) 103 = .ok (.aload 4, 2) := by decide +kernel
theorem d_X11_sendAll_105 : decode (mC M_X11_sendAll) 105 = .ok (.getfield 251, 3) := by decide +kernel
theorem d_X11_sendAll_108 : decode (mC M_X11_sendAll) 108 = .ok (.invokestatic 254, 3) := by decide +kernel
theorem d_X11_sendAll_111 : decode (mC M_X11_sendAll) 111 = .ok (.istore_n 2, 1) := by decide +kernel
theorem d_X11_sendAll_112 : decode (mC M_X11_sendAll) 112 = .ok (.iinc 3 1, 3) := by decide +kernel
theorem d_X11_sendAll_115 : decode (mC M_X11_sendAll) 115 = .ok (.goto (-77), 3) := by decide +kernel
theorem d_X11_sendAll_118 : decode (mC M_X11_sendAll) 118 = .ok (.iload_n 2, 1) := by decide +kernel
theorem d_X11_sendAll_119 : decode (mC M_X11_sendAll) 119 = .ok (.ireturn, 1) := by decide +kernel
theorem d_X11_step_0 : decode (mC M_X11_step) 0 = .ok (.iload_n 1, 1) := by decide +kernel
theorem d_X11_step_1 : decode (mC M_X11_step) 1 = .ok (.iconst 1, 1) := by decide +kernel
theorem d_X11_step_2 : decode (mC M_X11_step) 2 = .ok (.iconst 5, 1) := by decide +kernel
theorem d_X11_step_3 : decode (mC M_X11_step) 3 = .ok (.invokestatic 71, 3) := by decide +kernel
theorem d_X11_step_6 : decode (mC M_X11_step) 6 = .ok (.ifCond .eq 22, 3) := by decide +kernel
theorem d_X11_step_9 : decode (mC M_X11_step) 9 = .ok (.aload_n 0, 1) := by decide +kernel
theorem d_X11_step_10 : decode (mC M_X11_step) 10 = .ok (.getfield 10, 3) := by decide +kernel
theorem d_X11_step_13 : decode (mC M_X11_step) 13 = .ok (.invokevirtual 157, 3) := by decide +kernel
theorem d_X11_step_16 : decode (mC M_X11_step) 16 = .ok (.ifCond .eq 12, 3) := by decide +kernel
theorem d_X11_step_19 : decode (mC M_X11_step) 19 = .ok (.aload_n 0, 1) := by decide +kernel
theorem d_X11_step_20 : decode (mC M_X11_step) 20 = .ok (.getfield 140, 3) := by decide +kernel
theorem d_X11_step_23 : decode (mC M_X11_step) 23 = .ok (.bipush 60, 2) := by decide +kernel
theorem d_X11_step_25 : decode (mC M_X11_step) 25 = .ok (.if_icmp .lt 5, 3) := by decide +kernel
theorem d_X11_step_28 : decode (mC M_X11_step) 28 = .ok (.iconst (-1), 1) := by decide +kernel
theorem d_X11_step_29 : decode (mC M_X11_step) 29 = .ok (.ireturn, 1) := by decide +kernel
theorem d_X11_step_30 : decode (mC M_X11_step) 30 = .ok (.aload_n 0, 1) := by decide +kernel
theorem d_X11_step_31 : decode (mC M_X11_step) 31 = .ok (.getfield 56, 3) := by decide +kernel
theorem d_X11_step_34 : decode (mC M_X11_step) 34 = .ok (.aload_n 0, 1) := by decide +kernel
theorem d_X11_step_35 : decode (mC M_X11_step) 35 = .ok (.getfield 20, 3) := by decide +kernel
theorem d_X11_step_38 : decode (mC M_X11_step) 38 = .ok (.iload_n 2, 1) := by decide +kernel
theorem d_X11_step_39 : decode (mC M_X11_step) 39 = .ok (.aload_n 0, 1) := by decide +kernel
theorem d_X11_step_40 : decode (mC M_X11_step) 40 = .ok (.getfield 140, 3) := by decide +kernel
theorem d_X11_step_43 : decode (mC M_X11_step) 43 = .ok (.invokevirtual 174, 3) := by decide +kernel
theorem d_X11_step_46 : decode (mC M_X11_step) 46 = .ok (.aload_n 0, 1) := by decide +kernel
theorem d_X11_step_47 : decode (mC M_X11_step) 47 = .ok (.getfield 56, 3) := by decide +kernel
theorem d_X11_step_50 : decode (mC M_X11_step) 50 = .ok (.iload_n 1, 1) := by decide +kernel
theorem d_X11_step_51 : decode (mC M_X11_step) 51 = .ok (.invokevirtual 178, 3) := by decide +kernel
theorem d_X11_step_54 : decode (mC M_X11_step) 54 = .ok (.aload_n 0, 1) := by decide +kernel
theorem d_X11_step_55 : decode (mC M_X11_step) 55 = .ok (.invokevirtual 181, 3) := by decide +kernel
theorem d_X11_step_58 : decode (mC M_X11_step) 58 = .ok (.istore_n 3, 1) := by decide +kernel
theorem d_X11_step_59 : decode (mC M_X11_step) 59 = .ok (.aload_n 0, 1) := by decide +kernel
theorem d_X11_step_60 : decode (mC M_X11_step) 60 = .ok (.getfield 10, 3) := by decide +kernel
theorem d_X11_step_63 : decode (mC M_X11_step) 63 = .ok (.new 40, 3) := by decide +kernel
theorem d_X11_step_66 : decode (mC M_X11_step) 66 = .ok (.dup, 1) := by decide +kernel
theorem d_X11_step_67 : decode (mC M_X11_step) 67 = .ok (.invokespecial 42, 3) := by decide +kernel
theorem d_X11_step_70 : decode (mC M_X11_step) 70 = .ok (.invokevirtual 114, 3) := by decide +kernel
theorem d_X11_step_73 : decode (mC M_X11_step) 73 = .ok (.aload_n 0, 1) := by decide +kernel
theorem d_X11_step_74 : decode (mC M_X11_step) 74 = .ok (.dup, 1) := by decide +kernel
theorem d_X11_step_75 : decode (mC M_X11_step) 75 = .ok (.getfield 140, 3) := by decide +kernel
theorem d_X11_step_78 : decode (mC M_X11_step) 78 = .ok (.iconst 1, 1) := by decide +kernel
theorem d_X11_step_79 : decode (mC M_X11_step) 79 = .ok (.iadd, 1) := by decide +kernel
theorem d_X11_step_80 : decode (mC M_X11_step) 80 = .ok (.putfield 140, 3) := by decide +kernel
theorem d_X11_step_83 : decode (mC M_X11_step) 83 = .ok (.iload_n 3, 1) := by decide +kernel
theorem d_X11_step_84 : decode (mC M_X11_step) 84 = .ok (.ireturn, 1) := by decide +kernel
theorem d_X11_tell_0 : decode (mC M_X11_tell) 0 = .ok (.aload_n 0, 1) := by decide +kernel
theorem d_X11_tell_1 : decode (mC M_X11_tell) 1 = .ok (.iload_n 1, 1) := by decide +kernel
theorem d_X11_tell_2 : decode (mC M_X11_tell) 2 = .ok (.invokevirtual 89, 3) := by decide +kernel
theorem d_X11_tell_5 : decode (mC M_X11_tell) 5 = .ok (.astore_n 3, 1) := by decide +kernel
theorem d_X11_tell_6 : decode (mC M_X11_tell) 6 = .ok (.aload_n 3, 1) := by decide +kernel
theorem d_X11_tell_7 : decode (mC M_X11_tell) 7 = .ok (.ifnull 23, 3) := by decide +kernel
theorem d_X11_tell_10 : decode (mC M_X11_tell) 10 = .ok (.iload_n 2, 1) := by decide +kernel
theorem d_X11_tell_11 : decode (mC M_X11_tell) 11 = .ok (.invokestatic 193, 3) := by decide +kernel
theorem d_X11_tell_14 : decode (mC M_X11_tell) 14 = .ok (.ifCond .eq 16, 3) := by decide +kernel
theorem d_X11_tell_17 : decode (mC M_X11_tell) 17 = .ok (.aload_n 0, 1) := by decide +kernel
theorem d_X11_tell_18 : decode (mC M_X11_tell) 18 = .ok (.getfield 49, 3) := by decide +kernel
theorem d_X11_tell_21 : decode (mC M_X11_tell) 21 = .ok (.getfield 197, 3) := by decide +kernel
theorem d_X11_tell_24 : decode (mC M_X11_tell) 24 = .ok (.sipush 200, 3) := by decide +kernel
theorem d_X11_tell_27 : decode (mC M_X11_tell) 27 = .ok (.if_icmp .lt 5, 3) := by decide +kernel
theorem d_X11_tell_30 : decode (mC M_X11_tell) 30 = .ok (.iconst (-1), 1) := by decide +kernel
theorem d_X11_tell_31 : decode (mC M_X11_tell) 31 = .ok (.ireturn, 1) := by decide +kernel
theorem d_X11_tell_32 : decode (mC M_X11_tell) 32 = .ok (.aload_n 0, 1) := by decide +kernel
theorem d_X11_tell_33 : decode (mC M_X11_tell) 33 = .ok (.getfield 49, 3) := by decide +kernel
theorem d_X11_tell_36 : decode (mC M_X11_tell) 36 = .ok (.dup, 1) := by decide +kernel
theorem d_X11_tell_37 : decode (mC M_X11_tell) 37 = .ok (.getfield 197, 3) := by decide +kernel
theorem d_X11_tell_40 : decode (mC M_X11_tell) 40 = .ok (.iconst 1, 1) := by decide +kernel
theorem d_X11_tell_41 : decode (mC M_X11_tell) 41 = .ok (.iadd, 1) := by decide +kernel
theorem d_X11_tell_42 : decode (mC M_X11_tell) 42 = .ok (.putfield 197, 3) := by decide +kernel
theorem d_X11_tell_45 : decode (mC M_X11_tell) 45 = .ok (.aload_n 0, 1) := by decide +kernel
theorem d_X11_tell_46 : decode (mC M_X11_tell) 46 = .ok (.getfield 49, 3) := by decide +kernel
theorem d_X11_tell_49 : decode (mC M_X11_tell) 49 = .ok (.aload_n 3, 1) := by decide +kernel
theorem d_X11_tell_50 : decode (mC M_X11_tell) 50 = .ok (.iload_n 2, 1) := by decide +kernel
theorem d_X11_tell_51 : decode (mC M_X11_tell) 51 = .ok (.invokevirtual 200, 3) := by decide +kernel
theorem d_X11_tell_54 : decode (mC M_X11_tell) 54 = .ok (.ireturn, 1) := by decide +kernel
theorem d_X11_within_0 : decode (mC M_X11_within) 0 = .ok (.iload_n 0, 1) := by decide +kernel
theorem d_X11_within_1 : decode (mC M_X11_within) 1 = .ok (.iload_n 1, 1) := by decide +kernel
theorem d_X11_within_2 : decode (mC M_X11_within) 2 = .ok (.if_icmp .lt 12, 3) := by decide +kernel
theorem d_X11_within_5 : decode (mC M_X11_within) 5 = .ok (.iload_n 0, 1) := by decide +kernel
theorem d_X11_within_6 : decode (mC M_X11_within) 6 = .ok (.iload_n 2, 1) := by decide +kernel
theorem d_X11_within_7 : decode (mC M_X11_within) 7 = .ok (.if_icmp .gt 7, 3) := by decide +kernel
theorem d_X11_within_10 : decode (mC M_X11_within) 10 = .ok (.iconst 1, 1) := by decide +kernel
theorem d_X11_within_11 : decode (mC M_X11_within) 11 = .ok (.goto 4, 3) := by decide +kernel
theorem d_X11_within_14 : decode (mC M_X11_within) 14 = .ok (.iconst 0, 1) := by decide +kernel
theorem d_X11_within_15 : decode (mC M_X11_within) 15 = .ok (.ireturn, 1) := by decide +kernel
theorem d_X12_about_0 : decode (mC M_X12_about) 0 = .ok (.aload_n 0, 1) := by decide +kernel
theorem d_X12_about_1 : decode (mC M_X12_about) 1 = .ok (.iconst 0, 1) := by decide +kernel
theorem d_X12_about_2 : decode (mC M_X12_about) 2 = .ok (.putfield 1, 3) := by decide +kernel
theorem d_X12_about_5 : decode (mC M_X12_about) 5 = .ok (.aload_n 0, 1) := by decide +kernel
theorem d_X12_about_6 : decode (mC M_X12_about) 6 = .ok (.iload_n 1, 1) := by decide +kernel
theorem d_X12_about_7 : decode (mC M_X12_about) 7 = .ok (.invokevirtual 159, 3) := by decide +kernel
theorem d_X12_about_10 : decode (mC M_X12_about) 10 = .ok (.ifCond .ne 5, 3) := by decide +kernel
theorem d_X12_about_13 : decode (mC M_X12_about) 13 = .ok (.iconst (-1), 1) := by decide +kernel
theorem d_X12_about_14 : decode (mC M_X12_about) 14 = .ok (.ireturn, 1) := by decide +kernel
theorem d_X12_about_15 : decode (mC M_X12_about) 15 = .ok (.iload_n 2, 1) := by decide +kernel
theorem d_X12_about_16 : decode (mC M_X12_about) 16 = .ok (.tableswitch 112 0 7 #[48, 55, 62, 69, 76, 83, 98, 105], 48) := by decide +kernel
theorem d_X12_about_64 : decode (mC M_X12_about) 64 = .ok (.aload_n 0, 1) := by decide +kernel
theorem d_X12_about_65 : decode (mC M_X12_about) 65 = .ok (.getfield 13, 3) := by decide +kernel
theorem d_X12_about_68 : decode (mC M_X12_about) 68 = .ok (.iload_n 1, 1) := by decide +kernel
theorem d_X12_about_69 : decode (mC M_X12_about) 69 = .ok (.iaload, 1) := by decide +kernel
theorem d_X12_about_70 : decode (mC M_X12_about) 70 = .ok (.ireturn, 1) := by decide +kernel
theorem d_X12_about_71 : decode (mC M_X12_about) 71 = .ok (.aload_n 0, 1) := by decide +kernel
theorem d_X12_about_72 : decode (mC M_X12_about) 72 = .ok (.getfield 17, 3) := by decide +kernel
theorem d_X12_about_75 : decode (mC M_X12_about) 75 = .ok (.iload_n 1, 1) := by decide +kernel
theorem d_X12_about_76 : decode (mC M_X12_about) 76 = .ok (.iaload, 1) := by decide +kernel
theorem d_X12_about_77 : decode (mC M_X12_about) 77 = .ok (.ireturn, 1) := by decide +kernel
theorem d_X12_about_78 : decode (mC M_X12_about) 78 = .ok (.aload_n 0, 1) := by decide +kernel
theorem d_X12_about_79 : decode (mC M_X12_about) 79 = .ok (.getfield 20, 3) := by decide +kernel
theorem d_X12_about_82 : decode (mC M_X12_about) 82 = .ok (.iload_n 1, 1) := by decide +kernel
theorem d_X12_about_83 : decode (mC M_X12_about) 83 = .ok (.iaload, 1) := by decide +kernel
theorem d_X12_about_84 : decode (mC M_X12_about) 84 = .ok (.ireturn, 1) := by decide +kernel
theorem d_X12_about_85 : decode (mC M_X12_about) 85 = .ok (.aload_n 0, 1) := by decide +kernel
theorem d_X12_about_86 : decode (mC M_X12_about) 86 = .ok (.getfield 23, 3) := by decide +kernel
theorem d_X12_about_89 : decode (mC M_X12_about) 89 = .ok (.iload_n 1, 1) := by decide +kernel
theorem d_X12_about_90 : decode (mC M_X12_about) 90 = .ok (.iaload, 1) := by decide +kernel
theorem d_X12_about_91 : decode (mC M_X12_about) 91 = .ok (.ireturn, 1) := by decide +kernel
theorem d_X12_about_92 : decode (mC M_X12_about) 92 = .ok (.aload_n 0, 1) := by decide +kernel
theorem d_X12_about_93 : decode (mC M_X12_about) 93 = .ok (.getfield 26, 3) := by decide +kernel
theorem d_X12_about_96 : decode (mC M_X12_about) 96 = .ok (.iload_n 1, 1) := by decide +kernel
theorem d_X12_about_97 : decode (mC M_X12_about) 97 = .ok (.iaload, 1) := by decide +kernel
theorem d_X12_about_98 : decode (mC M_X12_about) 98 = .ok (.ireturn, 1) := by decide +kernel
theorem d_X12_about_99 : decode (mC M_X12_about) 99 = .ok (.aload_n 0, 1) := by decide +kernel
theorem d_X12_about_100 : decode (mC M_X12_about) 100 = .ok (.getfield 29, 3) := by decide +kernel
theorem d_X12_about_103 : decode (mC M_X12_about) 103 = .ok (.iload_n 1, 1) := by decide +kernel
theorem d_X12_about_104 : decode (mC M_X12_about) 104 = .ok (.baload, 1) := by decide +kernel
theorem d_X12_about_105 : decode (mC M_X12_about) 105 = .ok (.ifCond .eq 7, 3) := by decide +kernel
theorem d_X12_about_108 : decode (mC M_X12_about) 108 = .ok (.iconst 1, 1) := by decide +kernel
theorem d_X12_about_109 : decode (mC M_X12_about) 109 = .ok (.goto 4, 3) := by decide +kernel
theorem d_X12_about_112 : decode (mC M_X12_about) 112 = .ok (.iconst 0, 1) := by decide +kernel
theorem d_X12_about_113 : decode (mC M_X12_about) 113 = .ok (.ireturn, 1) := by decide +kernel
theorem d_X12_about_114 : decode (mC M_X12_about) 114 = .ok (.aload_n 0, 1) := by decide +kernel
theorem d_X12_about_115 : decode (mC M_X12_about) 115 = .ok (.getfield 33, 3) := by decide +kernel
theorem d_X12_about_118 : decode (mC M_X12_about) 118 = .ok (.iload_n 1, 1) := by decide +kernel
theorem d_X12_about_119 : decode (mC M_X12_about) 119 = .ok (.iaload, 1) := by decide +kernel
theorem d_X12_about_120 : decode (mC M_X12_about) 120 = .ok (.ireturn, 1) := by decide +kernel
theorem d_X12_about_121 : decode (mC M_X12_about) 121 = .ok (.aload_n 0, 1) := by decide +kernel
theorem d_X12_about_122 : decode (mC M_X12_about) 122 = .ok (.getfield 36, 3) := by decide +kernel
theorem d_X12_about_125 : decode (mC M_X12_about) 125 = .ok (.iload_n 1, 1) := by decide +kernel
theorem d_X12_about_126 : decode (mC M_X12_about) 126 = .ok (.iaload, 1) := by decide +kernel
theorem d_X12_about_127 : decode (mC M_X12_about) 127 = .ok (.ireturn, 1) := by decide +kernel
theorem d_X12_about_128 : decode (mC M_X12_about) 128 = .ok (.iconst (-1), 1) := by decide +kernel
theorem d_X12_about_129 : decode (mC M_X12_about) 129 = .ok (.ireturn, 1) := by decide +kernel
theorem d_X12_agree_0 : decode (mC M_X12_agree) 0 = .ok (.aload_n 0, 1) := by decide +kernel
theorem d_X12_agree_1 : decode (mC M_X12_agree) 1 = .ok (.iconst 0, 1) := by decide +kernel
theorem d_X12_agree_2 : decode (mC M_X12_agree) 2 = .ok (.putfield 1, 3) := by decide +kernel
theorem d_X12_agree_5 : decode (mC M_X12_agree) 5 = .ok (.aload_n 0, 1) := by decide +kernel
theorem d_X12_agree_6 : decode (mC M_X12_agree) 6 = .ok (.getfield 345, 3) := by decide +kernel
theorem d_X12_agree_9 : decode (mC M_X12_agree) 9 = .ok (.bipush 30, 2) := by decide +kernel
theorem d_X12_agree_11 : decode (mC M_X12_agree) 11 = .ok (.if_icmp .ne 6, 3) := by decide +kernel
theorem d_X12_agree_14 : decode (mC M_X12_agree) 14 = .ok (.bipush (-2), 2) := by decide +kernel
theorem d_X12_agree_16 : decode (mC M_X12_agree) 16 = .ok (.ireturn, 1) := by decide +kernel
theorem d_X12_agree_17 : decode (mC M_X12_agree) 17 = .ok (.aload_n 0, 1) := by decide +kernel
theorem d_X12_agree_18 : decode (mC M_X12_agree) 18 = .ok (.iconst 0, 1) := by decide +kernel
theorem d_X12_agree_19 : decode (mC M_X12_agree) 19 = .ok (.putfield 221, 3) := by decide +kernel
theorem d_X12_agree_22 : decode (mC M_X12_agree) 22 = .ok (.aload_n 0, 1) := by decide +kernel
theorem d_X12_agree_23 : decode (mC M_X12_agree) 23 = .ok (.getfield 103, 3) := by decide +kernel
theorem d_X12_agree_26 : decode (mC M_X12_agree) 26 = .ok (.aload_n 0, 1) := by decide +kernel
theorem d_X12_agree_27 : decode (mC M_X12_agree) 27 = .ok (.getfield 345, 3) := by decide +kernel
theorem d_X12_agree_30 : decode (mC M_X12_agree) 30 = .ok (.iconst 0, 1) := by decide +kernel
theorem d_X12_agree_31 : decode (mC M_X12_agree) 31 = .ok (.iastore, 1) := by decide +kernel
theorem d_X12_agree_32 : decode (mC M_X12_agree) 32 = .ok (.aload_n 0, 1) := by decide +kernel
theorem d_X12_agree_33 : decode (mC M_X12_agree) 33 = .ok (.aload_n 0, 1) := by decide +kernel
theorem d_X12_agree_34 : decode (mC M_X12_agree) 34 = .ok (.getfield 48, 3) := by decide +kernel
theorem d_X12_agree_37 : decode (mC M_X12_agree) 37 = .ok (.aload_n 0, 1) := by decide +kernel
theorem d_X12_agree_38 : decode (mC M_X12_agree) 38 = .ok (.getfield 177, 3) := by decide +kernel
theorem d_X12_agree_41 : decode (mC M_X12_agree) 41 = .ok (.iconst 0, 1) := by decide +kernel
theorem d_X12_agree_42 : decode (mC M_X12_agree) 42 = .ok (.invokevirtual 288, 3) := by decide +kernel
theorem d_X12_agree_45 : decode (mC M_X12_agree) 45 = .ok (.aload_n 0, 1) := by decide +kernel
theorem d_X12_agree_46 : decode (mC M_X12_agree) 46 = .ok (.getfield 221, 3) := by decide +kernel
theorem d_X12_agree_49 : decode (mC M_X12_agree) 49 = .ok (.ifCond .ne 17, 3) := by decide +kernel
theorem d_X12_agree_52 : decode (mC M_X12_agree) 52 = .ok (.aload_n 0, 1) := by decide +kernel
theorem d_X12_agree_53 : decode (mC M_X12_agree) 53 = .ok (.getfield 192, 3) := by decide +kernel
theorem d_X12_agree_56 : decode (mC M_X12_agree) 56 = .ok (.ifCond .eq 10, 3) := by decide +kernel
theorem d_X12_agree_59 : decode (mC M_X12_agree) 59 = .ok (.aload_n 0, 1) := by decide +kernel
theorem d_X12_agree_60 : decode (mC M_X12_agree) 60 = .ok (.invokevirtual 354, 3) := by decide +kernel
theorem d_X12_agree_63 : decode (mC M_X12_agree) 63 = .ok (.goto (-18), 3) := by decide +kernel
theorem d_X12_agree_66 : decode (mC M_X12_agree) 66 = .ok (.aload_n 0, 1) := by decide +kernel
theorem d_X12_agree_67 : decode (mC M_X12_agree) 67 = .ok (.iconst 0, 1) := by decide +kernel
theorem d_X12_agree_68 : decode (mC M_X12_agree) 68 = .ok (.putfield 177, 3) := by decide +kernel
theorem d_X12_agree_71 : decode (mC M_X12_agree) 71 = .ok (.aload_n 0, 1) := by decide +kernel
theorem d_X12_agree_72 : decode (mC M_X12_agree) 72 = .ok (.aload_n 0, 1) := by decide +kernel
theorem d_X12_agree_73 : decode (mC M_X12_agree) 73 = .ok (.getfield 221, 3) := by decide +kernel
theorem d_X12_agree_76 : decode (mC M_X12_agree) 76 = .ok (.ifCond .ne 7, 3) := by decide +kernel
theorem d_X12_agree_79 : decode (mC M_X12_agree) 79 = .ok (.iconst (-1), 1) := by decide +kernel
theorem d_X12_agree_80 : decode (mC M_X12_agree) 80 = .ok (.goto 7, 3) := by decide +kernel
theorem d_X12_agree_83 : decode (mC M_X12_agree) 83 = .ok (.aload_n 0, 1) := by decide +kernel
theorem d_X12_agree_84 : decode (mC M_X12_agree) 84 = .ok (.getfield 224, 3) := by decide +kernel
theorem d_X12_agree_87 : decode (mC M_X12_agree) 87 = .ok (.putfield 52, 3) := by decide +kernel
theorem d_X12_agree_90 : decode (mC M_X12_agree) 90 = .ok (.aload_n 0, 1) := by decide +kernel
theorem d_X12_agree_91 : decode (mC M_X12_agree) 91 = .ok (.getfield 221, 3) := by decide +kernel
theorem d_X12_agree_94 : decode (mC M_X12_agree) 94 = .ok (.ifCond .eq 11, 3) := by decide +kernel
theorem d_X12_agree_97 : decode (mC M_X12_agree) 97 = .ok (.bipush (-2), 2) := by decide +kernel
theorem d_X12_agree_99 : decode (mC M_X12_agree) 99 = .ok (.aload_n 0, 1) := by decide +kernel
theorem d_X12_agree_100 : decode (mC M_X12_agree) 100 = .ok (.getfield 221, 3) := by decide +kernel
theorem d_X12_agree_103 : decode (mC M_X12_agree) 103 = .ok (.isub, 1) := by decide +kernel
theorem d_X12_agree_104 : decode (mC M_X12_agree) 104 = .ok (.ireturn, 1) := by decide +kernel
theorem d_X12_agree_105 : decode (mC M_X12_agree) 105 = .ok (.aload_n 0, 1) := by decide +kernel
theorem d_X12_agree_106 : decode (mC M_X12_agree) 106 = .ok (.dup, 1) := by decide +kernel
theorem d_X12_agree_107 : decode (mC M_X12_agree) 107 = .ok (.getfield 345, 3) := by decide +kernel
theorem d_X12_agree_110 : decode (mC M_X12_agree) 110 = .ok (.iconst 1, 1) := by decide +kernel
theorem d_X12_agree_111 : decode (mC M_X12_agree) 111 = .ok (.iadd, 1) := by decide +kernel
theorem d_X12_agree_112 : decode (mC M_X12_agree) 112 = .ok (.putfield 345, 3) := by decide +kernel
theorem d_X12_agree_115 : decode (mC M_X12_agree) 115 = .ok (.aload_n 0, 1) := by decide +kernel
theorem d_X12_agree_116 : decode (mC M_X12_agree) 116 = .ok (.getfield 345, 3) := by decide +kernel
theorem d_X12_agree_119 : decode (mC M_X12_agree) 119 = .ok (.iconst 1, 1) := by decide +kernel
theorem d_X12_agree_120 : decode (mC M_X12_agree) 120 = .ok (.isub, 1) := by decide +kernel
theorem d_X12_agree_121 : decode (mC M_X12_agree) 121 = .ok (.ireturn, 1) := by decide +kernel
theorem d_X12_all_0 : decode (mC M_X12_all) 0 = .ok (.aload_n 0, 1) := by decide +kernel
theorem d_X12_all_1 : decode (mC M_X12_all) 1 = .ok (.iload_n 1, 1) := by decide +kernel
theorem d_X12_all_2 : decode (mC M_X12_all) 2 = .ok (.invokevirtual 243, 3) := by decide +kernel
theorem d_X12_all_5 : decode (mC M_X12_all) 5 = .ok (.istore_n 2, 1) := by decide +kernel
theorem d_X12_all_6 : decode (mC M_X12_all) 6 = .ok (.aload_n 0, 1) := by decide +kernel
theorem d_X12_all_7 : decode (mC M_X12_all) 7 = .ok (.getfield 221, 3) := by decide +kernel
theorem d_X12_all_10 : decode (mC M_X12_all) 10 = .ok (.ifCond .ne 39, 3) := by decide +kernel
theorem d_X12_all_13 : decode (mC M_X12_all) 13 = .ok (.aload_n 0, 1) := by decide +kernel
theorem d_X12_all_14 : decode (mC M_X12_all) 14 = .ok (.ldc 246, 2) := by decide +kernel
theorem d_X12_all_16 : decode (mC M_X12_all) 16 = .ok (.invokevirtual 234, 3) := by decide +kernel
theorem d_X12_all_19 : decode (mC M_X12_all) 19 = .ok (.ifCond .eq 30, 3) := by decide +kernel
theorem d_X12_all_22 : decode (mC M_X12_all) 22 = .ok (.aload_n 0, 1) := by decide +kernel
theorem d_X12_all_23 : decode (mC M_X12_all) 23 = .ok (.invokevirtual 208, 3) := by decide +kernel
theorem d_X12_all_26 : decode (mC M_X12_all) 26 = .ok (.aload_n 0, 1) := by decide +kernel
theorem d_X12_all_27 : decode (mC M_X12_all) 27 = .ok (.iload_n 1, 1) := by decide +kernel
theorem d_X12_all_28 : decode (mC M_X12_all) 28 = .ok (.invokevirtual 243, 3) := by decide +kernel
theorem d_X12_all_31 : decode (mC M_X12_all) 31 = .ok (.istore_n 3, 1) := by decide +kernel
theorem d_X12_all_32 : decode (mC M_X12_all) 32 = .ok (.iload_n 2, 1) := by decide +kernel
theorem d_X12_all_33 : decode (mC M_X12_all) 33 = .ok (.ifCond .eq 11, 3) := by decide +kernel
theorem d_X12_all_36 : decode (mC M_X12_all) 36 = .ok (.iload_n 3, 1) := by decide +kernel
theorem d_X12_all_37 : decode (mC M_X12_all) 37 = .ok (.ifCond .eq 7, 3) := by decide +kernel
theorem d_X12_all_40 : decode (mC M_X12_all) 40 = .ok (.iconst 1, 1) := by decide +kernel
theorem d_X12_all_41 : decode (mC M_X12_all) 41 = .ok (.goto 4, 3) := by decide +kernel
theorem d_X12_all_44 : decode (mC M_X12_all) 44 = .ok (.iconst 0, 1) := by decide +kernel
theorem d_X12_all_45 : decode (mC M_X12_all) 45 = .ok (.istore_n 2, 1) := by decide +kernel
theorem d_X12_all_46 : decode (mC M_X12_all) 46 = .ok (.goto (-40), 3) := by decide +kernel
theorem d_X12_all_49 : decode (mC M_X12_all) 49 = .ok (.iload_n 2, 1) := by decide +kernel
theorem d_X12_all_50 : decode (mC M_X12_all) 50 = .ok (.ireturn, 1) := by decide +kernel
theorem d_X12_allCalled_0 : decode (mC M_X12_allCalled) 0 = .ok (.iconst 0, 1) := by decide +kernel
theorem d_X12_allCalled_1 : decode (mC M_X12_allCalled) 1 = .ok (.istore_n 1, 1) := by decide +kernel
theorem d_X12_allCalled_2 : decode (mC M_X12_allCalled) 2 = .ok (.iconst 0, 1) := by decide +kernel
theorem d_X12_allCalled_3 : decode (mC M_X12_allCalled) 3 = .ok (.istore_n 2, 1) := by decide +kernel
theorem d_X12_allCalled_4 : decode (mC M_X12_allCalled) 4 = .ok (.iload_n 2, 1) := by decide +kernel
theorem d_X12_allCalled_5 : decode (mC M_X12_allCalled) 5 = .ok (.aload_n 0, 1) := by decide +kernel
theorem d_X12_allCalled_6 : decode (mC M_X12_allCalled) 6 = .ok (.getfield 151, 3) := by decide +kernel
theorem d_X12_allCalled_9 : decode (mC M_X12_allCalled) 9 = .ok (.if_icmp .ge 22, 3) := by decide +kernel
theorem d_X12_allCalled_12 : decode (mC M_X12_allCalled) 12 = .ok (.aload_n 0, 1) := by decide +kernel
theorem d_X12_allCalled_13 : decode (mC M_X12_allCalled) 13 = .ok (.getfield 39, 3) := by decide +kernel
theorem d_X12_allCalled_16 : decode (mC M_X12_allCalled) 16 = .ok (.iload_n 2, 1) := by decide +kernel
theorem d_X12_allCalled_17 : decode (mC M_X12_allCalled) 17 = .ok (.iaload, 1) := by decide +kernel
theorem d_X12_allCalled_18 : decode (mC M_X12_allCalled) 18 = .ok (.iconst (-1), 1) := by decide +kernel
theorem d_X12_allCalled_19 : decode (mC M_X12_allCalled) 19 = .ok (.if_icmp .eq 6, 3) := by decide +kernel
theorem d_X12_allCalled_22 : decode (mC M_X12_allCalled) 22 = .ok (.iinc 1 1, 3) := by decide +kernel
theorem d_X12_allCalled_25 : decode (mC M_X12_allCalled) 25 = .ok (.iinc 2 1, 3) := by decide +kernel
theorem d_X12_allCalled_28 : decode (mC M_X12_allCalled) 28 = .ok (.goto (-24), 3) := by decide +kernel
theorem d_X12_allCalled_31 : decode (mC M_X12_allCalled) 31 = .ok (.iload_n 1, 1) := by decide +kernel
theorem d_X12_allCalled_32 : decode (mC M_X12_allCalled) 32 = .ok (.ireturn, 1) := by decide +kernel
theorem d_X12_ask_0 : decode (mC M_X12_ask) 0 = .ok (.aload_n 0, 1) := by decide +kernel
theorem d_X12_ask_1 : decode (mC M_X12_ask) 1 = .ok (.iconst 0, 1) := by decide +kernel
theorem d_X12_ask_2 : decode (mC M_X12_ask) 2 = .ok (.putfield 1, 3) := by decide +kernel
theorem d_X12_ask_5 : decode (mC M_X12_ask) 5 = .ok (.aload_n 0, 1) := by decide +kernel
theorem d_X12_ask_6 : decode (mC M_X12_ask) 6 = .ok (.iload_n 1, 1) := by decide +kernel
theorem d_X12_ask_7 : decode (mC M_X12_ask) 7 = .ok (.invokevirtual 311, 3) := by decide +kernel
theorem d_X12_ask_10 : decode (mC M_X12_ask) 10 = .ok (.ifCond .ne 5, 3) := by decide +kernel
theorem d_X12_ask_13 : decode (mC M_X12_ask) 13 = .ok (.iconst (-1), 1) := by decide +kernel
theorem d_X12_ask_14 : decode (mC M_X12_ask) 14 = .ok (.ireturn, 1) := by decide +kernel
theorem d_X12_ask_15 : decode (mC M_X12_ask) 15 = .ok (.iload_n 2, 1) := by decide +kernel
theorem d_X12_ask_16 : decode (mC M_X12_ask) 16 = .ok (.tableswitch 70 0 4 #[36, 43, 50, 57, 64], 36) := by decide +kernel
theorem d_X12_ask_52 : decode (mC M_X12_ask) 52 = .ok (.aload_n 0, 1) := by decide +kernel
theorem d_X12_ask_53 : decode (mC M_X12_ask) 53 = .ok (.getfield 58, 3) := by decide +kernel
theorem d_X12_ask_56 : decode (mC M_X12_ask) 56 = .ok (.iload_n 1, 1) := by decide +kernel
theorem d_X12_ask_57 : decode (mC M_X12_ask) 57 = .ok (.iaload, 1) := by decide +kernel
theorem d_X12_ask_58 : decode (mC M_X12_ask) 58 = .ok (.ireturn, 1) := by decide +kernel
theorem d_X12_ask_59 : decode (mC M_X12_ask) 59 = .ok (.aload_n 0, 1) := by decide +kernel
theorem d_X12_ask_60 : decode (mC M_X12_ask) 60 = .ok (.getfield 61, 3) := by decide +kernel
theorem d_X12_ask_63 : decode (mC M_X12_ask) 63 = .ok (.iload_n 1, 1) := by decide +kernel
theorem d_X12_ask_64 : decode (mC M_X12_ask) 64 = .ok (.iaload, 1) := by decide +kernel
theorem d_X12_ask_65 : decode (mC M_X12_ask) 65 = .ok (.ireturn, 1) := by decide +kernel
theorem d_X12_ask_66 : decode (mC M_X12_ask) 66 = .ok (.aload_n 0, 1) := by decide +kernel
theorem d_X12_ask_67 : decode (mC M_X12_ask) 67 = .ok (.getfield 64, 3) := by decide +kernel
theorem d_X12_ask_70 : decode (mC M_X12_ask) 70 = .ok (.iload_n 1, 1) := by decide +kernel
theorem d_X12_ask_71 : decode (mC M_X12_ask) 71 = .ok (.iaload, 1) := by decide +kernel
theorem d_X12_ask_72 : decode (mC M_X12_ask) 72 = .ok (.ireturn, 1) := by decide +kernel
theorem d_X12_ask_73 : decode (mC M_X12_ask) 73 = .ok (.aload_n 0, 1) := by decide +kernel
theorem d_X12_ask_74 : decode (mC M_X12_ask) 74 = .ok (.getfield 67, 3) := by decide +kernel
theorem d_X12_ask_77 : decode (mC M_X12_ask) 77 = .ok (.iload_n 1, 1) := by decide +kernel
theorem d_X12_ask_78 : decode (mC M_X12_ask) 78 = .ok (.iaload, 1) := by decide +kernel
theorem d_X12_ask_79 : decode (mC M_X12_ask) 79 = .ok (.ireturn, 1) := by decide +kernel
theorem d_X12_ask_80 : decode (mC M_X12_ask) 80 = .ok (.aload_n 0, 1) := by decide +kernel
theorem d_X12_ask_81 : decode (mC M_X12_ask) 81 = .ok (.iload_n 1, 1) := by decide +kernel
theorem d_X12_ask_82 : decode (mC M_X12_ask) 82 = .ok (.invokevirtual 317, 3) := by decide +kernel
theorem d_X12_ask_85 : decode (mC M_X12_ask) 85 = .ok (.ireturn, 1) := by decide +kernel
theorem d_X12_ask_86 : decode (mC M_X12_ask) 86 = .ok (.iconst (-1), 1) := by decide +kernel
theorem d_X12_ask_87 : decode (mC M_X12_ask) 87 = .ok (.ireturn, 1) := by decide +kernel
theorem d_X12_asks_0 : decode (mC M_X12_asks) 0 = .ok (.aload_n 0, 1) := by decide +kernel
theorem d_X12_asks_1 : decode (mC M_X12_asks) 1 = .ok (.iconst 0, 1) := by decide +kernel
theorem d_X12_asks_2 : decode (mC M_X12_asks) 2 = .ok (.putfield 1, 3) := by decide +kernel
theorem d_X12_asks_5 : decode (mC M_X12_asks) 5 = .ok (.aload_n 0, 1) := by decide +kernel
theorem d_X12_asks_6 : decode (mC M_X12_asks) 6 = .ok (.iconst 0, 1) := by decide +kernel
theorem d_X12_asks_7 : decode (mC M_X12_asks) 7 = .ok (.putfield 221, 3) := by decide +kernel
theorem d_X12_asks_10 : decode (mC M_X12_asks) 10 = .ok (.aload_n 0, 1) := by decide +kernel
theorem d_X12_asks_11 : decode (mC M_X12_asks) 11 = .ok (.iconst 1, 1) := by decide +kernel
theorem d_X12_asks_12 : decode (mC M_X12_asks) 12 = .ok (.putfield 263, 3) := by decide +kernel
theorem d_X12_asks_15 : decode (mC M_X12_asks) 15 = .ok (.aload_n 0, 1) := by decide +kernel
theorem d_X12_asks_16 : decode (mC M_X12_asks) 16 = .ok (.iconst 0, 1) := by decide +kernel
theorem d_X12_asks_17 : decode (mC M_X12_asks) 17 = .ok (.putfield 277, 3) := by decide +kernel
theorem d_X12_asks_20 : decode (mC M_X12_asks) 20 = .ok (.aload_n 0, 1) := by decide +kernel
theorem d_X12_asks_21 : decode (mC M_X12_asks) 21 = .ok (.aload_n 0, 1) := by decide +kernel
theorem d_X12_asks_22 : decode (mC M_X12_asks) 22 = .ok (.getfield 48, 3) := by decide +kernel
theorem d_X12_asks_25 : decode (mC M_X12_asks) 25 = .ok (.aload_n 0, 1) := by decide +kernel
theorem d_X12_asks_26 : decode (mC M_X12_asks) 26 = .ok (.getfield 177, 3) := by decide +kernel
theorem d_X12_asks_29 : decode (mC M_X12_asks) 29 = .ok (.iconst 0, 1) := by decide +kernel
theorem d_X12_asks_30 : decode (mC M_X12_asks) 30 = .ok (.invokevirtual 288, 3) := by decide +kernel
theorem d_X12_asks_33 : decode (mC M_X12_asks) 33 = .ok (.aload_n 0, 1) := by decide +kernel
theorem d_X12_asks_34 : decode (mC M_X12_asks) 34 = .ok (.getfield 221, 3) := by decide +kernel
theorem d_X12_asks_37 : decode (mC M_X12_asks) 37 = .ok (.ifCond .ne 17, 3) := by decide +kernel
theorem d_X12_asks_40 : decode (mC M_X12_asks) 40 = .ok (.aload_n 0, 1) := by decide +kernel
theorem d_X12_asks_41 : decode (mC M_X12_asks) 41 = .ok (.getfield 192, 3) := by decide +kernel
theorem d_X12_asks_44 : decode (mC M_X12_asks) 44 = .ok (.ifCond .eq 10, 3) := by decide +kernel
theorem d_X12_asks_47 : decode (mC M_X12_asks) 47 = .ok (.aload_n 0, 1) := by decide +kernel
theorem d_X12_asks_48 : decode (mC M_X12_asks) 48 = .ok (.invokevirtual 292, 3) := by decide +kernel
theorem d_X12_asks_51 : decode (mC M_X12_asks) 51 = .ok (.goto (-18), 3) := by decide +kernel
theorem d_X12_asks_54 : decode (mC M_X12_asks) 54 = .ok (.aload_n 0, 1) := by decide +kernel
theorem d_X12_asks_55 : decode (mC M_X12_asks) 55 = .ok (.getfield 177, 3) := by decide +kernel
theorem d_X12_asks_58 : decode (mC M_X12_asks) 58 = .ok (.istore_n 1, 1) := by decide +kernel
theorem d_X12_asks_59 : decode (mC M_X12_asks) 59 = .ok (.aload_n 0, 1) := by decide +kernel
theorem d_X12_asks_60 : decode (mC M_X12_asks) 60 = .ok (.iconst 0, 1) := by decide +kernel
theorem d_X12_asks_61 : decode (mC M_X12_asks) 61 = .ok (.putfield 177, 3) := by decide +kernel
theorem d_X12_asks_64 : decode (mC M_X12_asks) 64 = .ok (.aload_n 0, 1) := by decide +kernel
theorem d_X12_asks_65 : decode (mC M_X12_asks) 65 = .ok (.aload_n 0, 1) := by decide +kernel
theorem d_X12_asks_66 : decode (mC M_X12_asks) 66 = .ok (.getfield 221, 3) := by decide +kernel
theorem d_X12_asks_69 : decode (mC M_X12_asks) 69 = .ok (.ifCond .ne 7, 3) := by decide +kernel
theorem d_X12_asks_72 : decode (mC M_X12_asks) 72 = .ok (.iconst (-1), 1) := by decide +kernel
theorem d_X12_asks_73 : decode (mC M_X12_asks) 73 = .ok (.goto 7, 3) := by decide +kernel
theorem d_X12_asks_76 : decode (mC M_X12_asks) 76 = .ok (.aload_n 0, 1) := by decide +kernel
theorem d_X12_asks_77 : decode (mC M_X12_asks) 77 = .ok (.getfield 224, 3) := by decide +kernel
theorem d_X12_asks_80 : decode (mC M_X12_asks) 80 = .ok (.putfield 52, 3) := by decide +kernel
theorem d_X12_asks_83 : decode (mC M_X12_asks) 83 = .ok (.aload_n 0, 1) := by decide +kernel
theorem d_X12_asks_84 : decode (mC M_X12_asks) 84 = .ok (.getfield 221, 3) := by decide +kernel
theorem d_X12_asks_87 : decode (mC M_X12_asks) 87 = .ok (.ifCond .eq 11, 3) := by decide +kernel
theorem d_X12_asks_90 : decode (mC M_X12_asks) 90 = .ok (.bipush (-2), 2) := by decide +kernel
theorem d_X12_asks_92 : decode (mC M_X12_asks) 92 = .ok (.aload_n 0, 1) := by decide +kernel
theorem d_X12_asks_93 : decode (mC M_X12_asks) 93 = .ok (.getfield 221, 3) := by decide +kernel
theorem d_X12_asks_96 : decode (mC M_X12_asks) 96 = .ok (.isub, 1) := by decide +kernel
theorem d_X12_asks_97 : decode (mC M_X12_asks) 97 = .ok (.ireturn, 1) := by decide +kernel
theorem d_X12_asks_98 : decode (mC M_X12_asks) 98 = .ok (.iconst 0, 1) := by decide +kernel
theorem d_X12_asks_99 : decode (mC M_X12_asks) 99 = .ok (.istore_n 2, 1) := by decide +kernel
theorem d_X12_asks_100 : decode (mC M_X12_asks) 100 = .ok (.iload_n 2, 1) := by decide +kernel
theorem d_X12_asks_101 : decode (mC M_X12_asks) 101 = .ok (.iload_n 1, 1) := by decide +kernel
theorem d_X12_asks_102 : decode (mC M_X12_asks) 102 = .ok (.if_icmp .ge 21, 3) := by decide +kernel
theorem d_X12_asks_105 : decode (mC M_X12_asks) 105 = .ok (.aload_n 0, 1) := by decide +kernel
theorem d_X12_asks_106 : decode (mC M_X12_asks) 106 = .ok (.getfield 55, 3) := by decide +kernel
theorem d_X12_asks_109 : decode (mC M_X12_asks) 109 = .ok (.iload_n 2, 1) := by decide +kernel
theorem d_X12_asks_110 : decode (mC M_X12_asks) 110 = .ok (.aload_n 0, 1) := by decide +kernel
theorem d_X12_asks_111 : decode (mC M_X12_asks) 111 = .ok (.getfield 48, 3) := by decide +kernel
theorem d_X12_asks_114 : decode (mC M_X12_asks) 114 = .ok (.iload_n 2, 1) := by decide +kernel
theorem d_X12_asks_115 : decode (mC M_X12_asks) 115 = .ok (.baload, 1) := by decide +kernel
theorem d_X12_asks_116 : decode (mC M_X12_asks) 116 = .ok (.bastore, 1) := by decide +kernel
theorem d_X12_asks_117 : decode (mC M_X12_asks) 117 = .ok (.iinc 2 1, 3) := by decide +kernel
theorem d_X12_asks_120 : decode (mC M_X12_asks) 120 = .ok (.goto (-20), 3) := by decide +kernel
theorem d_X12_asks_123 : decode (mC M_X12_asks) 123 = .ok (.aload_n 0, 1) := by decide +kernel
theorem d_X12_asks_124 : decode (mC M_X12_asks) 124 = .ok (.iload_n 1, 1) := by decide +kernel
theorem d_X12_asks_125 : decode (mC M_X12_asks) 125 = .ok (.putfield 295, 3) := by decide +kernel
theorem d_X12_asks_128 : decode (mC M_X12_asks) 128 = .ok (.aload_n 0, 1) := by decide +kernel
theorem d_X12_asks_129 : decode (mC M_X12_asks) 129 = .ok (.aload_n 0, 1) := by decide +kernel
theorem d_X12_asks_130 : decode (mC M_X12_asks) 130 = .ok (.getfield 277, 3) := by decide +kernel
theorem d_X12_asks_133 : decode (mC M_X12_asks) 133 = .ok (.putfield 298, 3) := by decide +kernel
theorem d_X12_asks_136 : decode (mC M_X12_asks) 136 = .ok (.iconst 0, 1) := by decide +kernel
theorem d_X12_asks_137 : decode (mC M_X12_asks) 137 = .ok (.istore_n 2, 1) := by decide +kernel
theorem d_X12_asks_138 : decode (mC M_X12_asks) 138 = .ok (.iload_n 2, 1) := by decide +kernel
theorem d_X12_asks_139 : decode (mC M_X12_asks) 139 = .ok (.aload_n 0, 1) := by decide +kernel
theorem d_X12_asks_140 : decode (mC M_X12_asks) 140 = .ok (.getfield 298, 3) := by decide +kernel
theorem d_X12_asks_143 : decode (mC M_X12_asks) 143 = .ok (.if_icmp .ge 69, 3) := by decide +kernel
theorem d_X12_asks_146 : decode (mC M_X12_asks) 146 = .ok (.aload_n 0, 1) := by decide +kernel
theorem d_X12_asks_147 : decode (mC M_X12_asks) 147 = .ok (.getfield 58, 3) := by decide +kernel
theorem d_X12_asks_150 : decode (mC M_X12_asks) 150 = .ok (.iload_n 2, 1) := by decide +kernel
theorem d_X12_asks_151 : decode (mC M_X12_asks) 151 = .ok (.aload_n 0, 1) := by decide +kernel
theorem d_X12_asks_152 : decode (mC M_X12_asks) 152 = .ok (.getfield 73, 3) := by decide +kernel
theorem d_X12_asks_155 : decode (mC M_X12_asks) 155 = .ok (.iload_n 2, 1) := by decide +kernel
theorem d_X12_asks_156 : decode (mC M_X12_asks) 156 = .ok (.iaload, 1) := by decide +kernel
theorem d_X12_asks_157 : decode (mC M_X12_asks) 157 = .ok (.iastore, 1) := by decide +kernel
theorem d_X12_asks_158 : decode (mC M_X12_asks) 158 = .ok (.aload_n 0, 1) := by decide +kernel
theorem d_X12_asks_159 : decode (mC M_X12_asks) 159 = .ok (.getfield 61, 3) := by decide +kernel
theorem d_X12_asks_162 : decode (mC M_X12_asks) 162 = .ok (.iload_n 2, 1) := by decide +kernel
theorem d_X12_asks_163 : decode (mC M_X12_asks) 163 = .ok (.aload_n 0, 1) := by decide +kernel
theorem d_X12_asks_164 : decode (mC M_X12_asks) 164 = .ok (.getfield 76, 3) := by decide +kernel
theorem d_X12_asks_167 : decode (mC M_X12_asks) 167 = .ok (.iload_n 2, 1) := by decide +kernel
theorem d_X12_asks_168 : decode (mC M_X12_asks) 168 = .ok (.iaload, 1) := by decide +kernel
theorem d_X12_asks_169 : decode (mC M_X12_asks) 169 = .ok (.iastore, 1) := by decide +kernel
theorem d_X12_asks_170 : decode (mC M_X12_asks) 170 = .ok (.aload_n 0, 1) := by decide +kernel
theorem d_X12_asks_171 : decode (mC M_X12_asks) 171 = .ok (.getfield 64, 3) := by decide +kernel
theorem d_X12_asks_174 : decode (mC M_X12_asks) 174 = .ok (.iload_n 2, 1) := by decide +kernel
theorem d_X12_asks_175 : decode (mC M_X12_asks) 175 = .ok (.aload_n 0, 1) := by decide +kernel
theorem d_X12_asks_176 : decode (mC M_X12_asks) 176 = .ok (.getfield 79, 3) := by decide +kernel
theorem d_X12_asks_179 : decode (mC M_X12_asks) 179 = .ok (.iload_n 2, 1) := by decide +kernel
theorem d_X12_asks_180 : decode (mC M_X12_asks) 180 = .ok (.iaload, 1) := by decide +kernel
theorem d_X12_asks_181 : decode (mC M_X12_asks) 181 = .ok (.iastore, 1) := by decide +kernel
theorem d_X12_asks_182 : decode (mC M_X12_asks) 182 = .ok (.aload_n 0, 1) := by decide +kernel
theorem d_X12_asks_183 : decode (mC M_X12_asks) 183 = .ok (.getfield 67, 3) := by decide +kernel
theorem d_X12_asks_186 : decode (mC M_X12_asks) 186 = .ok (.iload_n 2, 1) := by decide +kernel
theorem d_X12_asks_187 : decode (mC M_X12_asks) 187 = .ok (.aload_n 0, 1) := by decide +kernel
theorem d_X12_asks_188 : decode (mC M_X12_asks) 188 = .ok (.getfield 82, 3) := by decide +kernel
theorem d_X12_asks_191 : decode (mC M_X12_asks) 191 = .ok (.iload_n 2, 1) := by decide +kernel
theorem d_X12_asks_192 : decode (mC M_X12_asks) 192 = .ok (.iaload, 1) := by decide +kernel
theorem d_X12_asks_193 : decode (mC M_X12_asks) 193 = .ok (.iastore, 1) := by decide +kernel
theorem d_X12_asks_194 : decode (mC M_X12_asks) 194 = .ok (.aload_n 0, 1) := by decide +kernel
theorem d_X12_asks_195 : decode (mC M_X12_asks) 195 = .ok (.getfield 70, 3) := by decide +kernel
theorem d_X12_asks_198 : decode (mC M_X12_asks) 198 = .ok (.iload_n 2, 1) := by decide +kernel
theorem d_X12_asks_199 : decode (mC M_X12_asks) 199 = .ok (.aload_n 0, 1) := by decide +kernel
theorem d_X12_asks_200 : decode (mC M_X12_asks) 200 = .ok (.getfield 85, 3) := by decide +kernel
theorem d_X12_asks_203 : decode (mC M_X12_asks) 203 = .ok (.iload_n 2, 1) := by decide +kernel
theorem d_X12_asks_204 : decode (mC M_X12_asks) 204 = .ok (.iaload, 1) := by decide +kernel
theorem d_X12_asks_205 : decode (mC M_X12_asks) 205 = .ok (.iastore, 1) := by decide +kernel
theorem d_X12_asks_206 : decode (mC M_X12_asks) 206 = .ok (.iinc 2 1, 3) := by decide +kernel
theorem d_X12_asks_209 : decode (mC M_X12_asks) 209 = .ok (.goto (-71), 3) := by decide +kernel
theorem d_X12_asks_212 : decode (mC M_X12_asks) 212 = .ok (.aload_n 0, 1) := by decide +kernel
theorem d_X12_asks_213 : decode (mC M_X12_asks) 213 = .ok (.invokevirtual 301, 3) := by decide +kernel
theorem d_X12_asks_216 : decode (mC M_X12_asks) 216 = .ok (.aload_n 0, 1) := by decide +kernel
theorem d_X12_asks_217 : decode (mC M_X12_asks) 217 = .ok (.getfield 298, 3) := by decide +kernel
theorem d_X12_asks_220 : decode (mC M_X12_asks) 220 = .ok (.ireturn, 1) := by decide +kernel
theorem d_X12_away_0 : decode (mC M_X12_away) 0 = .ok (.aload_n 0, 1) := by decide +kernel
theorem d_X12_away_1 : decode (mC M_X12_away) 1 = .ok (.iconst 0, 1) := by decide +kernel
theorem d_X12_away_2 : decode (mC M_X12_away) 2 = .ok (.putfield 1, 3) := by decide +kernel
theorem d_X12_away_5 : decode (mC M_X12_away) 5 = .ok (.aload_n 0, 1) := by decide +kernel
theorem d_X12_away_6 : decode (mC M_X12_away) 6 = .ok (.iload_n 1, 1) := by decide +kernel
theorem d_X12_away_7 : decode (mC M_X12_away) 7 = .ok (.invokevirtual 159, 3) := by decide +kernel
theorem d_X12_away_10 : decode (mC M_X12_away) 10 = .ok (.ifCond .eq 13, 3) := by decide +kernel
theorem d_X12_away_13 : decode (mC M_X12_away) 13 = .ok (.aload_n 0, 1) := by decide +kernel
theorem d_X12_away_14 : decode (mC M_X12_away) 14 = .ok (.getfield 39, 3) := by decide +kernel
theorem d_X12_away_17 : decode (mC M_X12_away) 17 = .ok (.iload_n 1, 1) := by decide +kernel
theorem d_X12_away_18 : decode (mC M_X12_away) 18 = .ok (.iaload, 1) := by decide +kernel
theorem d_X12_away_19 : decode (mC M_X12_away) 19 = .ok (.iconst (-1), 1) := by decide +kernel
theorem d_X12_away_20 : decode (mC M_X12_away) 20 = .ok (.if_icmp .eq 5, 3) := by decide +kernel
theorem d_X12_away_23 : decode (mC M_X12_away) 23 = .ok (.iconst 0, 1) := by decide +kernel
theorem d_X12_away_24 : decode (mC M_X12_away) 24 = .ok (.ireturn, 1) := by decide +kernel
theorem d_X12_away_25 : decode (mC M_X12_away) 25 = .ok (.aload_n 0, 1) := by decide +kernel
theorem d_X12_away_26 : decode (mC M_X12_away) 26 = .ok (.getfield 29, 3) := by decide +kernel
theorem d_X12_away_29 : decode (mC M_X12_away) 29 = .ok (.iload_n 1, 1) := by decide +kernel
theorem d_X12_away_30 : decode (mC M_X12_away) 30 = .ok (.iload_n 2, 1) := by decide +kernel
theorem d_X12_away_31 : decode (mC M_X12_away) 31 = .ok (.bastore, 1) := by decide +kernel
theorem d_X12_away_32 : decode (mC M_X12_away) 32 = .ok (.iconst 1, 1) := by decide +kernel
theorem d_X12_away_33 : decode (mC M_X12_away) 33 = .ok (.ireturn, 1) := by decide +kernel
theorem d_X12_buses_0 : decode (mC M_X12_buses) 0 = .ok (.aload_n 0, 1) := by decide +kernel
theorem d_X12_buses_1 : decode (mC M_X12_buses) 1 = .ok (.iconst 0, 1) := by decide +kernel
theorem d_X12_buses_2 : decode (mC M_X12_buses) 2 = .ok (.putfield 1, 3) := by decide +kernel
theorem d_X12_buses_5 : decode (mC M_X12_buses) 5 = .ok (.iload_n 1, 1) := by decide +kernel
theorem d_X12_buses_6 : decode (mC M_X12_buses) 6 = .ok (.iconst 0, 1) := by decide +kernel
theorem d_X12_buses_7 : decode (mC M_X12_buses) 7 = .ok (.iconst 3, 1) := by decide +kernel
theorem d_X12_buses_8 : decode (mC M_X12_buses) 8 = .ok (.invokestatic 154, 3) := by decide +kernel
theorem d_X12_buses_11 : decode (mC M_X12_buses) 11 = .ok (.ifCond .eq 13, 3) := by decide +kernel
theorem d_X12_buses_14 : decode (mC M_X12_buses) 14 = .ok (.iload_n 2, 1) := by decide +kernel
theorem d_X12_buses_15 : decode (mC M_X12_buses) 15 = .ok (.iconst 1, 1) := by decide +kernel
theorem d_X12_buses_16 : decode (mC M_X12_buses) 16 = .ok (.bipush 100, 2) := by decide +kernel
theorem d_X12_buses_18 : decode (mC M_X12_buses) 18 = .ok (.invokestatic 154, 3) := by decide +kernel
theorem d_X12_buses_21 : decode (mC M_X12_buses) 21 = .ok (.ifCond .ne 5, 3) := by decide +kernel
theorem d_X12_buses_24 : decode (mC M_X12_buses) 24 = .ok (.iconst (-1), 1) := by decide +kernel
theorem d_X12_buses_25 : decode (mC M_X12_buses) 25 = .ok (.ireturn, 1) := by decide +kernel
theorem d_X12_buses_26 : decode (mC M_X12_buses) 26 = .ok (.iconst 0, 1) := by decide +kernel
theorem d_X12_buses_27 : decode (mC M_X12_buses) 27 = .ok (.istore_n 3, 1) := by decide +kernel
theorem d_X12_buses_28 : decode (mC M_X12_buses) 28 = .ok (.iconst 0, 1) := by decide +kernel
theorem d_X12_buses_29 : decode (mC M_X12_buses) 29 = .ok (.istore 4, 2) := by decide +kernel
theorem d_X12_buses_31 : decode (mC M_X12_buses) 31 = .ok (.iload 4, 2) := by decide +kernel
theorem d_X12_buses_33 : decode (mC M_X12_buses) 33 = .ok (.aload_n 0, 1) := by decide +kernel
theorem d_X12_buses_34 : decode (mC M_X12_buses) 34 = .ok (.getfield 151, 3) := by decide +kernel
theorem d_X12_buses_37 : decode (mC M_X12_buses) 37 = .ok (.if_icmp .ge 34, 3) := by decide +kernel
theorem d_X12_buses_40 : decode (mC M_X12_buses) 40 = .ok (.aload_n 0, 1) := by decide +kernel
theorem d_X12_buses_41 : decode (mC M_X12_buses) 41 = .ok (.getfield 39, 3) := by decide +kernel
theorem d_X12_buses_44 : decode (mC M_X12_buses) 44 = .ok (.iload 4, 2) := by decide +kernel
theorem d_X12_buses_46 : decode (mC M_X12_buses) 46 = .ok (.iaload, 1) := by decide +kernel
theorem d_X12_buses_47 : decode (mC M_X12_buses) 47 = .ok (.iconst (-1), 1) := by decide +kernel
theorem d_X12_buses_48 : decode (mC M_X12_buses) 48 = .ok (.if_icmp .eq 17, 3) := by decide +kernel
theorem d_X12_buses_51 : decode (mC M_X12_buses) 51 = .ok (.aload_n 0, 1) := by decide +kernel
theorem d_X12_buses_52 : decode (mC M_X12_buses) 52 = .ok (.getfield 23, 3) := by decide +kernel
theorem d_X12_buses_55 : decode (mC M_X12_buses) 55 = .ok (.iload 4, 2) := by decide +kernel
theorem d_X12_buses_57 : decode (mC M_X12_buses) 57 = .ok (.iaload, 1) := by decide +kernel
theorem d_X12_buses_58 : decode (mC M_X12_buses) 58 = .ok (.iload_n 1, 1) := by decide +kernel
theorem d_X12_buses_59 : decode (mC M_X12_buses) 59 = .ok (.if_icmp .ne 6, 3) := by decide +kernel
theorem d_X12_buses_62 : decode (mC M_X12_buses) 62 = .ok (.iinc 3 1, 3) := by decide +kernel
theorem d_X12_buses_65 : decode (mC M_X12_buses) 65 = .ok (.iinc 4 1, 3) := by decide +kernel
theorem d_X12_buses_68 : decode (mC M_X12_buses) 68 = .ok (.goto (-37), 3) := by decide +kernel
theorem d_X12_buses_71 : decode (mC M_X12_buses) 71 = .ok (.iload_n 3, 1) := by decide +kernel
theorem d_X12_buses_72 : decode (mC M_X12_buses) 72 = .ok (.iload_n 2, 1) := by decide +kernel
theorem d_X12_buses_73 : decode (mC M_X12_buses) 73 = .ok (.iadd, 1) := by decide +kernel
theorem d_X12_buses_74 : decode (mC M_X12_buses) 74 = .ok (.iconst 1, 1) := by decide +kernel
theorem d_X12_buses_75 : decode (mC M_X12_buses) 75 = .ok (.isub, 1) := by decide +kernel
theorem d_X12_buses_76 : decode (mC M_X12_buses) 76 = .ok (.iload_n 2, 1) := by decide +kernel
theorem d_X12_buses_77 : decode (mC M_X12_buses) 77 = .ok (.idiv, 1) := by decide +kernel
theorem d_X12_buses_78 : decode (mC M_X12_buses) 78 = .ok (.ireturn, 1) := by decide +kernel
theorem d_X12_called_0 : decode (mC M_X12_called) 0 = .ok (.aload_n 0, 1) := by decide +kernel
theorem d_X12_called_1 : decode (mC M_X12_called) 1 = .ok (.iconst 0, 1) := by decide +kernel
theorem d_X12_called_2 : decode (mC M_X12_called) 2 = .ok (.putfield 1, 3) := by decide +kernel
theorem d_X12_called_5 : decode (mC M_X12_called) 5 = .ok (.aload_n 0, 1) := by decide +kernel
theorem d_X12_called_6 : decode (mC M_X12_called) 6 = .ok (.iload_n 1, 1) := by decide +kernel
theorem d_X12_called_7 : decode (mC M_X12_called) 7 = .ok (.invokevirtual 159, 3) := by decide +kernel
theorem d_X12_called_10 : decode (mC M_X12_called) 10 = .ok (.ifCond .eq 12, 3) := by decide +kernel
theorem d_X12_called_13 : decode (mC M_X12_called) 13 = .ok (.aload_n 0, 1) := by decide +kernel
theorem d_X12_called_14 : decode (mC M_X12_called) 14 = .ok (.getfield 39, 3) := by decide +kernel
theorem d_X12_called_17 : decode (mC M_X12_called) 17 = .ok (.iload_n 1, 1) := by decide +kernel
theorem d_X12_called_18 : decode (mC M_X12_called) 18 = .ok (.iaload, 1) := by decide +kernel
theorem d_X12_called_19 : decode (mC M_X12_called) 19 = .ok (.goto 4, 3) := by decide +kernel
theorem d_X12_called_22 : decode (mC M_X12_called) 22 = .ok (.iconst (-1), 1) := by decide +kernel
theorem d_X12_called_23 : decode (mC M_X12_called) 23 = .ok (.ireturn, 1) := by decide +kernel
theorem d_X12_calledIn_0 : decode (mC M_X12_calledIn) 0 = .ok (.iconst 0, 1) := by decide +kernel
theorem d_X12_calledIn_1 : decode (mC M_X12_calledIn) 1 = .ok (.istore_n 2, 1) := by decide +kernel
theorem d_X12_calledIn_2 : decode (mC M_X12_calledIn) 2 = .ok (.iconst 0, 1) := by decide +kernel
theorem d_X12_calledIn_3 : decode (mC M_X12_calledIn) 3 = .ok (.istore_n 3, 1) := by decide +kernel
theorem d_X12_calledIn_4 : decode (mC M_X12_calledIn) 4 = .ok (.iload_n 3, 1) := by decide +kernel
theorem d_X12_calledIn_5 : decode (mC M_X12_calledIn) 5 = .ok (.aload_n 0, 1) := by decide +kernel
theorem d_X12_calledIn_6 : decode (mC M_X12_calledIn) 6 = .ok (.getfield 151, 3) := by decide +kernel
theorem d_X12_calledIn_9 : decode (mC M_X12_calledIn) 9 = .ok (.if_icmp .ge 22, 3) := by decide +kernel
theorem d_X12_calledIn_12 : decode (mC M_X12_calledIn) 12 = .ok (.aload_n 0, 1) := by decide +kernel
theorem d_X12_calledIn_13 : decode (mC M_X12_calledIn) 13 = .ok (.getfield 39, 3) := by decide +kernel
theorem d_X12_calledIn_16 : decode (mC M_X12_calledIn) 16 = .ok (.iload_n 3, 1) := by decide +kernel
theorem d_X12_calledIn_17 : decode (mC M_X12_calledIn) 17 = .ok (.iaload, 1) := by decide +kernel
theorem d_X12_calledIn_18 : decode (mC M_X12_calledIn) 18 = .ok (.iload_n 1, 1) := by decide +kernel
theorem d_X12_calledIn_19 : decode (mC M_X12_calledIn) 19 = .ok (.if_icmp .ne 6, 3) := by decide +kernel
theorem d_X12_calledIn_22 : decode (mC M_X12_calledIn) 22 = .ok (.iinc 2 1, 3) := by decide +kernel
theorem d_X12_calledIn_25 : decode (mC M_X12_calledIn) 25 = .ok (.iinc 3 1, 3) := by decide +kernel
theorem d_X12_calledIn_28 : decode (mC M_X12_calledIn) 28 = .ok (.goto (-24), 3) := by decide +kernel
theorem d_X12_calledIn_31 : decode (mC M_X12_calledIn) 31 = .ok (.iload_n 2, 1) := by decide +kernel
theorem d_X12_calledIn_32 : decode (mC M_X12_calledIn) 32 = .ok (.ireturn, 1) := by decide +kernel
theorem d_X12_canBe_0 : decode (mC M_X12_canBe) 0 = .ok (.aload_n 0, 1) := by decide +kernel
theorem d_X12_canBe_1 : decode (mC M_X12_canBe) 1 = .ok (.getfield 29, 3) := by decide +kernel
theorem d_X12_canBe_4 : decode (mC M_X12_canBe) 4 = .ok (.iload_n 1, 1) := by decide +kernel
theorem d_X12_canBe_5 : decode (mC M_X12_canBe) 5 = .ok (.baload, 1) := by decide +kernel
theorem d_X12_canBe_6 : decode (mC M_X12_canBe) 6 = .ok (.ifCond .ne 40, 3) := by decide +kernel
theorem d_X12_canBe_9 : decode (mC M_X12_canBe) 9 = .ok (.aload_n 0, 1) := by decide +kernel
theorem d_X12_canBe_10 : decode (mC M_X12_canBe) 10 = .ok (.getfield 36, 3) := by decide +kernel
theorem d_X12_canBe_13 : decode (mC M_X12_canBe) 13 = .ok (.iload_n 1, 1) := by decide +kernel
theorem d_X12_canBe_14 : decode (mC M_X12_canBe) 14 = .ok (.iaload, 1) := by decide +kernel
theorem d_X12_canBe_15 : decode (mC M_X12_canBe) 15 = .ok (.sipush 1440, 3) := by decide +kernel
theorem d_X12_canBe_18 : decode (mC M_X12_canBe) 18 = .ok (.aload_n 0, 1) := by decide +kernel
theorem d_X12_canBe_19 : decode (mC M_X12_canBe) 19 = .ok (.getfield 304, 3) := by decide +kernel
theorem d_X12_canBe_22 : decode (mC M_X12_canBe) 22 = .ok (.imul, 1) := by decide +kernel
theorem d_X12_canBe_23 : decode (mC M_X12_canBe) 23 = .ok (.aload_n 0, 1) := by decide +kernel
theorem d_X12_canBe_24 : decode (mC M_X12_canBe) 24 = .ok (.getfield 61, 3) := by decide +kernel
theorem d_X12_canBe_27 : decode (mC M_X12_canBe) 27 = .ok (.iload_n 2, 1) := by decide +kernel
theorem d_X12_canBe_28 : decode (mC M_X12_canBe) 28 = .ok (.iaload, 1) := by decide +kernel
theorem d_X12_canBe_29 : decode (mC M_X12_canBe) 29 = .ok (.iadd, 1) := by decide +kernel
theorem d_X12_canBe_30 : decode (mC M_X12_canBe) 30 = .ok (.if_icmp .gt 16, 3) := by decide +kernel
theorem d_X12_canBe_33 : decode (mC M_X12_canBe) 33 = .ok (.aload_n 0, 1) := by decide +kernel
theorem d_X12_canBe_34 : decode (mC M_X12_canBe) 34 = .ok (.iload_n 1, 1) := by decide +kernel
theorem d_X12_canBe_35 : decode (mC M_X12_canBe) 35 = .ok (.iload_n 2, 1) := by decide +kernel
theorem d_X12_canBe_36 : decode (mC M_X12_canBe) 36 = .ok (.invokevirtual 307, 3) := by decide +kernel
theorem d_X12_canBe_39 : decode (mC M_X12_canBe) 39 = .ok (.ifCond .eq 7, 3) := by decide +kernel
theorem d_X12_canBe_42 : decode (mC M_X12_canBe) 42 = .ok (.iconst 1, 1) := by decide +kernel
theorem d_X12_canBe_43 : decode (mC M_X12_canBe) 43 = .ok (.goto 4, 3) := by decide +kernel
theorem d_X12_canBe_46 : decode (mC M_X12_canBe) 46 = .ok (.iconst 0, 1) := by decide +kernel
theorem d_X12_canBe_47 : decode (mC M_X12_canBe) 47 = .ok (.ireturn, 1) := by decide +kernel
theorem d_X12_count_0 : decode (mC M_X12_count) 0 = .ok (.aload_n 0, 1) := by decide +kernel
theorem d_X12_count_1 : decode (mC M_X12_count) 1 = .ok (.iconst 0, 1) := by decide +kernel
theorem d_X12_count_2 : decode (mC M_X12_count) 2 = .ok (.putfield 1, 3) := by decide +kernel
theorem d_X12_count_5 : decode (mC M_X12_count) 5 = .ok (.iload_n 1, 1) := by decide +kernel
theorem d_X12_count_6 : decode (mC M_X12_count) 6 = .ok (.tableswitch 86 0 7 #[46, 51, 56, 61, 66, 71, 76, 81], 46) := by decide +kernel
theorem d_X12_count_52 : decode (mC M_X12_count) 52 = .ok (.aload_n 0, 1) := by decide +kernel
theorem d_X12_count_53 : decode (mC M_X12_count) 53 = .ok (.getfield 151, 3) := by decide +kernel
theorem d_X12_count_56 : decode (mC M_X12_count) 56 = .ok (.ireturn, 1) := by decide +kernel
theorem d_X12_count_57 : decode (mC M_X12_count) 57 = .ok (.aload_n 0, 1) := by decide +kernel
theorem d_X12_count_58 : decode (mC M_X12_count) 58 = .ok (.getfield 298, 3) := by decide +kernel
theorem d_X12_count_61 : decode (mC M_X12_count) 61 = .ok (.ireturn, 1) := by decide +kernel
theorem d_X12_count_62 : decode (mC M_X12_count) 62 = .ok (.aload_n 0, 1) := by decide +kernel
theorem d_X12_count_63 : decode (mC M_X12_count) 63 = .ok (.getfield 345, 3) := by decide +kernel
theorem d_X12_count_66 : decode (mC M_X12_count) 66 = .ok (.ireturn, 1) := by decide +kernel
theorem d_X12_count_67 : decode (mC M_X12_count) 67 = .ok (.aload_n 0, 1) := by decide +kernel
theorem d_X12_count_68 : decode (mC M_X12_count) 68 = .ok (.getfield 163, 3) := by decide +kernel
theorem d_X12_count_71 : decode (mC M_X12_count) 71 = .ok (.ireturn, 1) := by decide +kernel
theorem d_X12_count_72 : decode (mC M_X12_count) 72 = .ok (.aload_n 0, 1) := by decide +kernel
theorem d_X12_count_73 : decode (mC M_X12_count) 73 = .ok (.getfield 304, 3) := by decide +kernel
theorem d_X12_count_76 : decode (mC M_X12_count) 76 = .ok (.ireturn, 1) := by decide +kernel
theorem d_X12_count_77 : decode (mC M_X12_count) 77 = .ok (.aload_n 0, 1) := by decide +kernel
theorem d_X12_count_78 : decode (mC M_X12_count) 78 = .ok (.invokevirtual 387, 3) := by decide +kernel
theorem d_X12_count_81 : decode (mC M_X12_count) 81 = .ok (.ireturn, 1) := by decide +kernel
theorem d_X12_count_82 : decode (mC M_X12_count) 82 = .ok (.aload_n 0, 1) := by decide +kernel
theorem d_X12_count_83 : decode (mC M_X12_count) 83 = .ok (.getfield 177, 3) := by decide +kernel
theorem d_X12_count_86 : decode (mC M_X12_count) 86 = .ok (.ireturn, 1) := by decide +kernel
theorem d_X12_count_87 : decode (mC M_X12_count) 87 = .ok (.aload_n 0, 1) := by decide +kernel
theorem d_X12_count_88 : decode (mC M_X12_count) 88 = .ok (.getfield 375, 3) := by decide +kernel
theorem d_X12_count_91 : decode (mC M_X12_count) 91 = .ok (.ireturn, 1) := by decide +kernel
theorem d_X12_count_92 : decode (mC M_X12_count) 92 = .ok (.iconst (-1), 1) := by decide +kernel
theorem d_X12_count_93 : decode (mC M_X12_count) 93 = .ok (.ireturn, 1) := by decide +kernel
theorem d_X12_doesFit_0 : decode (mC M_X12_doesFit) 0 = .ok (.aload_n 0, 1) := by decide +kernel
theorem d_X12_doesFit_1 : decode (mC M_X12_doesFit) 1 = .ok (.iconst 0, 1) := by decide +kernel
theorem d_X12_doesFit_2 : decode (mC M_X12_doesFit) 2 = .ok (.putfield 221, 3) := by decide +kernel
theorem d_X12_doesFit_5 : decode (mC M_X12_doesFit) 5 = .ok (.aload_n 0, 1) := by decide +kernel
theorem d_X12_doesFit_6 : decode (mC M_X12_doesFit) 6 = .ok (.iconst 0, 1) := by decide +kernel
theorem d_X12_doesFit_7 : decode (mC M_X12_doesFit) 7 = .ok (.putfield 263, 3) := by decide +kernel
theorem d_X12_doesFit_10 : decode (mC M_X12_doesFit) 10 = .ok (.aload_n 0, 1) := by decide +kernel
theorem d_X12_doesFit_11 : decode (mC M_X12_doesFit) 11 = .ok (.iload_n 1, 1) := by decide +kernel
theorem d_X12_doesFit_12 : decode (mC M_X12_doesFit) 12 = .ok (.putfield 267, 3) := by decide +kernel
theorem d_X12_doesFit_15 : decode (mC M_X12_doesFit) 15 = .ok (.aload_n 0, 1) := by decide +kernel
theorem d_X12_doesFit_16 : decode (mC M_X12_doesFit) 16 = .ok (.aload_n 0, 1) := by decide +kernel
theorem d_X12_doesFit_17 : decode (mC M_X12_doesFit) 17 = .ok (.getfield 55, 3) := by decide +kernel
theorem d_X12_doesFit_20 : decode (mC M_X12_doesFit) 20 = .ok (.aload_n 0, 1) := by decide +kernel
theorem d_X12_doesFit_21 : decode (mC M_X12_doesFit) 21 = .ok (.getfield 295, 3) := by decide +kernel
theorem d_X12_doesFit_24 : decode (mC M_X12_doesFit) 24 = .ok (.aload_n 0, 1) := by decide +kernel
theorem d_X12_doesFit_25 : decode (mC M_X12_doesFit) 25 = .ok (.getfield 70, 3) := by decide +kernel
theorem d_X12_doesFit_28 : decode (mC M_X12_doesFit) 28 = .ok (.iload_n 2, 1) := by decide +kernel
theorem d_X12_doesFit_29 : decode (mC M_X12_doesFit) 29 = .ok (.iaload, 1) := by decide +kernel
theorem d_X12_doesFit_30 : decode (mC M_X12_doesFit) 30 = .ok (.invokevirtual 288, 3) := by decide +kernel
theorem d_X12_doesFit_33 : decode (mC M_X12_doesFit) 33 = .ok (.aload_n 0, 1) := by decide +kernel
theorem d_X12_doesFit_34 : decode (mC M_X12_doesFit) 34 = .ok (.iconst 0, 1) := by decide +kernel
theorem d_X12_doesFit_35 : decode (mC M_X12_doesFit) 35 = .ok (.invokevirtual 250, 3) := by decide +kernel
theorem d_X12_doesFit_38 : decode (mC M_X12_doesFit) 38 = .ok (.ireturn, 1) := by decide +kernel
theorem d_X12_dresses_0 : decode (mC M_X12_dresses) 0 = .ok (.iconst 0, 1) := by decide +kernel
theorem d_X12_dresses_1 : decode (mC M_X12_dresses) 1 = .ok (.istore_n 2, 1) := by decide +kernel
theorem d_X12_dresses_2 : decode (mC M_X12_dresses) 2 = .ok (.iload_n 2, 1) := by decide +kernel
theorem d_X12_dresses_3 : decode (mC M_X12_dresses) 3 = .ok (.iload_n 1, 1) := by decide +kernel
theorem d_X12_dresses_4 : decode (mC M_X12_dresses) 4 = .ok (.if_icmp .ge 16, 3) := by decide +kernel
theorem d_X12_dresses_7 : decode (mC M_X12_dresses) 7 = .ok (.aload_n 0, 1) := by decide +kernel
theorem d_X12_dresses_8 : decode (mC M_X12_dresses) 8 = .ok (.getfield 136, 3) := by decide +kernel
theorem d_X12_dresses_11 : decode (mC M_X12_dresses) 11 = .ok (.iload_n 2, 1) := by decide +kernel
theorem d_X12_dresses_12 : decode (mC M_X12_dresses) 12 = .ok (.iconst 0, 1) := by decide +kernel
theorem d_X12_dresses_13 : decode (mC M_X12_dresses) 13 = .ok (.iastore, 1) := by decide +kernel
theorem d_X12_dresses_14 : decode (mC M_X12_dresses) 14 = .ok (.iinc 2 1, 3) := by decide +kernel
theorem d_X12_dresses_17 : decode (mC M_X12_dresses) 17 = .ok (.goto (-15), 3) := by decide +kernel
theorem d_X12_dresses_20 : decode (mC M_X12_dresses) 20 = .ok (.iconst 0, 1) := by decide +kernel
theorem d_X12_dresses_21 : decode (mC M_X12_dresses) 21 = .ok (.istore_n 2, 1) := by decide +kernel
theorem d_X12_dresses_22 : decode (mC M_X12_dresses) 22 = .ok (.iload_n 2, 1) := by decide +kernel
theorem d_X12_dresses_23 : decode (mC M_X12_dresses) 23 = .ok (.aload_n 0, 1) := by decide +kernel
theorem d_X12_dresses_24 : decode (mC M_X12_dresses) 24 = .ok (.getfield 151, 3) := by decide +kernel
theorem d_X12_dresses_27 : decode (mC M_X12_dresses) 27 = .ok (.if_icmp .ge 16, 3) := by decide +kernel
theorem d_X12_dresses_30 : decode (mC M_X12_dresses) 30 = .ok (.aload_n 0, 1) := by decide +kernel
theorem d_X12_dresses_31 : decode (mC M_X12_dresses) 31 = .ok (.getfield 139, 3) := by decide +kernel
theorem d_X12_dresses_34 : decode (mC M_X12_dresses) 34 = .ok (.iload_n 2, 1) := by decide +kernel
theorem d_X12_dresses_35 : decode (mC M_X12_dresses) 35 = .ok (.iconst 0, 1) := by decide +kernel
theorem d_X12_dresses_36 : decode (mC M_X12_dresses) 36 = .ok (.bastore, 1) := by decide +kernel
theorem d_X12_dresses_37 : decode (mC M_X12_dresses) 37 = .ok (.iinc 2 1, 3) := by decide +kernel
theorem d_X12_dresses_40 : decode (mC M_X12_dresses) 40 = .ok (.goto (-18), 3) := by decide +kernel
theorem d_X12_dresses_43 : decode (mC M_X12_dresses) 43 = .ok (.aload_n 0, 1) := by decide +kernel
theorem d_X12_dresses_44 : decode (mC M_X12_dresses) 44 = .ok (.invokevirtual 362, 3) := by decide +kernel
theorem d_X12_dresses_47 : decode (mC M_X12_dresses) 47 = .ok (.istore_n 2, 1) := by decide +kernel
theorem d_X12_dresses_48 : decode (mC M_X12_dresses) 48 = .ok (.iload_n 2, 1) := by decide +kernel
theorem d_X12_dresses_49 : decode (mC M_X12_dresses) 49 = .ok (.iconst (-1), 1) := by decide +kernel
theorem d_X12_dresses_50 : decode (mC M_X12_dresses) 50 = .ok (.if_icmp .eq 94, 3) := by decide +kernel
theorem d_X12_dresses_53 : decode (mC M_X12_dresses) 53 = .ok (.iconst 0, 1) := by decide +kernel
theorem d_X12_dresses_54 : decode (mC M_X12_dresses) 54 = .ok (.istore_n 3, 1) := by decide +kernel
theorem d_X12_dresses_55 : decode (mC M_X12_dresses) 55 = .ok (.iconst 1, 1) := by decide +kernel
theorem d_X12_dresses_56 : decode (mC M_X12_dresses) 56 = .ok (.istore 4, 2) := by decide +kernel
theorem d_X12_dresses_58 : decode (mC M_X12_dresses) 58 = .ok (.iload 4, 2) := by decide +kernel
theorem d_X12_dresses_60 : decode (mC M_X12_dresses) 60 = .ok (.iload_n 1, 1) := by decide +kernel
theorem d_X12_dresses_61 : decode (mC M_X12_dresses) 61 = .ok (.if_icmp .ge 28, 3) := by decide +kernel
theorem d_X12_dresses_64 : decode (mC M_X12_dresses) 64 = .ok (.aload_n 0, 1) := by decide +kernel
theorem d_X12_dresses_65 : decode (mC M_X12_dresses) 65 = .ok (.getfield 136, 3) := by decide +kernel
theorem d_X12_dresses_68 : decode (mC M_X12_dresses) 68 = .ok (.iload 4, 2) := by decide +kernel
theorem d_X12_dresses_70 : decode (mC M_X12_dresses) 70 = .ok (.iaload, 1) := by decide +kernel
theorem d_X12_dresses_71 : decode (mC M_X12_dresses) 71 = .ok (.aload_n 0, 1) := by decide +kernel
theorem d_X12_dresses_72 : decode (mC M_X12_dresses) 72 = .ok (.getfield 136, 3) := by decide +kernel
theorem d_X12_dresses_75 : decode (mC M_X12_dresses) 75 = .ok (.iload_n 3, 1) := by decide +kernel
theorem d_X12_dresses_76 : decode (mC M_X12_dresses) 76 = .ok (.iaload, 1) := by decide +kernel
theorem d_X12_dresses_77 : decode (mC M_X12_dresses) 77 = .ok (.if_icmp .ge 6, 3) := by decide +kernel
theorem d_X12_dresses_80 : decode (mC M_X12_dresses) 80 = .ok (.iload 4, 2) := by decide +kernel
theorem d_X12_dresses_82 : decode (mC M_X12_dresses) 82 = .ok (.istore_n 3, 1) := by decide +kernel
theorem d_X12_dresses_83 : decode (mC M_X12_dresses) 83 = .ok (.iinc 4 1, 3) := by decide +kernel
theorem d_X12_dresses_86 : decode (mC M_X12_dresses) 86 = .ok (.goto (-28), 3) := by decide +kernel
theorem d_X12_dresses_89 : decode (mC M_X12_dresses) 89 = .ok (.aload_n 0, 1) := by decide +kernel
theorem d_X12_dresses_90 : decode (mC M_X12_dresses) 90 = .ok (.getfield 145, 3) := by decide +kernel
theorem d_X12_dresses_93 : decode (mC M_X12_dresses) 93 = .ok (.iload_n 2, 1) := by decide +kernel
theorem d_X12_dresses_94 : decode (mC M_X12_dresses) 94 = .ok (.aload_n 0, 1) := by decide +kernel
theorem d_X12_dresses_95 : decode (mC M_X12_dresses) 95 = .ok (.getfield 136, 3) := by decide +kernel
theorem d_X12_dresses_98 : decode (mC M_X12_dresses) 98 = .ok (.iload_n 3, 1) := by decide +kernel
theorem d_X12_dresses_99 : decode (mC M_X12_dresses) 99 = .ok (.iaload, 1) := by decide +kernel
theorem d_X12_dresses_100 : decode (mC M_X12_dresses) 100 = .ok (.aload_n 0, 1) := by decide +kernel
theorem d_X12_dresses_101 : decode (mC M_X12_dresses) 101 = .ok (.getfield 142, 3) := by decide +kernel
theorem d_X12_dresses_104 : decode (mC M_X12_dresses) 104 = .ok (.iload_n 2, 1) := by decide +kernel
theorem d_X12_dresses_105 : decode (mC M_X12_dresses) 105 = .ok (.iaload, 1) := by decide +kernel
theorem d_X12_dresses_106 : decode (mC M_X12_dresses) 106 = .ok (.invokestatic 365, 3) := by decide +kernel
theorem d_X12_dresses_109 : decode (mC M_X12_dresses) 109 = .ok (.aload_n 0, 1) := by decide +kernel
theorem d_X12_dresses_110 : decode (mC M_X12_dresses) 110 = .ok (.getfield 26, 3) := by decide +kernel
theorem d_X12_dresses_113 : decode (mC M_X12_dresses) 113 = .ok (.iload_n 2, 1) := by decide +kernel
theorem d_X12_dresses_114 : decode (mC M_X12_dresses) 114 = .ok (.iaload, 1) := by decide +kernel
theorem d_X12_dresses_115 : decode (mC M_X12_dresses) 115 = .ok (.iadd, 1) := by decide +kernel
theorem d_X12_dresses_116 : decode (mC M_X12_dresses) 116 = .ok (.iastore, 1) := by decide +kernel
theorem d_X12_dresses_117 : decode (mC M_X12_dresses) 117 = .ok (.aload_n 0, 1) := by decide +kernel
theorem d_X12_dresses_118 : decode (mC M_X12_dresses) 118 = .ok (.getfield 136, 3) := by decide +kernel
theorem d_X12_dresses_121 : decode (mC M_X12_dresses) 121 = .ok (.iload_n 3, 1) := by decide +kernel
theorem d_X12_dresses_122 : decode (mC M_X12_dresses) 122 = .ok (.aload_n 0, 1) := by decide +kernel
theorem d_X12_dresses_123 : decode (mC M_X12_dresses) 123 = .ok (.getfield 145, 3) := by decide +kernel
theorem d_X12_dresses_126 : decode (mC M_X12_dresses) 126 = .ok (.iload_n 2, 1) := by decide +kernel
theorem d_X12_dresses_127 : decode (mC M_X12_dresses) 127 = .ok (.iaload, 1) := by decide +kernel
theorem d_X12_dresses_128 : decode (mC M_X12_dresses) 128 = .ok (.iastore, 1) := by decide +kernel
theorem d_X12_dresses_129 : decode (mC M_X12_dresses) 129 = .ok (.aload_n 0, 1) := by decide +kernel
theorem d_X12_dresses_130 : decode (mC M_X12_dresses) 130 = .ok (.getfield 139, 3) := by decide +kernel
theorem d_X12_dresses_133 : decode (mC M_X12_dresses) 133 = .ok (.iload_n 2, 1) := by decide +kernel
theorem d_X12_dresses_134 : decode (mC M_X12_dresses) 134 = .ok (.iconst 1, 1) := by decide +kernel
theorem d_X12_dresses_135 : decode (mC M_X12_dresses) 135 = .ok (.bastore, 1) := by decide +kernel
theorem d_X12_dresses_136 : decode (mC M_X12_dresses) 136 = .ok (.aload_n 0, 1) := by decide +kernel
theorem d_X12_dresses_137 : decode (mC M_X12_dresses) 137 = .ok (.invokevirtual 362, 3) := by decide +kernel
theorem d_X12_dresses_140 : decode (mC M_X12_dresses) 140 = .ok (.istore_n 2, 1) := by decide +kernel
theorem d_X12_dresses_141 : decode (mC M_X12_dresses) 141 = .ok (.goto (-93), 3) := by decide +kernel
theorem d_X12_dresses_144 : decode (mC M_X12_dresses) 144 = .ok (.return_, 1) := by decide +kernel
theorem d_X12_either_0 : decode (mC M_X12_either) 0 = .ok (.aload_n 0, 1) := by decide +kernel
theorem d_X12_either_1 : decode (mC M_X12_either) 1 = .ok (.iload_n 1, 1) := by decide +kernel
theorem d_X12_either_2 : decode (mC M_X12_either) 2 = .ok (.invokevirtual 238, 3) := by decide +kernel
theorem d_X12_either_5 : decode (mC M_X12_either) 5 = .ok (.istore_n 2, 1) := by decide +kernel
theorem d_X12_either_6 : decode (mC M_X12_either) 6 = .ok (.aload_n 0, 1) := by decide +kernel
theorem d_X12_either_7 : decode (mC M_X12_either) 7 = .ok (.getfield 221, 3) := by decide +kernel
theorem d_X12_either_10 : decode (mC M_X12_either) 10 = .ok (.ifCond .ne 39, 3) := by decide +kernel
theorem d_X12_either_13 : decode (mC M_X12_either) 13 = .ok (.aload_n 0, 1) := by decide +kernel
theorem d_X12_either_14 : decode (mC M_X12_either) 14 = .ok (.ldc 241, 2) := by decide +kernel
theorem d_X12_either_16 : decode (mC M_X12_either) 16 = .ok (.invokevirtual 234, 3) := by decide +kernel
theorem d_X12_either_19 : decode (mC M_X12_either) 19 = .ok (.ifCond .eq 30, 3) := by decide +kernel
theorem d_X12_either_22 : decode (mC M_X12_either) 22 = .ok (.aload_n 0, 1) := by decide +kernel
theorem d_X12_either_23 : decode (mC M_X12_either) 23 = .ok (.invokevirtual 208, 3) := by decide +kernel
theorem d_X12_either_26 : decode (mC M_X12_either) 26 = .ok (.aload_n 0, 1) := by decide +kernel
theorem d_X12_either_27 : decode (mC M_X12_either) 27 = .ok (.iload_n 1, 1) := by decide +kernel
theorem d_X12_either_28 : decode (mC M_X12_either) 28 = .ok (.invokevirtual 238, 3) := by decide +kernel
theorem d_X12_either_31 : decode (mC M_X12_either) 31 = .ok (.istore_n 3, 1) := by decide +kernel
theorem d_X12_either_32 : decode (mC M_X12_either) 32 = .ok (.iload_n 2, 1) := by decide +kernel
theorem d_X12_either_33 : decode (mC M_X12_either) 33 = .ok (.ifCond .ne 7, 3) := by decide +kernel
theorem d_X12_either_36 : decode (mC M_X12_either) 36 = .ok (.iload_n 3, 1) := by decide +kernel
theorem d_X12_either_37 : decode (mC M_X12_either) 37 = .ok (.ifCond .eq 7, 3) := by decide +kernel
theorem d_X12_either_40 : decode (mC M_X12_either) 40 = .ok (.iconst 1, 1) := by decide +kernel
theorem d_X12_either_41 : decode (mC M_X12_either) 41 = .ok (.goto 4, 3) := by decide +kernel
theorem d_X12_either_44 : decode (mC M_X12_either) 44 = .ok (.iconst 0, 1) := by decide +kernel
theorem d_X12_either_45 : decode (mC M_X12_either) 45 = .ok (.istore_n 2, 1) := by decide +kernel
theorem d_X12_either_46 : decode (mC M_X12_either) 46 = .ok (.goto (-40), 3) := by decide +kernel
theorem d_X12_either_49 : decode (mC M_X12_either) 49 = .ok (.iload_n 2, 1) := by decide +kernel
theorem d_X12_either_50 : decode (mC M_X12_either) 50 = .ok (.ireturn, 1) := by decide +kernel
theorem d_X12_end_0 : decode (mC M_X12_end) 0 = .ok (.aload_n 0, 1) := by decide +kernel
theorem d_X12_end_1 : decode (mC M_X12_end) 1 = .ok (.iconst 0, 1) := by decide +kernel
theorem d_X12_end_2 : decode (mC M_X12_end) 2 = .ok (.putfield 1, 3) := by decide +kernel
theorem d_X12_end_5 : decode (mC M_X12_end) 5 = .ok (.iload_n 1, 1) := by decide +kernel
theorem d_X12_end_6 : decode (mC M_X12_end) 6 = .ok (.ifCond .lt 11, 3) := by decide +kernel
theorem d_X12_end_9 : decode (mC M_X12_end) 9 = .ok (.iload_n 1, 1) := by decide +kernel
theorem d_X12_end_10 : decode (mC M_X12_end) 10 = .ok (.aload_n 0, 1) := by decide +kernel
theorem d_X12_end_11 : decode (mC M_X12_end) 11 = .ok (.getfield 177, 3) := by decide +kernel
theorem d_X12_end_14 : decode (mC M_X12_end) 14 = .ok (.if_icmp .le 5, 3) := by decide +kernel
theorem d_X12_end_17 : decode (mC M_X12_end) 17 = .ok (.iconst (-1), 1) := by decide +kernel
theorem d_X12_end_18 : decode (mC M_X12_end) 18 = .ok (.ireturn, 1) := by decide +kernel
theorem d_X12_end_19 : decode (mC M_X12_end) 19 = .ok (.aload_n 0, 1) := by decide +kernel
theorem d_X12_end_20 : decode (mC M_X12_end) 20 = .ok (.iload_n 1, 1) := by decide +kernel
theorem d_X12_end_21 : decode (mC M_X12_end) 21 = .ok (.putfield 177, 3) := by decide +kernel
theorem d_X12_end_24 : decode (mC M_X12_end) 24 = .ok (.iload_n 1, 1) := by decide +kernel
theorem d_X12_end_25 : decode (mC M_X12_end) 25 = .ok (.ireturn, 1) := by decide +kernel
theorem d_X12_fact_0 : decode (mC M_X12_fact) 0 = .ok (.aload_n 0, 1) := by decide +kernel
theorem d_X12_fact_1 : decode (mC M_X12_fact) 1 = .ok (.getfield 42, 3) := by decide +kernel
theorem d_X12_fact_4 : decode (mC M_X12_fact) 4 = .ok (.aload_n 0, 1) := by decide +kernel
theorem d_X12_fact_5 : decode (mC M_X12_fact) 5 = .ok (.getfield 163, 3) := by decide +kernel
theorem d_X12_fact_8 : decode (mC M_X12_fact) 8 = .ok (.iload_n 1, 1) := by decide +kernel
theorem d_X12_fact_9 : decode (mC M_X12_fact) 9 = .ok (.iastore, 1) := by decide +kernel
theorem d_X12_fact_10 : decode (mC M_X12_fact) 10 = .ok (.aload_n 0, 1) := by decide +kernel
theorem d_X12_fact_11 : decode (mC M_X12_fact) 11 = .ok (.getfield 45, 3) := by decide +kernel
theorem d_X12_fact_14 : decode (mC M_X12_fact) 14 = .ok (.aload_n 0, 1) := by decide +kernel
theorem d_X12_fact_15 : decode (mC M_X12_fact) 15 = .ok (.getfield 163, 3) := by decide +kernel
theorem d_X12_fact_18 : decode (mC M_X12_fact) 18 = .ok (.iload_n 2, 1) := by decide +kernel
theorem d_X12_fact_19 : decode (mC M_X12_fact) 19 = .ok (.iastore, 1) := by decide +kernel
theorem d_X12_fact_20 : decode (mC M_X12_fact) 20 = .ok (.aload_n 0, 1) := by decide +kernel
theorem d_X12_fact_21 : decode (mC M_X12_fact) 21 = .ok (.dup, 1) := by decide +kernel
theorem d_X12_fact_22 : decode (mC M_X12_fact) 22 = .ok (.getfield 163, 3) := by decide +kernel
theorem d_X12_fact_25 : decode (mC M_X12_fact) 25 = .ok (.iconst 1, 1) := by decide +kernel
theorem d_X12_fact_26 : decode (mC M_X12_fact) 26 = .ok (.iadd, 1) := by decide +kernel
theorem d_X12_fact_27 : decode (mC M_X12_fact) 27 = .ok (.putfield 163, 3) := by decide +kernel
theorem d_X12_fact_30 : decode (mC M_X12_fact) 30 = .ok (.aload_n 0, 1) := by decide +kernel
theorem d_X12_fact_31 : decode (mC M_X12_fact) 31 = .ok (.getfield 163, 3) := by decide +kernel
theorem d_X12_fact_34 : decode (mC M_X12_fact) 34 = .ok (.iconst 1, 1) := by decide +kernel
theorem d_X12_fact_35 : decode (mC M_X12_fact) 35 = .ok (.isub, 1) := by decide +kernel
theorem d_X12_fact_36 : decode (mC M_X12_fact) 36 = .ok (.ireturn, 1) := by decide +kernel
theorem d_X12_fails_0 : decode (mC M_X12_fails) 0 = .ok (.aload_n 0, 1) := by decide +kernel
theorem d_X12_fails_1 : decode (mC M_X12_fails) 1 = .ok (.getfield 221, 3) := by decide +kernel
theorem d_X12_fails_4 : decode (mC M_X12_fails) 4 = .ok (.ifCond .eq 4, 3) := by decide +kernel
theorem d_X12_fails_7 : decode (mC M_X12_fails) 7 = .ok (.return_, 1) := by decide +kernel
theorem d_X12_fails_8 : decode (mC M_X12_fails) 8 = .ok (.aload_n 0, 1) := by decide +kernel
theorem d_X12_fails_9 : decode (mC M_X12_fails) 9 = .ok (.iload_n 1, 1) := by decide +kernel
theorem d_X12_fails_10 : decode (mC M_X12_fails) 10 = .ok (.putfield 221, 3) := by decide +kernel
theorem d_X12_fails_13 : decode (mC M_X12_fails) 13 = .ok (.aload_n 0, 1) := by decide +kernel
theorem d_X12_fails_14 : decode (mC M_X12_fails) 14 = .ok (.aload_n 0, 1) := by decide +kernel
theorem d_X12_fails_15 : decode (mC M_X12_fails) 15 = .ok (.getfield 189, 3) := by decide +kernel
theorem d_X12_fails_18 : decode (mC M_X12_fails) 18 = .ok (.putfield 224, 3) := by decide +kernel
theorem d_X12_fails_21 : decode (mC M_X12_fails) 21 = .ok (.return_, 1) := by decide +kernel
theorem d_X12_feed_0 : decode (mC M_X12_feed) 0 = .ok (.aload_n 0, 1) := by decide +kernel
theorem d_X12_feed_1 : decode (mC M_X12_feed) 1 = .ok (.iconst 0, 1) := by decide +kernel
theorem d_X12_feed_2 : decode (mC M_X12_feed) 2 = .ok (.putfield 1, 3) := by decide +kernel
theorem d_X12_feed_5 : decode (mC M_X12_feed) 5 = .ok (.aload_n 0, 1) := by decide +kernel
theorem d_X12_feed_6 : decode (mC M_X12_feed) 6 = .ok (.getfield 177, 3) := by decide +kernel
theorem d_X12_feed_9 : decode (mC M_X12_feed) 9 = .ok (.bipush 20, 2) := by decide +kernel
theorem d_X12_feed_11 : decode (mC M_X12_feed) 11 = .ok (.iadd, 1) := by decide +kernel
theorem d_X12_feed_12 : decode (mC M_X12_feed) 12 = .ok (.sipush 1000, 3) := by decide +kernel
theorem d_X12_feed_15 : decode (mC M_X12_feed) 15 = .ok (.if_icmp .le 5, 3) := by decide +kernel
theorem d_X12_feed_18 : decode (mC M_X12_feed) 18 = .ok (.iconst (-1), 1) := by decide +kernel
theorem d_X12_feed_19 : decode (mC M_X12_feed) 19 = .ok (.ireturn, 1) := by decide +kernel
theorem d_X12_feed_20 : decode (mC M_X12_feed) 20 = .ok (.iconst 0, 1) := by decide +kernel
theorem d_X12_feed_21 : decode (mC M_X12_feed) 21 = .ok (.istore 6, 2) := by decide +kernel
theorem d_X12_feed_23 : decode (mC M_X12_feed) 23 = .ok (.iload 6, 2) := by decide +kernel
theorem d_X12_feed_25 : decode (mC M_X12_feed) 25 = .ok (.bipush 20, 2) := by decide +kernel
theorem d_X12_feed_27 : decode (mC M_X12_feed) 27 = .ok (.if_icmp .ge 90, 3) := by decide +kernel
theorem d_X12_feed_30 : decode (mC M_X12_feed) 30 = .ok (.iload 6, 2) := by decide +kernel
theorem d_X12_feed_32 : decode (mC M_X12_feed) 32 = .ok (.iconst 4, 1) := by decide +kernel
theorem d_X12_feed_33 : decode (mC M_X12_feed) 33 = .ok (.if_icmp .ge 7, 3) := by decide +kernel
theorem d_X12_feed_36 : decode (mC M_X12_feed) 36 = .ok (.iload_n 1, 1) := by decide +kernel
theorem d_X12_feed_37 : decode (mC M_X12_feed) 37 = .ok (.goto 39, 3) := by decide +kernel
theorem d_X12_feed_40 : decode (mC M_X12_feed) 40 = .ok (.iload 6, 2) := by decide +kernel
theorem d_X12_feed_42 : decode (mC M_X12_feed) 42 = .ok (.bipush 8, 2) := by decide +kernel
theorem d_X12_feed_44 : decode (mC M_X12_feed) 44 = .ok (.if_icmp .ge 7, 3) := by decide +kernel
theorem d_X12_feed_47 : decode (mC M_X12_feed) 47 = .ok (.iload_n 2, 1) := by decide +kernel
theorem d_X12_feed_48 : decode (mC M_X12_feed) 48 = .ok (.goto 28, 3) := by decide +kernel
theorem d_X12_feed_51 : decode (mC M_X12_feed) 51 = .ok (.iload 6, 2) := by decide +kernel
theorem d_X12_feed_53 : decode (mC M_X12_feed) 53 = .ok (.bipush 12, 2) := by decide +kernel
theorem d_X12_feed_55 : decode (mC M_X12_feed) 55 = .ok (.if_icmp .ge 7, 3) := by decide +kernel
theorem d_X12_feed_58 : decode (mC M_X12_feed) 58 = .ok (.iload_n 3, 1) := by decide +kernel
theorem d_X12_feed_59 : decode (mC M_X12_feed) 59 = .ok (.goto 17, 3) := by decide +kernel
theorem d_X12_feed_62 : decode (mC M_X12_feed) 62 = .ok (.iload 6, 2) := by decide +kernel
theorem d_X12_feed_64 : decode (mC M_X12_feed) 64 = .ok (.bipush 16, 2) := by decide +kernel
theorem d_X12_feed_66 : decode (mC M_X12_feed) 66 = .ok (.if_icmp .ge 8, 3) := by decide +kernel
theorem d_X12_feed_69 : decode (mC M_X12_feed) 69 = .ok (.iload 4, 2) := by decide +kernel
theorem d_X12_feed_71 : decode (mC M_X12_feed) 71 = .ok (.goto 5, 3) := by decide +kernel
theorem d_X12_feed_74 : decode (mC M_X12_feed) 74 = .ok (.iload 5, 2) := by decide +kernel
